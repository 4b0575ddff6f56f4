/-! methods by name; words of the tables by place -/
theorem tin1 {w : Cond} (h : w ∈ tables_1_1) : w ∈ lw_tbl := List.mem_append_right _ (show w ∈ tables_1 from List.mem_append_left _ h)
theorem tin2 {w : Cond} (h : w ∈ tables_1_2) : w ∈ lw_tbl := List.mem_append_right _ (show w ∈ tables_1 from List.mem_append_right _ (List.mem_append_left _ h))
theorem tin3 {w : Cond} (h : w ∈ tables_1_3) : w ∈ lw_tbl := List.mem_append_right _ (show w ∈ tables_1 from List.mem_append_right _ (List.mem_append_right _ (List.mem_append_left _ h)))
theorem tin4 {w : Cond} (h : w ∈ tables_1_4) : w ∈ lw_tbl := List.mem_append_right _ (show w ∈ tables_1 from List.mem_append_right _ (List.mem_append_right _ (List.mem_append_right _ (List.mem_append_left _ h))))
theorem tin5 {w : Cond} (h : w ∈ tables_1_5) : w ∈ lw_tbl := List.mem_append_right _ (show w ∈ tables_1 from List.mem_append_right _ (List.mem_append_right _ (List.mem_append_right _ (List.mem_append_right _ (List.mem_append_left _ h)))))
theorem tin6 {w : Cond} (h : w ∈ tables_1_6) : w ∈ lw_tbl := List.mem_append_right _ (show w ∈ tables_1 from List.mem_append_right _ (List.mem_append_right _ (List.mem_append_right _ (List.mem_append_right _ (List.mem_append_right _ (List.mem_append_left _ h))))))
theorem tin7 {w : Cond} (h : w ∈ tables_1_7) : w ∈ lw_tbl := List.mem_append_right _ (show w ∈ tables_1 from List.mem_append_right _ (List.mem_append_right _ (List.mem_append_right _ (List.mem_append_right _ (List.mem_append_right _ (List.mem_append_right _ (List.mem_append_left _ h)))))))
theorem tin8 {w : Cond} (h : w ∈ tables_1_8) : w ∈ lw_tbl := List.mem_append_right _ (show w ∈ tables_1 from List.mem_append_right _ (List.mem_append_right _ (List.mem_append_right _ (List.mem_append_right _ (List.mem_append_right _ (List.mem_append_right _ (List.mem_append_right _ (List.mem_append_left _ h))))))))
theorem tin9 {w : Cond} (h : w ∈ tables_1_9) : w ∈ lw_tbl := List.mem_append_right _ (show w ∈ tables_1 from List.mem_append_right _ (List.mem_append_right _ (List.mem_append_right _ (List.mem_append_right _ (List.mem_append_right _ (List.mem_append_right _ (List.mem_append_right _ (List.mem_append_right _ (h)))))))))
abbrev KX0_init : MI := (yX0_init, cX0_init, 1, none, [])
theorem mX0_init : mC KX0_init 0 := ⟨⟨rfl, (tin1 (List.mem_of_getElem? (i := 131) rfl)), (tin1 (List.mem_of_getElem? (i := 5) rfl)), ⟨by decide +kernel, by decide +kernel⟩, by decide +kernel, by decide +kernel⟩, (tin1 (List.mem_of_getElem? (i := 130) rfl)), rfl, rfl⟩
abbrev KX0_answerTo : MI := (yX0_answerTo, cX0_answerTo, 2, (some .long), [])
theorem mX0_answerTo : mV KX0_answerTo 1 0 := ⟨⟨rfl, (tin6 (List.mem_of_getElem? (i := 1) rfl)), (tin1 (List.mem_of_getElem? (i := 5) rfl)), ⟨by decide +kernel, by decide +kernel⟩, by decide +kernel, by decide +kernel⟩, (tin5 (List.mem_of_getElem? (i := 239) rfl)), (tin6 (List.mem_of_getElem? (i := 0) rfl)), by decide +kernel, by decide +kernel⟩
abbrev KX0_settle : MI := (yX0_settle, cX0_settle, 7, none, [])
theorem mX0_settle : mV KX0_settle 3 0 := ⟨⟨rfl, (tin5 (List.mem_of_getElem? (i := 212) rfl)), (tin1 (List.mem_of_getElem? (i := 5) rfl)), ⟨by decide +kernel, by decide +kernel⟩, by decide +kernel, by decide +kernel⟩, (tin5 (List.mem_of_getElem? (i := 211) rfl)), (List.mem_append_left _ (List.mem_of_getElem? (i := 36) rfl)), by decide +kernel, by decide +kernel⟩
abbrev KX0_planStops : MI := (yX0_planStops, cX0_planStops, 7, none, [])
theorem mX0_planStops : mV KX0_planStops 3 0 := ⟨⟨rfl, (tin5 (List.mem_of_getElem? (i := 208) rfl)), (tin1 (List.mem_of_getElem? (i := 5) rfl)), ⟨by decide +kernel, by decide +kernel⟩, by decide +kernel, by decide +kernel⟩, (tin5 (List.mem_of_getElem? (i := 206) rfl)), (tin5 (List.mem_of_getElem? (i := 207) rfl)), by decide +kernel, by decide +kernel⟩
abbrev KX0_countLiftedIn : MI := (yX0_countLiftedIn, cX0_countLiftedIn, 7, (some .boolean), [])
theorem mX0_countLiftedIn : mV KX0_countLiftedIn 3 0 := ⟨⟨rfl, (tin5 (List.mem_of_getElem? (i := 216) rfl)), (tin1 (List.mem_of_getElem? (i := 5) rfl)), ⟨by decide +kernel, by decide +kernel⟩, by decide +kernel, by decide +kernel⟩, (tin5 (List.mem_of_getElem? (i := 215) rfl)), (List.mem_append_left _ (List.mem_of_getElem? (i := 37) rfl)), by decide +kernel, by decide +kernel⟩
abbrev KX0_carriedCells : MI := (yX0_carriedCells, cX0_carriedCells, 4, (some .int), [])
theorem mX0_carriedCells : mV KX0_carriedCells 1 0 := ⟨⟨rfl, (tin5 (List.mem_of_getElem? (i := 232) rfl)), (tin1 (List.mem_of_getElem? (i := 5) rfl)), ⟨by decide +kernel, by decide +kernel⟩, by decide +kernel, by decide +kernel⟩, (tin5 (List.mem_of_getElem? (i := 231) rfl)), (List.mem_append_left _ (List.mem_of_getElem? (i := 38) rfl)), by decide +kernel, by decide +kernel⟩
abbrev KX0_cellsToStop : MI := (yX0_cellsToStop, cX0_cellsToStop, 4, (some .int), [])
theorem mX0_cellsToStop : mS KX0_cellsToStop 2 := ⟨⟨rfl, (tin5 (List.mem_of_getElem? (i := 235) rfl)), (tin1 (List.mem_of_getElem? (i := 5) rfl)), ⟨by decide +kernel, by decide +kernel⟩, by decide +kernel, by decide +kernel⟩, (tin5 (List.mem_of_getElem? (i := 234) rfl))⟩
abbrev KX0_planWay : MI := (yX0_planWay, cX0_planWay, 11, none, [])
theorem mX0_planWay : mV KX0_planWay 2 0 := ⟨⟨rfl, (tin6 (List.mem_of_getElem? (i := 12) rfl)), (tin1 (List.mem_of_getElem? (i := 5) rfl)), ⟨by decide +kernel, by decide +kernel⟩, by decide +kernel, by decide +kernel⟩, (tin6 (List.mem_of_getElem? (i := 10) rfl)), (tin6 (List.mem_of_getElem? (i := 11) rfl)), by decide +kernel, by decide +kernel⟩
abbrev KX0_rowsAsked : MI := (yX0_rowsAsked, cX0_rowsAsked, 3, (some .int), [])
theorem mX0_rowsAsked : mS KX0_rowsAsked 1 := ⟨⟨rfl, (tin6 (List.mem_of_getElem? (i := 15) rfl)), (tin1 (List.mem_of_getElem? (i := 5) rfl)), ⟨by decide +kernel, by decide +kernel⟩, by decide +kernel, by decide +kernel⟩, (tin6 (List.mem_of_getElem? (i := 14) rfl))⟩
abbrev KX0_planHeaps : MI := (yX0_planHeaps, cX0_planHeaps, 6, none, [])
theorem mX0_planHeaps : mV KX0_planHeaps 3 0 := ⟨⟨rfl, (tin6 (List.mem_of_getElem? (i := 27) rfl)), (tin1 (List.mem_of_getElem? (i := 5) rfl)), ⟨by decide +kernel, by decide +kernel⟩, by decide +kernel, by decide +kernel⟩, (tin6 (List.mem_of_getElem? (i := 25) rfl)), (tin6 (List.mem_of_getElem? (i := 26) rfl)), by decide +kernel, by decide +kernel⟩
abbrev KX0_tryPairs : MI := (yX0_tryPairs, cX0_tryPairs, 8, none, [])
theorem mX0_tryPairs : mV KX0_tryPairs 4 0 := ⟨⟨rfl, (tin6 (List.mem_of_getElem? (i := 54) rfl)), (tin1 (List.mem_of_getElem? (i := 5) rfl)), ⟨by decide +kernel, by decide +kernel⟩, by decide +kernel, by decide +kernel⟩, (tin6 (List.mem_of_getElem? (i := 53) rfl)), (List.mem_append_left _ (List.mem_of_getElem? (i := 43) rfl)), by decide +kernel, by decide +kernel⟩
abbrev KX0_isHeapable : MI := (yX0_isHeapable, cX0_isHeapable, 3, (some .boolean), [])
theorem mX0_isHeapable : mS KX0_isHeapable 3 := ⟨⟨rfl, (tin6 (List.mem_of_getElem? (i := 43) rfl)), (tin1 (List.mem_of_getElem? (i := 5) rfl)), ⟨by decide +kernel, by decide +kernel⟩, by decide +kernel, by decide +kernel⟩, (tin6 (List.mem_of_getElem? (i := 42) rfl))⟩
abbrev KX0_tryHeaps : MI := (yX0_tryHeaps, cX0_tryHeaps, 3, none, [])
theorem mX0_tryHeaps : mV KX0_tryHeaps 2 0 := ⟨⟨rfl, (tin6 (List.mem_of_getElem? (i := 50) rfl)), (tin1 (List.mem_of_getElem? (i := 5) rfl)), ⟨by decide +kernel, by decide +kernel⟩, by decide +kernel, by decide +kernel⟩, (tin6 (List.mem_of_getElem? (i := 49) rfl)), (List.mem_append_left _ (List.mem_of_getElem? (i := 42) rfl)), by decide +kernel, by decide +kernel⟩
abbrev KX0_measureCarries : MI := (yX0_measureCarries, cX0_measureCarries, 3, none, [])
theorem mX0_measureCarries : mV KX0_measureCarries 1 0 := ⟨⟨rfl, (tin6 (List.mem_of_getElem? (i := 31) rfl)), (tin1 (List.mem_of_getElem? (i := 5) rfl)), ⟨by decide +kernel, by decide +kernel⟩, by decide +kernel, by decide +kernel⟩, (tin6 (List.mem_of_getElem? (i := 30) rfl)), (List.mem_append_left _ (List.mem_of_getElem? (i := 39) rfl)), by decide +kernel, by decide +kernel⟩
abbrev KX0_measureCarry : MI := (yX0_measureCarry, cX0_measureCarry, 4, none, [])
theorem mX0_measureCarry : mV KX0_measureCarry 1 0 := ⟨⟨rfl, (tin6 (List.mem_of_getElem? (i := 35) rfl)), (tin1 (List.mem_of_getElem? (i := 5) rfl)), ⟨by decide +kernel, by decide +kernel⟩, by decide +kernel, by decide +kernel⟩, (tin6 (List.mem_of_getElem? (i := 34) rfl)), (List.mem_append_left _ (List.mem_of_getElem? (i := 40) rfl)), by decide +kernel, by decide +kernel⟩
abbrev KX0_carriedBy : MI := (yX0_carriedBy, cX0_carriedBy, 5, (some .int), [])
theorem mX0_carriedBy : mV KX0_carriedBy 2 0 := ⟨⟨rfl, (tin6 (List.mem_of_getElem? (i := 40) rfl)), (tin1 (List.mem_of_getElem? (i := 5) rfl)), ⟨by decide +kernel, by decide +kernel⟩, by decide +kernel, by decide +kernel⟩, (tin6 (List.mem_of_getElem? (i := 39) rfl)), (List.mem_append_left _ (List.mem_of_getElem? (i := 41) rfl)), by decide +kernel, by decide +kernel⟩
abbrev KX0_planLine : MI := (yX0_planLine, cX0_planLine, 6, none, [])
theorem mX0_planLine : mV KX0_planLine 3 0 := ⟨⟨rfl, (tin6 (List.mem_of_getElem? (i := 65) rfl)), (tin1 (List.mem_of_getElem? (i := 5) rfl)), ⟨by decide +kernel, by decide +kernel⟩, by decide +kernel, by decide +kernel⟩, (tin6 (List.mem_of_getElem? (i := 63) rfl)), (tin6 (List.mem_of_getElem? (i := 64) rfl)), by decide +kernel, by decide +kernel⟩
abbrev KX0_planFirst : MI := (yX0_planFirst, cX0_planFirst, 5, none, [])
theorem mX0_planFirst : mV KX0_planFirst 3 0 := ⟨⟨rfl, (tin6 (List.mem_of_getElem? (i := 83) rfl)), (tin1 (List.mem_of_getElem? (i := 5) rfl)), ⟨by decide +kernel, by decide +kernel⟩, by decide +kernel, by decide +kernel⟩, (tin6 (List.mem_of_getElem? (i := 81) rfl)), (tin6 (List.mem_of_getElem? (i := 82) rfl)), by decide +kernel, by decide +kernel⟩
abbrev KX0_spendOn : MI := (yX0_spendOn, cX0_spendOn, 7, none, [])
theorem mX0_spendOn : mV KX0_spendOn 4 0 := ⟨⟨rfl, (tin6 (List.mem_of_getElem? (i := 92) rfl)), (tin1 (List.mem_of_getElem? (i := 5) rfl)), ⟨by decide +kernel, by decide +kernel⟩, by decide +kernel, by decide +kernel⟩, (tin6 (List.mem_of_getElem? (i := 91) rfl)), (List.mem_append_left _ (List.mem_of_getElem? (i := 44) rfl)), by decide +kernel, by decide +kernel⟩
abbrev KX0_planMix : MI := (yX0_planMix, cX0_planMix, 10, none, [])
theorem mX0_planMix : mV KX0_planMix 4 0 := ⟨⟨rfl, (tin6 (List.mem_of_getElem? (i := 104) rfl)), (tin1 (List.mem_of_getElem? (i := 5) rfl)), ⟨by decide +kernel, by decide +kernel⟩, by decide +kernel, by decide +kernel⟩, (tin6 (List.mem_of_getElem? (i := 102) rfl)), (tin6 (List.mem_of_getElem? (i := 103) rfl)), by decide +kernel, by decide +kernel⟩
abbrev KX1_init : MI := (yX1_init, cX1_init, 1, none, [])
theorem mX1_init : mC KX1_init 0 := ⟨⟨rfl, (tin2 (List.mem_of_getElem? (i := 102) rfl)), (tin1 (List.mem_of_getElem? (i := 11) rfl)), ⟨by decide +kernel, by decide +kernel⟩, by decide +kernel, by decide +kernel⟩, (tin2 (List.mem_of_getElem? (i := 101) rfl)), rfl, rfl⟩
abbrev KX1_forget : MI := (yX1_forget, cX1_forget, 1, none, [])
theorem mX1_forget : mV KX1_forget 0 1 := ⟨⟨rfl, (tin4 (List.mem_of_getElem? (i := 48) rfl)), (tin1 (List.mem_of_getElem? (i := 11) rfl)), ⟨by decide +kernel, by decide +kernel⟩, by decide +kernel, by decide +kernel⟩, (tin4 (List.mem_of_getElem? (i := 46) rfl)), (tin4 (List.mem_of_getElem? (i := 47) rfl)), by decide +kernel, by decide +kernel⟩
abbrev KX1_readBook : MI := (yX1_readBook, cX1_readBook, 4, none, [])
theorem mX1_readBook : mV KX1_readBook 2 1 := ⟨⟨rfl, (tin5 (List.mem_of_getElem? (i := 62) rfl)), (tin1 (List.mem_of_getElem? (i := 11) rfl)), ⟨by decide +kernel, by decide +kernel⟩, by decide +kernel, by decide +kernel⟩, (tin5 (List.mem_of_getElem? (i := 60) rfl)), (tin5 (List.mem_of_getElem? (i := 61) rfl)), by decide +kernel, by decide +kernel⟩
abbrev KX1_readLine : MI := (yX1_readLine, cX1_readLine, 6, none, [])
theorem mX1_readLine : mV KX1_readLine 2 1 := ⟨⟨rfl, (tin5 (List.mem_of_getElem? (i := 68) rfl)), (tin1 (List.mem_of_getElem? (i := 11) rfl)), ⟨by decide +kernel, by decide +kernel⟩, by decide +kernel, by decide +kernel⟩, (tin5 (List.mem_of_getElem? (i := 67) rfl)), (List.mem_append_left _ (List.mem_of_getElem? (i := 32) rfl)), by decide +kernel, by decide +kernel⟩
abbrev KX1_isTold : MI := (yX1_isTold, cX1_isTold, 3, (some .boolean), [])
theorem mX1_isTold : mV KX1_isTold 1 1 := ⟨⟨rfl, (tin5 (List.mem_of_getElem? (i := 75) rfl)), (tin1 (List.mem_of_getElem? (i := 11) rfl)), ⟨by decide +kernel, by decide +kernel⟩, by decide +kernel, by decide +kernel⟩, (tin5 (List.mem_of_getElem? (i := 74) rfl)), (List.mem_append_left _ (List.mem_of_getElem? (i := 33) rfl)), by decide +kernel, by decide +kernel⟩
abbrev KX1_fittingSizes : MI := (yX1_fittingSizes, cX1_fittingSizes, 4, (some .int), [])
theorem mX1_fittingSizes : mV KX1_fittingSizes 1 1 := ⟨⟨rfl, (tin2 (List.mem_of_getElem? (i := 207) rfl)), (tin1 (List.mem_of_getElem? (i := 11) rfl)), ⟨by decide +kernel, by decide +kernel⟩, by decide +kernel, by decide +kernel⟩, (tin2 (List.mem_of_getElem? (i := 205) rfl)), (tin2 (List.mem_of_getElem? (i := 206) rfl)), by decide +kernel, by decide +kernel⟩
abbrev KX1_isFitting : MI := (yX1_isFitting, cX1_isFitting, 5, (some .boolean), [])
theorem mX1_isFitting : mV KX1_isFitting 2 1 := ⟨⟨rfl, (tin2 (List.mem_of_getElem? (i := 211) rfl)), (tin1 (List.mem_of_getElem? (i := 11) rfl)), ⟨by decide +kernel, by decide +kernel⟩, by decide +kernel, by decide +kernel⟩, (tin2 (List.mem_of_getElem? (i := 210) rfl)), (List.mem_append_left _ (List.mem_of_getElem? (i := 3) rfl)), by decide +kernel, by decide +kernel⟩
abbrev KX1_nearestLine : MI := (yX1_nearestLine, cX1_nearestLine, 6, (some .int), [])
theorem mX1_nearestLine : mV KX1_nearestLine 1 1 := ⟨⟨rfl, (tin3 (List.mem_of_getElem? (i := 4) rfl)), (tin1 (List.mem_of_getElem? (i := 11) rfl)), ⟨by decide +kernel, by decide +kernel⟩, by decide +kernel, by decide +kernel⟩, (tin3 (List.mem_of_getElem? (i := 3) rfl)), (List.mem_append_left _ (List.mem_of_getElem? (i := 5) rfl)), by decide +kernel, by decide +kernel⟩
abbrev KX2_init : MI := (yX2_init, cX2_init, 1, none, [])
theorem mX2_init : mC KX2_init 0 := ⟨⟨rfl, (tin1 (List.mem_of_getElem? (i := 157) rfl)), (tin1 (List.mem_of_getElem? (i := 6) rfl)), ⟨by decide +kernel, by decide +kernel⟩, by decide +kernel, by decide +kernel⟩, (tin1 (List.mem_of_getElem? (i := 156) rfl)), rfl, rfl⟩
abbrev KX2_begin : MI := (yX2_begin, cX2_begin, 2, none, [])
theorem mX2_begin : mV KX2_begin 1 2 := ⟨⟨rfl, (tin6 (List.mem_of_getElem? (i := 123) rfl)), (tin1 (List.mem_of_getElem? (i := 6) rfl)), ⟨by decide +kernel, by decide +kernel⟩, by decide +kernel, by decide +kernel⟩, (tin6 (List.mem_of_getElem? (i := 122) rfl)), (List.mem_append_left _ (List.mem_of_getElem? (i := 45) rfl)), by decide +kernel, by decide +kernel⟩
abbrev KX2_yearOfEnough : MI := (yX2_yearOfEnough, cX2_yearOfEnough, 6, (some .int), [])
theorem mX2_yearOfEnough : mV KX2_yearOfEnough 4 2 := ⟨⟨rfl, (tin6 (List.mem_of_getElem? (i := 119) rfl)), (tin1 (List.mem_of_getElem? (i := 6) rfl)), ⟨by decide +kernel, by decide +kernel⟩, by decide +kernel, by decide +kernel⟩, (tin6 (List.mem_of_getElem? (i := 117) rfl)), (tin6 (List.mem_of_getElem? (i := 118) rfl)), by decide +kernel, by decide +kernel⟩
abbrev KX2_leftBehind : MI := (yX2_leftBehind, cX2_leftBehind, 6, (some .int), [])
theorem mX2_leftBehind : mV KX2_leftBehind 4 2 := ⟨⟨rfl, (tin6 (List.mem_of_getElem? (i := 153) rfl)), (tin1 (List.mem_of_getElem? (i := 6) rfl)), ⟨by decide +kernel, by decide +kernel⟩, by decide +kernel, by decide +kernel⟩, (tin6 (List.mem_of_getElem? (i := 151) rfl)), (tin6 (List.mem_of_getElem? (i := 152) rfl)), by decide +kernel, by decide +kernel⟩
abbrev KX2_spendYear : MI := (yX2_spendYear, cX2_spendYear, 6, none, [])
theorem mX2_spendYear : mV KX2_spendYear 2 2 := ⟨⟨rfl, (tin6 (List.mem_of_getElem? (i := 129) rfl)), (tin1 (List.mem_of_getElem? (i := 6) rfl)), ⟨by decide +kernel, by decide +kernel⟩, by decide +kernel, by decide +kernel⟩, (tin6 (List.mem_of_getElem? (i := 128) rfl)), (List.mem_append_left _ (List.mem_of_getElem? (i := 46) rfl)), by decide +kernel, by decide +kernel⟩
abbrev KX2_clearWithin : MI := (yX2_clearWithin, cX2_clearWithin, 5, (some .int), [])
theorem mX2_clearWithin : mV KX2_clearWithin 3 2 := ⟨⟨rfl, (tin6 (List.mem_of_getElem? (i := 135) rfl)), (tin1 (List.mem_of_getElem? (i := 6) rfl)), ⟨by decide +kernel, by decide +kernel⟩, by decide +kernel, by decide +kernel⟩, (tin6 (List.mem_of_getElem? (i := 134) rfl)), (List.mem_append_left _ (List.mem_of_getElem? (i := 47) rfl)), by decide +kernel, by decide +kernel⟩
abbrev KX2_harmOfFrost : MI := (yX2_harmOfFrost, cX2_harmOfFrost, 8, (some .int), [])
theorem mX2_harmOfFrost : mV KX2_harmOfFrost 5 2 := ⟨⟨rfl, (tin6 (List.mem_of_getElem? (i := 167) rfl)), (tin1 (List.mem_of_getElem? (i := 6) rfl)), ⟨by decide +kernel, by decide +kernel⟩, by decide +kernel, by decide +kernel⟩, (tin6 (List.mem_of_getElem? (i := 165) rfl)), (tin6 (List.mem_of_getElem? (i := 166) rfl)), by decide +kernel, by decide +kernel⟩
abbrev KX2_passFrost : MI := (yX2_passFrost, cX2_passFrost, 7, none, [])
theorem mX2_passFrost : mV KX2_passFrost 5 2 := ⟨⟨rfl, (tin6 (List.mem_of_getElem? (i := 184) rfl)), (tin1 (List.mem_of_getElem? (i := 6) rfl)), ⟨by decide +kernel, by decide +kernel⟩, by decide +kernel, by decide +kernel⟩, (tin6 (List.mem_of_getElem? (i := 182) rfl)), (tin6 (List.mem_of_getElem? (i := 183) rfl)), by decide +kernel, by decide +kernel⟩
abbrev KX2_passFrostyWinter : MI := (yX2_passFrostyWinter, cX2_passFrostyWinter, 4, none, [])
theorem mX2_passFrostyWinter : mV KX2_passFrostyWinter 2 2 := ⟨⟨rfl, (tin6 (List.mem_of_getElem? (i := 172) rfl)), (tin1 (List.mem_of_getElem? (i := 6) rfl)), ⟨by decide +kernel, by decide +kernel⟩, by decide +kernel, by decide +kernel⟩, (tin6 (List.mem_of_getElem? (i := 171) rfl)), (List.mem_append_left _ (List.mem_of_getElem? (i := 48) rfl)), by decide +kernel, by decide +kernel⟩
abbrev KX2_draw : MI := (yX2_draw, cX2_draw, 1, (some .int), [])
theorem mX2_draw : mV KX2_draw 0 2 := ⟨⟨rfl, (tin6 (List.mem_of_getElem? (i := 178) rfl)), (tin1 (List.mem_of_getElem? (i := 6) rfl)), ⟨by decide +kernel, by decide +kernel⟩, by decide +kernel, by decide +kernel⟩, (tin6 (List.mem_of_getElem? (i := 177) rfl)), (List.mem_append_left _ (List.mem_of_getElem? (i := 49) rfl)), by decide +kernel, by decide +kernel⟩
abbrev KX2_howMany : MI := (yX2_howMany, cX2_howMany, 1, (some .int), [])
theorem mX2_howMany : mV KX2_howMany 0 2 := ⟨⟨rfl, (tin6 (List.mem_of_getElem? (i := 188) rfl)), (tin1 (List.mem_of_getElem? (i := 6) rfl)), ⟨by decide +kernel, by decide +kernel⟩, by decide +kernel, by decide +kernel⟩, (tin6 (List.mem_of_getElem? (i := 186) rfl)), (tin6 (List.mem_of_getElem? (i := 187) rfl)), by decide +kernel, by decide +kernel⟩
abbrev KX2_allSizes : MI := (yX2_allSizes, cX2_allSizes, 1, (some .int), [])
theorem mX2_allSizes : mV KX2_allSizes 0 2 := ⟨⟨rfl, (tin6 (List.mem_of_getElem? (i := 192) rfl)), (tin1 (List.mem_of_getElem? (i := 6) rfl)), ⟨by decide +kernel, by decide +kernel⟩, by decide +kernel, by decide +kernel⟩, (tin6 (List.mem_of_getElem? (i := 190) rfl)), (tin6 (List.mem_of_getElem? (i := 191) rfl)), by decide +kernel, by decide +kernel⟩
abbrev KX3_init : MI := (yX3_init, cX3_init, 1, none, [])
theorem mX3_init : mC KX3_init 0 := ⟨⟨rfl, (tin2 (List.mem_of_getElem? (i := 1) rfl)), (tin1 (List.mem_of_getElem? (i := 8) rfl)), ⟨by decide +kernel, by decide +kernel⟩, by decide +kernel, by decide +kernel⟩, (tin2 (List.mem_of_getElem? (i := 0) rfl)), rfl, rfl⟩
abbrev KX3_forget : MI := (yX3_forget, cX3_forget, 1, none, [])
theorem mX3_forget : mV KX3_forget 0 3 := ⟨⟨rfl, (tin2 (List.mem_of_getElem? (i := 25) rfl)), (tin1 (List.mem_of_getElem? (i := 8) rfl)), ⟨by decide +kernel, by decide +kernel⟩, by decide +kernel, by decide +kernel⟩, (tin2 (List.mem_of_getElem? (i := 24) rfl)), (List.mem_append_left _ (List.mem_of_getElem? (i := 0) rfl)), by decide +kernel, by decide +kernel⟩
abbrev KX3_swapHarm : MI := (yX3_swapHarm, cX3_swapHarm, 3, (some (.object "FieldStones$Law")), [])
theorem mX3_swapHarm : mV KX3_swapHarm 1 3 := ⟨⟨rfl, (tin4 (List.mem_of_getElem? (i := 111) rfl)), (tin1 (List.mem_of_getElem? (i := 8) rfl)), ⟨by decide +kernel, by decide +kernel⟩, by decide +kernel, by decide +kernel⟩, (tin4 (List.mem_of_getElem? (i := 109) rfl)), (tin4 (List.mem_of_getElem? (i := 110) rfl)), by decide +kernel, by decide +kernel⟩
abbrev KX3_swapRise : MI := (yX3_swapRise, cX3_swapRise, 3, (some (.object "FieldStones$Law")), [])
theorem mX3_swapRise : mV KX3_swapRise 1 3 := ⟨⟨rfl, (tin4 (List.mem_of_getElem? (i := 115) rfl)), (tin1 (List.mem_of_getElem? (i := 8) rfl)), ⟨by decide +kernel, by decide +kernel⟩, by decide +kernel, by decide +kernel⟩, (tin4 (List.mem_of_getElem? (i := 113) rfl)), (tin4 (List.mem_of_getElem? (i := 114) rfl)), by decide +kernel, by decide +kernel⟩
abbrev KX3_hasCell : MI := (yX3_hasCell, cX3_hasCell, 2, (some .boolean), [])
theorem mX3_hasCell : mV KX3_hasCell 1 3 := ⟨⟨rfl, (tin3 (List.mem_of_getElem? (i := 37) rfl)), (tin1 (List.mem_of_getElem? (i := 8) rfl)), ⟨by decide +kernel, by decide +kernel⟩, by decide +kernel, by decide +kernel⟩, (tin3 (List.mem_of_getElem? (i := 35) rfl)), (tin3 (List.mem_of_getElem? (i := 36) rfl)), by decide +kernel, by decide +kernel⟩
abbrev KX3_soilOf : MI := (yX3_soilOf, cX3_soilOf, 2, (some .int), [])
theorem mX3_soilOf : mV KX3_soilOf 1 3 := ⟨⟨rfl, (tin5 (List.mem_of_getElem? (i := 16) rfl)), (tin1 (List.mem_of_getElem? (i := 8) rfl)), ⟨by decide +kernel, by decide +kernel⟩, by decide +kernel, by decide +kernel⟩, (tin5 (List.mem_of_getElem? (i := 14) rfl)), (tin5 (List.mem_of_getElem? (i := 15) rfl)), by decide +kernel, by decide +kernel⟩
abbrev KX3_readField : MI := (yX3_readField, cX3_readField, 4, none, [])
theorem mX3_readField : mV KX3_readField 2 3 := ⟨⟨rfl, (tin3 (List.mem_of_getElem? (i := 168) rfl)), (tin1 (List.mem_of_getElem? (i := 8) rfl)), ⟨by decide +kernel, by decide +kernel⟩, by decide +kernel, by decide +kernel⟩, (tin3 (List.mem_of_getElem? (i := 166) rfl)), (tin3 (List.mem_of_getElem? (i := 167) rfl)), by decide +kernel, by decide +kernel⟩
abbrev KX3_readClause : MI := (yX3_readClause, cX3_readClause, 5, none, [])
theorem mX3_readClause : mV KX3_readClause 3 3 := ⟨⟨rfl, (tin3 (List.mem_of_getElem? (i := 189) rfl)), (tin1 (List.mem_of_getElem? (i := 8) rfl)), ⟨by decide +kernel, by decide +kernel⟩, by decide +kernel, by decide +kernel⟩, (tin3 (List.mem_of_getElem? (i := 188) rfl)), (List.mem_append_left _ (List.mem_of_getElem? (i := 10) rfl)), by decide +kernel, by decide +kernel⟩
abbrev KX3_readNumbers : MI := (yX3_readNumbers, cX3_readNumbers, 8, none, [])
theorem mX3_readNumbers : mV KX3_readNumbers 3 3 := ⟨⟨rfl, (tin4 (List.mem_of_getElem? (i := 20) rfl)), (tin1 (List.mem_of_getElem? (i := 8) rfl)), ⟨by decide +kernel, by decide +kernel⟩, by decide +kernel, by decide +kernel⟩, (tin4 (List.mem_of_getElem? (i := 19) rfl)), (List.mem_append_left _ (List.mem_of_getElem? (i := 13) rfl)), by decide +kernel, by decide +kernel⟩
abbrev KX3_readCell : MI := (yX3_readCell, cX3_readCell, 4, (some .int), [])
theorem mX3_readCell : mV KX3_readCell 1 3 := ⟨⟨rfl, (tin4 (List.mem_of_getElem? (i := 32) rfl)), (tin1 (List.mem_of_getElem? (i := 8) rfl)), ⟨by decide +kernel, by decide +kernel⟩, by decide +kernel, by decide +kernel⟩, (tin4 (List.mem_of_getElem? (i := 30) rfl)), (tin4 (List.mem_of_getElem? (i := 31) rfl)), by decide +kernel, by decide +kernel⟩
abbrev KX4_init : MI := (yX4_init, cX4_init, 1, none, [])
theorem mX4_init : mC KX4_init 0 := ⟨⟨rfl, (tin2 (List.mem_of_getElem? (i := 7) rfl)), (tin1 (List.mem_of_getElem? (i := 9) rfl)), ⟨by decide +kernel, by decide +kernel⟩, by decide +kernel, by decide +kernel⟩, (tin2 (List.mem_of_getElem? (i := 6) rfl)), rfl, rfl⟩
abbrev KX4_becomeTwiceSize : MI := (yX4_becomeTwiceSize, cX4_becomeTwiceSize, 1, none, [])
theorem mX4_becomeTwiceSize : mV KX4_becomeTwiceSize 0 4 := ⟨⟨rfl, (tin2 (List.mem_of_getElem? (i := 32) rfl)), (tin1 (List.mem_of_getElem? (i := 9) rfl)), ⟨by decide +kernel, by decide +kernel⟩, by decide +kernel, by decide +kernel⟩, (tin2 (List.mem_of_getElem? (i := 30) rfl)), (tin2 (List.mem_of_getElem? (i := 31) rfl)), by decide +kernel, by decide +kernel⟩
abbrev KX4_becomeNothing : MI := (yX4_becomeNothing, cX4_becomeNothing, 1, none, [])
theorem mX4_becomeNothing : mV KX4_becomeNothing 0 4 := ⟨⟨rfl, (tin2 (List.mem_of_getElem? (i := 40) rfl)), (tin1 (List.mem_of_getElem? (i := 9) rfl)), ⟨by decide +kernel, by decide +kernel⟩, by decide +kernel, by decide +kernel⟩, (tin2 (List.mem_of_getElem? (i := 38) rfl)), (tin2 (List.mem_of_getElem? (i := 39) rfl)), by decide +kernel, by decide +kernel⟩
abbrev KX4_readLaw : MI := (yX4_readLaw, cX4_readLaw, 2, none, [])
theorem mX4_readLaw : mV KX4_readLaw 1 4 := ⟨⟨rfl, (tin4 (List.mem_of_getElem? (i := 63) rfl)), (tin1 (List.mem_of_getElem? (i := 9) rfl)), ⟨by decide +kernel, by decide +kernel⟩, by decide +kernel, by decide +kernel⟩, (tin4 (List.mem_of_getElem? (i := 61) rfl)), (tin4 (List.mem_of_getElem? (i := 62) rfl)), by decide +kernel, by decide +kernel⟩
abbrev KX4_readSum : MI := (yX4_readSum, cX4_readSum, 5, none, [])
theorem mX4_readSum : mV KX4_readSum 2 4 := ⟨⟨rfl, (tin4 (List.mem_of_getElem? (i := 67) rfl)), (tin1 (List.mem_of_getElem? (i := 9) rfl)), ⟨by decide +kernel, by decide +kernel⟩, by decide +kernel, by decide +kernel⟩, (tin4 (List.mem_of_getElem? (i := 66) rfl)), (List.mem_append_left _ (List.mem_of_getElem? (i := 14) rfl)), by decide +kernel, by decide +kernel⟩
abbrev KX4_readProduct : MI := (yX4_readProduct, cX4_readProduct, 5, none, [])
theorem mX4_readProduct : mV KX4_readProduct 2 4 := ⟨⟨rfl, (tin4 (List.mem_of_getElem? (i := 71) rfl)), (tin1 (List.mem_of_getElem? (i := 9) rfl)), ⟨by decide +kernel, by decide +kernel⟩, by decide +kernel, by decide +kernel⟩, (tin4 (List.mem_of_getElem? (i := 70) rfl)), (List.mem_append_left _ (List.mem_of_getElem? (i := 15) rfl)), by decide +kernel, by decide +kernel⟩
abbrev KX4_isProductSign : MI := (yX4_isProductSign, cX4_isProductSign, 1, (some .boolean), [])
theorem mX4_isProductSign : mS KX4_isProductSign 1 := ⟨⟨rfl, (tin4 (List.mem_of_getElem? (i := 107) rfl)), (tin1 (List.mem_of_getElem? (i := 9) rfl)), ⟨by decide +kernel, by decide +kernel⟩, by decide +kernel, by decide +kernel⟩, (tin4 (List.mem_of_getElem? (i := 106) rfl))⟩
abbrev KX4_readPart : MI := (yX4_readPart, cX4_readPart, 3, none, [])
theorem mX4_readPart : mV KX4_readPart 2 4 := ⟨⟨rfl, (tin4 (List.mem_of_getElem? (i := 75) rfl)), (tin1 (List.mem_of_getElem? (i := 9) rfl)), ⟨by decide +kernel, by decide +kernel⟩, by decide +kernel, by decide +kernel⟩, (tin4 (List.mem_of_getElem? (i := 74) rfl)), (List.mem_append_left _ (List.mem_of_getElem? (i := 16) rfl)), by decide +kernel, by decide +kernel⟩
abbrev KX4_readBracket : MI := (yX4_readBracket, cX4_readBracket, 3, none, [])
theorem mX4_readBracket : mV KX4_readBracket 2 4 := ⟨⟨rfl, (tin4 (List.mem_of_getElem? (i := 87) rfl)), (tin1 (List.mem_of_getElem? (i := 9) rfl)), ⟨by decide +kernel, by decide +kernel⟩, by decide +kernel, by decide +kernel⟩, (tin4 (List.mem_of_getElem? (i := 86) rfl)), (List.mem_append_left _ (List.mem_of_getElem? (i := 17) rfl)), by decide +kernel, by decide +kernel⟩
abbrev KX4_readName : MI := (yX4_readName, cX4_readName, 4, none, [])
theorem mX4_readName : mV KX4_readName 2 4 := ⟨⟨rfl, (tin4 (List.mem_of_getElem? (i := 97) rfl)), (tin1 (List.mem_of_getElem? (i := 9) rfl)), ⟨by decide +kernel, by decide +kernel⟩, by decide +kernel, by decide +kernel⟩, (tin4 (List.mem_of_getElem? (i := 96) rfl)), (List.mem_append_left _ (List.mem_of_getElem? (i := 18) rfl)), by decide +kernel, by decide +kernel⟩
abbrev KX4_readChoice : MI := (yX4_readChoice, cX4_readChoice, 4, none, [])
theorem mX4_readChoice : mV KX4_readChoice 2 4 := ⟨⟨rfl, (tin4 (List.mem_of_getElem? (i := 103) rfl)), (tin1 (List.mem_of_getElem? (i := 9) rfl)), ⟨by decide +kernel, by decide +kernel⟩, by decide +kernel, by decide +kernel⟩, (tin4 (List.mem_of_getElem? (i := 102) rfl)), (List.mem_append_left _ (List.mem_of_getElem? (i := 19) rfl)), by decide +kernel, by decide +kernel⟩
abbrev KX4_put : MI := (yX4_put, cX4_put, 2, none, [])
theorem mX4_put : mV KX4_put 1 4 := ⟨⟨rfl, (tin2 (List.mem_of_getElem? (i := 36) rfl)), (tin1 (List.mem_of_getElem? (i := 9) rfl)), ⟨by decide +kernel, by decide +kernel⟩, by decide +kernel, by decide +kernel⟩, (tin2 (List.mem_of_getElem? (i := 35) rfl)), (List.mem_append_left _ (List.mem_of_getElem? (i := 1) rfl)), by decide +kernel, by decide +kernel⟩
abbrev KX4_valueFor : MI := (yX4_valueFor, cX4_valueFor, 10, (some .int), [])
theorem mX4_valueFor : mV KX4_valueFor 6 4 := ⟨⟨rfl, (tin5 (List.mem_of_getElem? (i := 21) rfl)), (tin1 (List.mem_of_getElem? (i := 9) rfl)), ⟨by decide +kernel, by decide +kernel⟩, by decide +kernel, by decide +kernel⟩, (tin5 (List.mem_of_getElem? (i := 19) rfl)), (tin5 (List.mem_of_getElem? (i := 20) rfl)), by decide +kernel, by decide +kernel⟩
abbrev KX4_nameAt : MI := (yX4_nameAt, cX4_nameAt, 2, (some .int), [])
theorem mX4_nameAt : mV KX4_nameAt 1 4 := ⟨⟨rfl, (tin5 (List.mem_of_getElem? (i := 27) rfl)), (tin1 (List.mem_of_getElem? (i := 9) rfl)), ⟨by decide +kernel, by decide +kernel⟩, by decide +kernel, by decide +kernel⟩, (tin5 (List.mem_of_getElem? (i := 26) rfl)), (List.mem_append_left _ (List.mem_of_getElem? (i := 30) rfl)), by decide +kernel, by decide +kernel⟩
abbrev KX4_joined : MI := (yX4_joined, cX4_joined, 3, (some .int), [])
theorem mX4_joined : mS KX4_joined 3 := ⟨⟨rfl, (tin5 (List.mem_of_getElem? (i := 30) rfl)), (tin1 (List.mem_of_getElem? (i := 9) rfl)), ⟨by decide +kernel, by decide +kernel⟩, by decide +kernel, by decide +kernel⟩, (tin5 (List.mem_of_getElem? (i := 29) rfl))⟩
abbrev KX5_init : MI := (yX5_init, cX5_init, 1, none, [])
theorem mX5_init : mC KX5_init 0 := ⟨⟨rfl, (tin1 (List.mem_of_getElem? (i := 107) rfl)), (tin1 (List.mem_of_getElem? (i := 4) rfl)), ⟨by decide +kernel, by decide +kernel⟩, by decide +kernel, by decide +kernel⟩, (tin1 (List.mem_of_getElem? (i := 106) rfl)), rfl, rfl⟩
abbrev KX5_forget : MI := (yX5_forget, cX5_forget, 1, none, [])
theorem mX5_forget : mV KX5_forget 0 5 := ⟨⟨rfl, (tin4 (List.mem_of_getElem? (i := 52) rfl)), (tin1 (List.mem_of_getElem? (i := 4) rfl)), ⟨by decide +kernel, by decide +kernel⟩, by decide +kernel, by decide +kernel⟩, (tin4 (List.mem_of_getElem? (i := 50) rfl)), (tin4 (List.mem_of_getElem? (i := 51) rfl)), by decide +kernel, by decide +kernel⟩
abbrev KX5_isFull : MI := (yX5_isFull, cX5_isFull, 1, (some .boolean), [])
theorem mX5_isFull : mV KX5_isFull 0 5 := ⟨⟨rfl, (tin4 (List.mem_of_getElem? (i := 126) rfl)), (tin1 (List.mem_of_getElem? (i := 4) rfl)), ⟨by decide +kernel, by decide +kernel⟩, by decide +kernel, by decide +kernel⟩, (tin4 (List.mem_of_getElem? (i := 124) rfl)), (tin4 (List.mem_of_getElem? (i := 125) rfl)), by decide +kernel, by decide +kernel⟩
abbrev KX5_keepWork : MI := (yX5_keepWork, cX5_keepWork, 2, none, [])
theorem mX5_keepWork : mV KX5_keepWork 1 5 := ⟨⟨rfl, (tin4 (List.mem_of_getElem? (i := 158) rfl)), (tin1 (List.mem_of_getElem? (i := 4) rfl)), ⟨by decide +kernel, by decide +kernel⟩, by decide +kernel, by decide +kernel⟩, (tin4 (List.mem_of_getElem? (i := 156) rfl)), (tin4 (List.mem_of_getElem? (i := 157) rfl)), by decide +kernel, by decide +kernel⟩
abbrev KX5_takeBackWork : MI := (yX5_takeBackWork, cX5_takeBackWork, 2, none, [])
theorem mX5_takeBackWork : mV KX5_takeBackWork 1 5 := ⟨⟨rfl, (tin2 (List.mem_of_getElem? (i := 192) rfl)), (tin1 (List.mem_of_getElem? (i := 4) rfl)), ⟨by decide +kernel, by decide +kernel⟩, by decide +kernel, by decide +kernel⟩, (tin2 (List.mem_of_getElem? (i := 190) rfl)), (tin2 (List.mem_of_getElem? (i := 191) rfl)), by decide +kernel, by decide +kernel⟩
abbrev KX5_keepImage : MI := (yX5_keepImage, cX5_keepImage, 3, (some .boolean), [])
theorem mX5_keepImage : mV KX5_keepImage 1 5 := ⟨⟨rfl, (tin3 (List.mem_of_getElem? (i := 53) rfl)), (tin1 (List.mem_of_getElem? (i := 4) rfl)), ⟨by decide +kernel, by decide +kernel⟩, by decide +kernel, by decide +kernel⟩, (tin3 (List.mem_of_getElem? (i := 51) rfl)), (tin3 (List.mem_of_getElem? (i := 52) rfl)), by decide +kernel, by decide +kernel⟩
abbrev KX5_takeBackImage : MI := (yX5_takeBackImage, cX5_takeBackImage, 3, none, [])
theorem mX5_takeBackImage : mV KX5_takeBackImage 1 5 := ⟨⟨rfl, (tin3 (List.mem_of_getElem? (i := 66) rfl)), (tin1 (List.mem_of_getElem? (i := 4) rfl)), ⟨by decide +kernel, by decide +kernel⟩, by decide +kernel, by decide +kernel⟩, (tin3 (List.mem_of_getElem? (i := 64) rfl)), (tin3 (List.mem_of_getElem? (i := 65) rfl)), by decide +kernel, by decide +kernel⟩
abbrev KX6_init : MI := (yX6_init, cX6_init, 1, none, [])
theorem mX6_init : mC KX6_init 0 := ⟨⟨rfl, (tin1 (List.mem_of_getElem? (i := 76) rfl)), (tin1 (List.mem_of_getElem? (i := 3) rfl)), ⟨by decide +kernel, by decide +kernel⟩, by decide +kernel, by decide +kernel⟩, (tin1 (List.mem_of_getElem? (i := 75) rfl)), rfl, rfl⟩
abbrev KX6_readWork : MI := (yX6_readWork, cX6_readWork, 3, none, [])
theorem mX6_readWork : mV KX6_readWork 2 6 := ⟨⟨rfl, (tin4 (List.mem_of_getElem? (i := 130) rfl)), (tin1 (List.mem_of_getElem? (i := 3) rfl)), ⟨by decide +kernel, by decide +kernel⟩, by decide +kernel, by decide +kernel⟩, (tin4 (List.mem_of_getElem? (i := 128) rfl)), (tin4 (List.mem_of_getElem? (i := 129) rfl)), by decide +kernel, by decide +kernel⟩
abbrev KX6_readSteps : MI := (yX6_readSteps, cX6_readSteps, 6, none, [])
theorem mX6_readSteps : mV KX6_readSteps 3 6 := ⟨⟨rfl, (tin4 (List.mem_of_getElem? (i := 134) rfl)), (tin1 (List.mem_of_getElem? (i := 3) rfl)), ⟨by decide +kernel, by decide +kernel⟩, by decide +kernel, by decide +kernel⟩, (tin4 (List.mem_of_getElem? (i := 133) rfl)), (List.mem_append_left _ (List.mem_of_getElem? (i := 20) rfl)), by decide +kernel, by decide +kernel⟩
abbrev KX6_readStep : MI := (yX6_readStep, cX6_readStep, 5, none, [])
theorem mX6_readStep : mV KX6_readStep 3 6 := ⟨⟨rfl, (tin4 (List.mem_of_getElem? (i := 140) rfl)), (tin1 (List.mem_of_getElem? (i := 3) rfl)), ⟨by decide +kernel, by decide +kernel⟩, by decide +kernel, by decide +kernel⟩, (tin4 (List.mem_of_getElem? (i := 139) rfl)), (List.mem_append_left _ (List.mem_of_getElem? (i := 21) rfl)), by decide +kernel, by decide +kernel⟩
abbrev KX6_readAgain : MI := (yX6_readAgain, cX6_readAgain, 5, none, [])
theorem mX6_readAgain : mV KX6_readAgain 3 6 := ⟨⟨rfl, (tin4 (List.mem_of_getElem? (i := 146) rfl)), (tin1 (List.mem_of_getElem? (i := 3) rfl)), ⟨by decide +kernel, by decide +kernel⟩, by decide +kernel, by decide +kernel⟩, (tin4 (List.mem_of_getElem? (i := 145) rfl)), (List.mem_append_left _ (List.mem_of_getElem? (i := 22) rfl)), by decide +kernel, by decide +kernel⟩
abbrev KX6_put : MI := (yX6_put, cX6_put, 3, none, [])
theorem mX6_put : mV KX6_put 2 6 := ⟨⟨rfl, (tin4 (List.mem_of_getElem? (i := 152) rfl)), (tin1 (List.mem_of_getElem? (i := 3) rfl)), ⟨by decide +kernel, by decide +kernel⟩, by decide +kernel, by decide +kernel⟩, (tin4 (List.mem_of_getElem? (i := 151) rfl)), (List.mem_append_left _ (List.mem_of_getElem? (i := 23) rfl)), by decide +kernel, by decide +kernel⟩
abbrev KX6_carryOut : MI := (yX6_carryOut, cX6_carryOut, 6, none, [])
theorem mX6_carryOut : mV KX6_carryOut 2 6 := ⟨⟨rfl, (tin4 (List.mem_of_getElem? (i := 163) rfl)), (tin1 (List.mem_of_getElem? (i := 3) rfl)), ⟨by decide +kernel, by decide +kernel⟩, by decide +kernel, by decide +kernel⟩, (tin4 (List.mem_of_getElem? (i := 161) rfl)), (tin4 (List.mem_of_getElem? (i := 162) rfl)), by decide +kernel, by decide +kernel⟩
abbrev KX6_passStep : MI := (yX6_passStep, cX6_passStep, 3, (some .int), [])
theorem mX6_passStep : mV KX6_passStep 2 6 := ⟨⟨rfl, (tin5 (List.mem_of_getElem? (i := 51) rfl)), (tin1 (List.mem_of_getElem? (i := 3) rfl)), ⟨by decide +kernel, by decide +kernel⟩, by decide +kernel, by decide +kernel⟩, (tin5 (List.mem_of_getElem? (i := 50) rfl)), (List.mem_append_left _ (List.mem_of_getElem? (i := 31) rfl)), by decide +kernel, by decide +kernel⟩
abbrev KX6_beginLoop : MI := (yX6_beginLoop, cX6_beginLoop, 2, (some .int), [])
theorem mX6_beginLoop : mV KX6_beginLoop 1 6 := ⟨⟨rfl, (tin4 (List.mem_of_getElem? (i := 171) rfl)), (tin1 (List.mem_of_getElem? (i := 3) rfl)), ⟨by decide +kernel, by decide +kernel⟩, by decide +kernel, by decide +kernel⟩, (tin4 (List.mem_of_getElem? (i := 170) rfl)), (List.mem_append_left _ (List.mem_of_getElem? (i := 25) rfl)), by decide +kernel, by decide +kernel⟩
abbrev KX6_endLoop : MI := (yX6_endLoop, cX6_endLoop, 3, (some .int), [])
theorem mX6_endLoop : mV KX6_endLoop 1 6 := ⟨⟨rfl, (tin4 (List.mem_of_getElem? (i := 167) rfl)), (tin1 (List.mem_of_getElem? (i := 3) rfl)), ⟨by decide +kernel, by decide +kernel⟩, by decide +kernel, by decide +kernel⟩, (tin4 (List.mem_of_getElem? (i := 166) rfl)), (List.mem_append_left _ (List.mem_of_getElem? (i := 24) rfl)), by decide +kernel, by decide +kernel⟩
abbrev KX6_carryOutStep : MI := (yX6_carryOutStep, cX6_carryOutStep, 5, (some .boolean), [])
theorem mX6_carryOutStep : mV KX6_carryOutStep 3 6 := ⟨⟨rfl, (tin4 (List.mem_of_getElem? (i := 175) rfl)), (tin1 (List.mem_of_getElem? (i := 3) rfl)), ⟨by decide +kernel, by decide +kernel⟩, by decide +kernel, by decide +kernel⟩, (tin4 (List.mem_of_getElem? (i := 174) rfl)), (List.mem_append_left _ (List.mem_of_getElem? (i := 26) rfl)), by decide +kernel, by decide +kernel⟩
abbrev KX7_init : MI := (yX7_init, cX7_init, 1, none, [])
theorem mX7_init : mC KX7_init 0 := ⟨⟨rfl, (tin1 (List.mem_of_getElem? (i := 39) rfl)), (tin1 (List.mem_of_getElem? (i := 2) rfl)), ⟨by decide +kernel, by decide +kernel⟩, by decide +kernel, by decide +kernel⟩, (tin1 (List.mem_of_getElem? (i := 38) rfl)), rfl, rfl⟩
abbrev KX7_push : MI := (yX7_push, cX7_push, 6, (some .int), [])
theorem mX7_push : mV KX7_push 5 7 := ⟨⟨rfl, (tin2 (List.mem_of_getElem? (i := 176) rfl)), (tin1 (List.mem_of_getElem? (i := 2) rfl)), ⟨by decide +kernel, by decide +kernel⟩, by decide +kernel, by decide +kernel⟩, (tin2 (List.mem_of_getElem? (i := 174) rfl)), (tin2 (List.mem_of_getElem? (i := 175) rfl)), by decide +kernel, by decide +kernel⟩
abbrev KX7_pushNumber : MI := (yX7_pushNumber, cX7_pushNumber, 3, none, [])
theorem mX7_pushNumber : mV KX7_pushNumber 1 7 := ⟨⟨rfl, (tin2 (List.mem_of_getElem? (i := 180) rfl)), (tin1 (List.mem_of_getElem? (i := 2) rfl)), ⟨by decide +kernel, by decide +kernel⟩, by decide +kernel, by decide +kernel⟩, (tin2 (List.mem_of_getElem? (i := 179) rfl)), (List.mem_append_left _ (List.mem_of_getElem? (i := 2) rfl)), by decide +kernel, by decide +kernel⟩
abbrev KX7_open : MI := (yX7_open, cX7_open, 2, none, [])
theorem mX7_open : mV KX7_open 1 7 := ⟨⟨rfl, (tin3 (List.mem_of_getElem? (i := 161) rfl)), (tin1 (List.mem_of_getElem? (i := 2) rfl)), ⟨by decide +kernel, by decide +kernel⟩, by decide +kernel, by decide +kernel⟩, (tin3 (List.mem_of_getElem? (i := 159) rfl)), (tin3 (List.mem_of_getElem? (i := 160) rfl)), by decide +kernel, by decide +kernel⟩
abbrev KX7_isFine : MI := (yX7_isFine, cX7_isFine, 1, (some .boolean), [])
theorem mX7_isFine : mV KX7_isFine 0 7 := ⟨⟨rfl, (tin3 (List.mem_of_getElem? (i := 177) rfl)), (tin1 (List.mem_of_getElem? (i := 2) rfl)), ⟨by decide +kernel, by decide +kernel⟩, by decide +kernel, by decide +kernel⟩, (tin3 (List.mem_of_getElem? (i := 175) rfl)), (tin3 (List.mem_of_getElem? (i := 176) rfl)), by decide +kernel, by decide +kernel⟩
abbrev KX7_fail : MI := (yX7_fail, cX7_fail, 3, none, [])
theorem mX7_fail : mV KX7_fail 2 7 := ⟨⟨rfl, (tin4 (List.mem_of_getElem? (i := 15) rfl)), (tin1 (List.mem_of_getElem? (i := 2) rfl)), ⟨by decide +kernel, by decide +kernel⟩, by decide +kernel, by decide +kernel⟩, (tin4 (List.mem_of_getElem? (i := 13) rfl)), (tin4 (List.mem_of_getElem? (i := 14) rfl)), by decide +kernel, by decide +kernel⟩
abbrev KX7_next : MI := (yX7_next, cX7_next, 1, (some .int), [])
theorem mX7_next : mV KX7_next 0 7 := ⟨⟨rfl, (tin3 (List.mem_of_getElem? (i := 181) rfl)), (tin1 (List.mem_of_getElem? (i := 2) rfl)), ⟨by decide +kernel, by decide +kernel⟩, by decide +kernel, by decide +kernel⟩, (tin3 (List.mem_of_getElem? (i := 179) rfl)), (tin3 (List.mem_of_getElem? (i := 180) rfl)), by decide +kernel, by decide +kernel⟩
abbrev KX7_isNext : MI := (yX7_isNext, cX7_isNext, 2, (some .boolean), [])
theorem mX7_isNext : mV KX7_isNext 1 7 := ⟨⟨rfl, (tin4 (List.mem_of_getElem? (i := 82) rfl)), (tin1 (List.mem_of_getElem? (i := 2) rfl)), ⟨by decide +kernel, by decide +kernel⟩, by decide +kernel, by decide +kernel⟩, (tin4 (List.mem_of_getElem? (i := 80) rfl)), (tin4 (List.mem_of_getElem? (i := 81) rfl)), by decide +kernel, by decide +kernel⟩
abbrev KX7_skipSign : MI := (yX7_skipSign, cX7_skipSign, 1, none, [])
theorem mX7_skipSign : mV KX7_skipSign 0 7 := ⟨⟨rfl, (tin4 (List.mem_of_getElem? (i := 92) rfl)), (tin1 (List.mem_of_getElem? (i := 2) rfl)), ⟨by decide +kernel, by decide +kernel⟩, by decide +kernel, by decide +kernel⟩, (tin4 (List.mem_of_getElem? (i := 90) rfl)), (tin4 (List.mem_of_getElem? (i := 91) rfl)), by decide +kernel, by decide +kernel⟩
abbrev KX7_readSign : MI := (yX7_readSign, cX7_readSign, 2, none, [])
theorem mX7_readSign : mV KX7_readSign 1 7 := ⟨⟨rfl, (tin4 (List.mem_of_getElem? (i := 43) rfl)), (tin1 (List.mem_of_getElem? (i := 2) rfl)), ⟨by decide +kernel, by decide +kernel⟩, by decide +kernel, by decide +kernel⟩, (tin4 (List.mem_of_getElem? (i := 41) rfl)), (tin4 (List.mem_of_getElem? (i := 42) rfl)), by decide +kernel, by decide +kernel⟩
abbrev KX7_readNumber : MI := (yX7_readNumber, cX7_readNumber, 4, (some .int), [])
theorem mX7_readNumber : mV KX7_readNumber 2 7 := ⟨⟨rfl, (tin4 (List.mem_of_getElem? (i := 24) rfl)), (tin1 (List.mem_of_getElem? (i := 2) rfl)), ⟨by decide +kernel, by decide +kernel⟩, by decide +kernel, by decide +kernel⟩, (tin4 (List.mem_of_getElem? (i := 22) rfl)), (tin4 (List.mem_of_getElem? (i := 23) rfl)), by decide +kernel, by decide +kernel⟩
abbrev KX7_readWord : MI := (yX7_readWord, cX7_readWord, 3, (some .int), [])
theorem mX7_readWord : mV KX7_readWord 1 7 := ⟨⟨rfl, (tin3 (List.mem_of_getElem? (i := 194) rfl)), (tin1 (List.mem_of_getElem? (i := 2) rfl)), ⟨by decide +kernel, by decide +kernel⟩, by decide +kernel, by decide +kernel⟩, (tin3 (List.mem_of_getElem? (i := 192) rfl)), (tin3 (List.mem_of_getElem? (i := 193) rfl)), by decide +kernel, by decide +kernel⟩
abbrev KX7_indexAmong : MI := (yX7_indexAmong, cX7_indexAmong, 5, (some .int), [])
theorem mX7_indexAmong : mV KX7_indexAmong 1 7 := ⟨⟨rfl, (tin3 (List.mem_of_getElem? (i := 199) rfl)), (tin1 (List.mem_of_getElem? (i := 2) rfl)), ⟨by decide +kernel, by decide +kernel⟩, by decide +kernel, by decide +kernel⟩, (tin3 (List.mem_of_getElem? (i := 198) rfl)), (List.mem_append_left _ (List.mem_of_getElem? (i := 11) rfl)), by decide +kernel, by decide +kernel⟩
abbrev KX7_isWord : MI := (yX7_isWord, cX7_isWord, 5, (some .boolean), [])
theorem mX7_isWord : mV KX7_isWord 3 7 := ⟨⟨rfl, (tin4 (List.mem_of_getElem? (i := 11) rfl)), (tin1 (List.mem_of_getElem? (i := 2) rfl)), ⟨by decide +kernel, by decide +kernel⟩, by decide +kernel, by decide +kernel⟩, (tin4 (List.mem_of_getElem? (i := 10) rfl)), (List.mem_append_left _ (List.mem_of_getElem? (i := 12) rfl)), by decide +kernel, by decide +kernel⟩
abbrev KX7_byteAt : MI := (yX7_byteAt, cX7_byteAt, 2, (some .int), [])
theorem mX7_byteAt : mV KX7_byteAt 1 7 := ⟨⟨rfl, (tin3 (List.mem_of_getElem? (i := 185) rfl)), (tin1 (List.mem_of_getElem? (i := 2) rfl)), ⟨by decide +kernel, by decide +kernel⟩, by decide +kernel, by decide +kernel⟩, (tin3 (List.mem_of_getElem? (i := 184) rfl)), (List.mem_append_left _ (List.mem_of_getElem? (i := 9) rfl)), by decide +kernel, by decide +kernel⟩
abbrev KX7_isDigit : MI := (yX7_isDigit, cX7_isDigit, 1, (some .boolean), [])
theorem mX7_isDigit : mS KX7_isDigit 1 := ⟨⟨rfl, (tin4 (List.mem_of_getElem? (i := 27) rfl)), (tin1 (List.mem_of_getElem? (i := 2) rfl)), ⟨by decide +kernel, by decide +kernel⟩, by decide +kernel, by decide +kernel⟩, (tin4 (List.mem_of_getElem? (i := 26) rfl))⟩
abbrev KX8_init : MI := (yX8_init, cX8_init, 1, none, [])
theorem mX8_init : mC KX8_init 0 := ⟨⟨rfl, (tin1 (List.mem_of_getElem? (i := 163) rfl)), (tin1 (List.mem_of_getElem? (i := 7) rfl)), ⟨by decide +kernel, by decide +kernel⟩, by decide +kernel, by decide +kernel⟩, (tin1 (List.mem_of_getElem? (i := 162) rfl)), rfl, rfl⟩
abbrev KX8_forget : MI := (yX8_forget, cX8_forget, 1, none, [])
theorem mX8_forget : mV KX8_forget 0 8 := ⟨⟨rfl, (tin3 (List.mem_of_getElem? (i := 172) rfl)), (tin1 (List.mem_of_getElem? (i := 7) rfl)), ⟨by decide +kernel, by decide +kernel⟩, by decide +kernel, by decide +kernel⟩, (tin3 (List.mem_of_getElem? (i := 170) rfl)), (tin3 (List.mem_of_getElem? (i := 171) rfl)), by decide +kernel, by decide +kernel⟩
abbrev KX8_writeTo : MI := (yX8_writeTo, cX8_writeTo, 4, none, [])
theorem mX8_writeTo : mV KX8_writeTo 2 8 := ⟨⟨rfl, (tin3 (List.mem_of_getElem? (i := 58) rfl)), (tin1 (List.mem_of_getElem? (i := 7) rfl)), ⟨by decide +kernel, by decide +kernel⟩, by decide +kernel, by decide +kernel⟩, (tin3 (List.mem_of_getElem? (i := 56) rfl)), (tin3 (List.mem_of_getElem? (i := 57) rfl)), by decide +kernel, by decide +kernel⟩
abbrev KX8_readFrom : MI := (yX8_readFrom, cX8_readFrom, 4, none, [])
theorem mX8_readFrom : mV KX8_readFrom 2 8 := ⟨⟨rfl, (tin2 (List.mem_of_getElem? (i := 196) rfl)), (tin1 (List.mem_of_getElem? (i := 7) rfl)), ⟨by decide +kernel, by decide +kernel⟩, by decide +kernel, by decide +kernel⟩, (tin2 (List.mem_of_getElem? (i := 194) rfl)), (tin2 (List.mem_of_getElem? (i := 195) rfl)), by decide +kernel, by decide +kernel⟩
abbrev KX8_isStone : MI := (yX8_isStone, cX8_isStone, 2, (some .boolean), [])
theorem mX8_isStone : mV KX8_isStone 1 8 := ⟨⟨rfl, (tin2 (List.mem_of_getElem? (i := 224) rfl)), (tin1 (List.mem_of_getElem? (i := 7) rfl)), ⟨by decide +kernel, by decide +kernel⟩, by decide +kernel, by decide +kernel⟩, (tin2 (List.mem_of_getElem? (i := 223) rfl)), (List.mem_append_left _ (List.mem_of_getElem? (i := 4) rfl)), by decide +kernel, by decide +kernel⟩
abbrev KX8_cellOf : MI := (yX8_cellOf, cX8_cellOf, 2, (some .int), [])
theorem mX8_cellOf : mV KX8_cellOf 1 8 := ⟨⟨rfl, (tin2 (List.mem_of_getElem? (i := 228) rfl)), (tin1 (List.mem_of_getElem? (i := 7) rfl)), ⟨by decide +kernel, by decide +kernel⟩, by decide +kernel, by decide +kernel⟩, (tin2 (List.mem_of_getElem? (i := 226) rfl)), (tin2 (List.mem_of_getElem? (i := 227) rfl)), by decide +kernel, by decide +kernel⟩
abbrev KX8_sizeOf : MI := (yX8_sizeOf, cX8_sizeOf, 2, (some .int), [])
theorem mX8_sizeOf : mV KX8_sizeOf 1 8 := ⟨⟨rfl, (tin2 (List.mem_of_getElem? (i := 239) rfl)), (tin1 (List.mem_of_getElem? (i := 7) rfl)), ⟨by decide +kernel, by decide +kernel⟩, by decide +kernel, by decide +kernel⟩, (tin2 (List.mem_of_getElem? (i := 237) rfl)), (tin2 (List.mem_of_getElem? (i := 238) rfl)), by decide +kernel, by decide +kernel⟩
abbrev KX8_yearOf : MI := (yX8_yearOf, cX8_yearOf, 2, (some .int), [])
theorem mX8_yearOf : mV KX8_yearOf 1 8 := ⟨⟨rfl, (tin5 (List.mem_of_getElem? (i := 121) rfl)), (tin1 (List.mem_of_getElem? (i := 7) rfl)), ⟨by decide +kernel, by decide +kernel⟩, by decide +kernel, by decide +kernel⟩, (tin5 (List.mem_of_getElem? (i := 119) rfl)), (tin5 (List.mem_of_getElem? (i := 120) rfl)), by decide +kernel, by decide +kernel⟩
abbrev KX8_placeOf : MI := (yX8_placeOf, cX8_placeOf, 2, (some .int), [])
theorem mX8_placeOf : mV KX8_placeOf 1 8 := ⟨⟨rfl, (tin2 (List.mem_of_getElem? (i := 220) rfl)), (tin1 (List.mem_of_getElem? (i := 7) rfl)), ⟨by decide +kernel, by decide +kernel⟩, by decide +kernel, by decide +kernel⟩, (tin2 (List.mem_of_getElem? (i := 218) rfl)), (tin2 (List.mem_of_getElem? (i := 219) rfl)), by decide +kernel, by decide +kernel⟩
abbrev KX8_isLost : MI := (yX8_isLost, cX8_isLost, 2, (some .boolean), [])
theorem mX8_isLost : mV KX8_isLost 1 8 := ⟨⟨rfl, (tin2 (List.mem_of_getElem? (i := 232) rfl)), (tin1 (List.mem_of_getElem? (i := 7) rfl)), ⟨by decide +kernel, by decide +kernel⟩, by decide +kernel, by decide +kernel⟩, (tin2 (List.mem_of_getElem? (i := 230) rfl)), (tin2 (List.mem_of_getElem? (i := 231) rfl)), by decide +kernel, by decide +kernel⟩
abbrev KX8_heapedIn : MI := (yX8_heapedIn, cX8_heapedIn, 2, (some .int), [])
theorem mX8_heapedIn : mV KX8_heapedIn 1 8 := ⟨⟨rfl, (tin5 (List.mem_of_getElem? (i := 156) rfl)), (tin1 (List.mem_of_getElem? (i := 7) rfl)), ⟨by decide +kernel, by decide +kernel⟩, by decide +kernel, by decide +kernel⟩, (tin5 (List.mem_of_getElem? (i := 154) rfl)), (tin5 (List.mem_of_getElem? (i := 155) rfl)), by decide +kernel, by decide +kernel⟩
abbrev KX8_lyingIn : MI := (yX8_lyingIn, cX8_lyingIn, 2, (some .int), [])
theorem mX8_lyingIn : mV KX8_lyingIn 1 8 := ⟨⟨rfl, (tin3 (List.mem_of_getElem? (i := 45) rfl)), (tin1 (List.mem_of_getElem? (i := 7) rfl)), ⟨by decide +kernel, by decide +kernel⟩, by decide +kernel, by decide +kernel⟩, (tin3 (List.mem_of_getElem? (i := 43) rfl)), (tin3 (List.mem_of_getElem? (i := 44) rfl)), by decide +kernel, by decide +kernel⟩
abbrev KX8_liesIn : MI := (yX8_liesIn, cX8_liesIn, 3, (some .boolean), [])
theorem mX8_liesIn : mV KX8_liesIn 2 8 := ⟨⟨rfl, (tin3 (List.mem_of_getElem? (i := 28) rfl)), (tin1 (List.mem_of_getElem? (i := 7) rfl)), ⟨by decide +kernel, by decide +kernel⟩, by decide +kernel, by decide +kernel⟩, (tin3 (List.mem_of_getElem? (i := 26) rfl)), (tin3 (List.mem_of_getElem? (i := 27) rfl)), by decide +kernel, by decide +kernel⟩
abbrev KX8_isAsked : MI := (yX8_isAsked, cX8_isAsked, 2, (some .boolean), [])
theorem mX8_isAsked : mV KX8_isAsked 1 8 := ⟨⟨rfl, (tin2 (List.mem_of_getElem? (i := 216) rfl)), (tin1 (List.mem_of_getElem? (i := 7) rfl)), ⟨by decide +kernel, by decide +kernel⟩, by decide +kernel, by decide +kernel⟩, (tin2 (List.mem_of_getElem? (i := 214) rfl)), (tin2 (List.mem_of_getElem? (i := 215) rfl)), by decide +kernel, by decide +kernel⟩
abbrev KX8_howMany : MI := (yX8_howMany, cX8_howMany, 4, (some .int), [])
theorem mX8_howMany : mV KX8_howMany 1 8 := ⟨⟨rfl, (tin5 (List.mem_of_getElem? (i := 87) rfl)), (tin1 (List.mem_of_getElem? (i := 7) rfl)), ⟨by decide +kernel, by decide +kernel⟩, by decide +kernel, by decide +kernel⟩, (tin5 (List.mem_of_getElem? (i := 85) rfl)), (tin5 (List.mem_of_getElem? (i := 86) rfl)), by decide +kernel, by decide +kernel⟩
abbrev KX8_howManyAsked : MI := (yX8_howManyAsked, cX8_howManyAsked, 3, (some .int), [])
theorem mX8_howManyAsked : mV KX8_howManyAsked 0 8 := ⟨⟨rfl, (tin6 (List.mem_of_getElem? (i := 141) rfl)), (tin1 (List.mem_of_getElem? (i := 7) rfl)), ⟨by decide +kernel, by decide +kernel⟩, by decide +kernel, by decide +kernel⟩, (tin6 (List.mem_of_getElem? (i := 139) rfl)), (tin6 (List.mem_of_getElem? (i := 140) rfl)), by decide +kernel, by decide +kernel⟩
abbrev KX8_sizesAsked : MI := (yX8_sizesAsked, cX8_sizesAsked, 3, (some .int), [])
theorem mX8_sizesAsked : mV KX8_sizesAsked 0 8 := ⟨⟨rfl, (tin6 (List.mem_of_getElem? (i := 196) rfl)), (tin1 (List.mem_of_getElem? (i := 7) rfl)), ⟨by decide +kernel, by decide +kernel⟩, by decide +kernel, by decide +kernel⟩, (tin6 (List.mem_of_getElem? (i := 194) rfl)), (tin6 (List.mem_of_getElem? (i := 195) rfl)), by decide +kernel, by decide +kernel⟩
abbrev KX8_sizesIn : MI := (yX8_sizesIn, cX8_sizesIn, 4, (some .int), [])
theorem mX8_sizesIn : mV KX8_sizesIn 1 8 := ⟨⟨rfl, (tin3 (List.mem_of_getElem? (i := 24) rfl)), (tin1 (List.mem_of_getElem? (i := 7) rfl)), ⟨by decide +kernel, by decide +kernel⟩, by decide +kernel, by decide +kernel⟩, (tin3 (List.mem_of_getElem? (i := 22) rfl)), (tin3 (List.mem_of_getElem? (i := 23) rfl)), by decide +kernel, by decide +kernel⟩
abbrev KX8_largest : MI := (yX8_largest, cX8_largest, 3, (some .int), [])
theorem mX8_largest : mV KX8_largest 0 8 := ⟨⟨rfl, (tin6 (List.mem_of_getElem? (i := 214) rfl)), (tin1 (List.mem_of_getElem? (i := 7) rfl)), ⟨by decide +kernel, by decide +kernel⟩, by decide +kernel, by decide +kernel⟩, (tin6 (List.mem_of_getElem? (i := 212) rfl)), (tin6 (List.mem_of_getElem? (i := 213) rfl)), by decide +kernel, by decide +kernel⟩
abbrev KX8_nearest : MI := (yX8_nearest, cX8_nearest, 3, (some .int), [])
theorem mX8_nearest : mV KX8_nearest 0 8 := ⟨⟨rfl, (tin6 (List.mem_of_getElem? (i := 218) rfl)), (tin1 (List.mem_of_getElem? (i := 7) rfl)), ⟨by decide +kernel, by decide +kernel⟩, by decide +kernel, by decide +kernel⟩, (tin6 (List.mem_of_getElem? (i := 216) rfl)), (tin6 (List.mem_of_getElem? (i := 217) rfl)), by decide +kernel, by decide +kernel⟩
abbrev KX8_addStone : MI := (yX8_addStone, cX8_addStone, 3, none, [])
theorem mX8_addStone : mV KX8_addStone 2 8 := ⟨⟨rfl, (tin4 (List.mem_of_getElem? (i := 39) rfl)), (tin1 (List.mem_of_getElem? (i := 7) rfl)), ⟨by decide +kernel, by decide +kernel⟩, by decide +kernel, by decide +kernel⟩, (tin4 (List.mem_of_getElem? (i := 37) rfl)), (tin4 (List.mem_of_getElem? (i := 38) rfl)), by decide +kernel, by decide +kernel⟩
abbrev KX8_takeUp : MI := (yX8_takeUp, cX8_takeUp, 4, none, [])
theorem mX8_takeUp : mV KX8_takeUp 2 8 := ⟨⟨rfl, (tin4 (List.mem_of_getElem? (i := 216) rfl)), (tin1 (List.mem_of_getElem? (i := 7) rfl)), ⟨by decide +kernel, by decide +kernel⟩, by decide +kernel, by decide +kernel⟩, (tin4 (List.mem_of_getElem? (i := 214) rfl)), (tin4 (List.mem_of_getElem? (i := 215) rfl)), by decide +kernel, by decide +kernel⟩
abbrev KX8_unload : MI := (yX8_unload, cX8_unload, 4, (some .int), [])
theorem mX8_unload : mV KX8_unload 1 8 := ⟨⟨rfl, (tin4 (List.mem_of_getElem? (i := 229) rfl)), (tin1 (List.mem_of_getElem? (i := 7) rfl)), ⟨by decide +kernel, by decide +kernel⟩, by decide +kernel, by decide +kernel⟩, (tin4 (List.mem_of_getElem? (i := 228) rfl)), (List.mem_append_left _ (List.mem_of_getElem? (i := 29) rfl)), by decide +kernel, by decide +kernel⟩
abbrev KX8_driveTo : MI := (yX8_driveTo, cX8_driveTo, 3, (some .boolean), [])
theorem mX8_driveTo : mV KX8_driveTo 2 8 := ⟨⟨rfl, (tin4 (List.mem_of_getElem? (i := 179) rfl)), (tin1 (List.mem_of_getElem? (i := 7) rfl)), ⟨by decide +kernel, by decide +kernel⟩, by decide +kernel, by decide +kernel⟩, (tin4 (List.mem_of_getElem? (i := 177) rfl)), (tin4 (List.mem_of_getElem? (i := 178) rfl)), by decide +kernel, by decide +kernel⟩
abbrev KX8_liftable : MI := (yX8_liftable, cX8_liftable, 9, (some .long), [])
theorem mX8_liftable : mV KX8_liftable 3 8 := ⟨⟨rfl, (tin4 (List.mem_of_getElem? (i := 188) rfl)), (tin1 (List.mem_of_getElem? (i := 7) rfl)), ⟨by decide +kernel, by decide +kernel⟩, by decide +kernel, by decide +kernel⟩, (tin4 (List.mem_of_getElem? (i := 186) rfl)), (tin4 (List.mem_of_getElem? (i := 187) rfl)), by decide +kernel, by decide +kernel⟩
abbrev KX8_holds : MI := (yX8_holds, cX8_holds, 3, (some .boolean), [])
theorem mX8_holds : mS KX8_holds 2 := ⟨⟨rfl, (tin4 (List.mem_of_getElem? (i := 205) rfl)), (tin1 (List.mem_of_getElem? (i := 7) rfl)), ⟨by decide +kernel, by decide +kernel⟩, by decide +kernel, by decide +kernel⟩, (tin4 (List.mem_of_getElem? (i := 204) rfl))⟩
abbrev KX8_sizesOf : MI := (yX8_sizesOf, cX8_sizesOf, 5, (some .int), [])
theorem mX8_sizesOf : mV KX8_sizesOf 1 8 := ⟨⟨rfl, (tin4 (List.mem_of_getElem? (i := 202) rfl)), (tin1 (List.mem_of_getElem? (i := 7) rfl)), ⟨by decide +kernel, by decide +kernel⟩, by decide +kernel, by decide +kernel⟩, (tin4 (List.mem_of_getElem? (i := 201) rfl)), (List.mem_append_left _ (List.mem_of_getElem? (i := 27) rfl)), by decide +kernel, by decide +kernel⟩
abbrev KX8_liftMinutes : MI := (yX8_liftMinutes, cX8_liftMinutes, 6, (some .int), [])
theorem mX8_liftMinutes : mV KX8_liftMinutes 3 8 := ⟨⟨rfl, (tin4 (List.mem_of_getElem? (i := 192) rfl)), (tin1 (List.mem_of_getElem? (i := 7) rfl)), ⟨by decide +kernel, by decide +kernel⟩, by decide +kernel, by decide +kernel⟩, (tin4 (List.mem_of_getElem? (i := 190) rfl)), (tin4 (List.mem_of_getElem? (i := 191) rfl)), by decide +kernel, by decide +kernel⟩
abbrev KX8_putOnSledge : MI := (yX8_putOnSledge, cX8_putOnSledge, 4, none, [])
theorem mX8_putOnSledge : mV KX8_putOnSledge 1 8 := ⟨⟨rfl, (tin4 (List.mem_of_getElem? (i := 212) rfl)), (tin1 (List.mem_of_getElem? (i := 7) rfl)), ⟨by decide +kernel, by decide +kernel⟩, by decide +kernel, by decide +kernel⟩, (tin4 (List.mem_of_getElem? (i := 211) rfl)), (List.mem_append_left _ (List.mem_of_getElem? (i := 28) rfl)), by decide +kernel, by decide +kernel⟩
abbrev KX8_liftFrom : MI := (yX8_liftFrom, cX8_liftFrom, 5, (some .boolean), [])
theorem mX8_liftFrom : mV KX8_liftFrom 2 8 := ⟨⟨rfl, (tin4 (List.mem_of_getElem? (i := 184) rfl)), (tin1 (List.mem_of_getElem? (i := 7) rfl)), ⟨by decide +kernel, by decide +kernel⟩, by decide +kernel, by decide +kernel⟩, (tin4 (List.mem_of_getElem? (i := 182) rfl)), (tin4 (List.mem_of_getElem? (i := 183) rfl)), by decide +kernel, by decide +kernel⟩
abbrev KX8_barUp : MI := (yX8_barUp, cX8_barUp, 4, (some .boolean), [])
theorem mX8_barUp : mV KX8_barUp 1 8 := ⟨⟨rfl, (tin4 (List.mem_of_getElem? (i := 220) rfl)), (tin1 (List.mem_of_getElem? (i := 7) rfl)), ⟨by decide +kernel, by decide +kernel⟩, by decide +kernel, by decide +kernel⟩, (tin4 (List.mem_of_getElem? (i := 218) rfl)), (tin4 (List.mem_of_getElem? (i := 219) rfl)), by decide +kernel, by decide +kernel⟩
abbrev KX8_bringToWall : MI := (yX8_bringToWall, cX8_bringToWall, 2, (some .boolean), [])
theorem mX8_bringToWall : mV KX8_bringToWall 1 8 := ⟨⟨rfl, (tin4 (List.mem_of_getElem? (i := 224) rfl)), (tin1 (List.mem_of_getElem? (i := 7) rfl)), ⟨by decide +kernel, by decide +kernel⟩, by decide +kernel, by decide +kernel⟩, (tin4 (List.mem_of_getElem? (i := 222) rfl)), (tin4 (List.mem_of_getElem? (i := 223) rfl)), by decide +kernel, by decide +kernel⟩
abbrev KX8_pileUp : MI := (yX8_pileUp, cX8_pileUp, 3, (some .boolean), [])
theorem mX8_pileUp : mV KX8_pileUp 0 8 := ⟨⟨rfl, (tin4 (List.mem_of_getElem? (i := 235) rfl)), (tin1 (List.mem_of_getElem? (i := 7) rfl)), ⟨by decide +kernel, by decide +kernel⟩, by decide +kernel, by decide +kernel⟩, (tin4 (List.mem_of_getElem? (i := 233) rfl)), (tin4 (List.mem_of_getElem? (i := 234) rfl)), by decide +kernel, by decide +kernel⟩
abbrev KX8_giveUp : MI := (yX8_giveUp, cX8_giveUp, 2, (some .boolean), [])
theorem mX8_giveUp : mV KX8_giveUp 1 8 := ⟨⟨rfl, (tin4 (List.mem_of_getElem? (i := 239) rfl)), (tin1 (List.mem_of_getElem? (i := 7) rfl)), ⟨by decide +kernel, by decide +kernel⟩, by decide +kernel, by decide +kernel⟩, (tin4 (List.mem_of_getElem? (i := 237) rfl)), (tin4 (List.mem_of_getElem? (i := 238) rfl)), by decide +kernel, by decide +kernel⟩
abbrev KX8_passWinter : MI := (yX8_passWinter, cX8_passWinter, 3, (some .boolean), [])
theorem mX8_passWinter : mV KX8_passWinter 1 8 := ⟨⟨rfl, (tin5 (List.mem_of_getElem? (i := 3) rfl)), (tin1 (List.mem_of_getElem? (i := 7) rfl)), ⟨by decide +kernel, by decide +kernel⟩, by decide +kernel, by decide +kernel⟩, (tin5 (List.mem_of_getElem? (i := 1) rfl)), (tin5 (List.mem_of_getElem? (i := 2) rfl)), by decide +kernel, by decide +kernel⟩
abbrev KX8_raiseStones : MI := (yX8_raiseStones, cX8_raiseStones, 6, none, [])
theorem mX8_raiseStones : mV KX8_raiseStones 1 8 := ⟨⟨rfl, (tin5 (List.mem_of_getElem? (i := 42) rfl)), (tin1 (List.mem_of_getElem? (i := 7) rfl)), ⟨by decide +kernel, by decide +kernel⟩, by decide +kernel, by decide +kernel⟩, (tin5 (List.mem_of_getElem? (i := 40) rfl)), (tin5 (List.mem_of_getElem? (i := 41) rfl)), by decide +kernel, by decide +kernel⟩
abbrev KX8_risingIn : MI := (yX8_risingIn, cX8_risingIn, 6, (some .int), [])
theorem mX8_risingIn : mV KX8_risingIn 4 8 := ⟨⟨rfl, (tin5 (List.mem_of_getElem? (i := 46) rfl)), (tin1 (List.mem_of_getElem? (i := 7) rfl)), ⟨by decide +kernel, by decide +kernel⟩, by decide +kernel, by decide +kernel⟩, (tin5 (List.mem_of_getElem? (i := 44) rfl)), (tin5 (List.mem_of_getElem? (i := 45) rfl)), by decide +kernel, by decide +kernel⟩
abbrev KX8_harmOf : MI := (yX8_harmOf, cX8_harmOf, 5, (some .int), [])
theorem mX8_harmOf : mV KX8_harmOf 3 8 := ⟨⟨rfl, (tin5 (List.mem_of_getElem? (i := 12) rfl)), (tin1 (List.mem_of_getElem? (i := 7) rfl)), ⟨by decide +kernel, by decide +kernel⟩, by decide +kernel, by decide +kernel⟩, (tin5 (List.mem_of_getElem? (i := 10) rfl)), (tin5 (List.mem_of_getElem? (i := 11) rfl)), by decide +kernel, by decide +kernel⟩
abbrev KX8_harmOfAll : MI := (yX8_harmOfAll, cX8_harmOfAll, 5, (some .int), [])
theorem mX8_harmOfAll : mV KX8_harmOfAll 2 8 := ⟨⟨rfl, (tin5 (List.mem_of_getElem? (i := 7) rfl)), (tin1 (List.mem_of_getElem? (i := 7) rfl)), ⟨by decide +kernel, by decide +kernel⟩, by decide +kernel, by decide +kernel⟩, (tin5 (List.mem_of_getElem? (i := 5) rfl)), (tin5 (List.mem_of_getElem? (i := 6) rfl)), by decide +kernel, by decide +kernel⟩
abbrev KX8_clearingOf : MI := (yX8_clearingOf, cX8_clearingOf, 4, (some .int), [])
theorem mX8_clearingOf : mV KX8_clearingOf 2 8 := ⟨⟨rfl, (tin5 (List.mem_of_getElem? (i := 197) rfl)), (tin1 (List.mem_of_getElem? (i := 7) rfl)), ⟨by decide +kernel, by decide +kernel⟩, by decide +kernel, by decide +kernel⟩, (tin5 (List.mem_of_getElem? (i := 195) rfl)), (tin5 (List.mem_of_getElem? (i := 196) rfl)), by decide +kernel, by decide +kernel⟩
abbrev KX8_clearingOfAll : MI := (yX8_clearingOfAll, cX8_clearingOfAll, 5, (some .int), [])
theorem mX8_clearingOfAll : mV KX8_clearingOfAll 2 8 := ⟨⟨rfl, (tin6 (List.mem_of_getElem? (i := 70) rfl)), (tin1 (List.mem_of_getElem? (i := 7) rfl)), ⟨by decide +kernel, by decide +kernel⟩, by decide +kernel, by decide +kernel⟩, (tin6 (List.mem_of_getElem? (i := 68) rfl)), (tin6 (List.mem_of_getElem? (i := 69) rfl)), by decide +kernel, by decide +kernel⟩
abbrev KX8_clearingOfCell : MI := (yX8_clearingOfCell, cX8_clearingOfCell, 5, (some .int), [])
theorem mX8_clearingOfCell : mV KX8_clearingOfCell 2 8 := ⟨⟨rfl, (tin6 (List.mem_of_getElem? (i := 88) rfl)), (tin1 (List.mem_of_getElem? (i := 7) rfl)), ⟨by decide +kernel, by decide +kernel⟩, by decide +kernel, by decide +kernel⟩, (tin6 (List.mem_of_getElem? (i := 86) rfl)), (tin6 (List.mem_of_getElem? (i := 87) rfl)), by decide +kernel, by decide +kernel⟩
abbrev KX9_init : MI := (yX9_init, cX9_init, 1, none, [])
theorem mX9_init : mC KX9_init 0 := ⟨⟨rfl, (tin1 (List.mem_of_getElem? (i := 31) rfl)), (tin1 (List.mem_of_getElem? (i := 1) rfl)), ⟨by decide +kernel, by decide +kernel⟩, by decide +kernel, by decide +kernel⟩, (tin1 (List.mem_of_getElem? (i := 30) rfl)), rfl, rfl⟩
abbrev KX9_feed : MI := (yX9_feed, cX9_feed, 6, (some .int), [])
theorem mX9_feed : mV KX9_feed 5 9 := ⟨⟨rfl, (tin2 (List.mem_of_getElem? (i := 172) rfl)), (tin1 (List.mem_of_getElem? (i := 1) rfl)), ⟨by decide +kernel, by decide +kernel⟩, by decide +kernel, by decide +kernel⟩, (tin2 (List.mem_of_getElem? (i := 170) rfl)), (tin2 (List.mem_of_getElem? (i := 171) rfl)), by decide +kernel, by decide +kernel⟩
abbrev KX9_field : MI := (yX9_field, cX9_field, 4, (some .int), [])
theorem mX9_field : mV KX9_field 1 9 := ⟨⟨rfl, (tin3 (List.mem_of_getElem? (i := 82) rfl)), (tin1 (List.mem_of_getElem? (i := 1) rfl)), ⟨by decide +kernel, by decide +kernel⟩, by decide +kernel, by decide +kernel⟩, (tin3 (List.mem_of_getElem? (i := 80) rfl)), (tin3 (List.mem_of_getElem? (i := 81) rfl)), by decide +kernel, by decide +kernel⟩
abbrev KX9_law : MI := (yX9_law, cX9_law, 3, (some .int), [])
theorem mX9_law : mV KX9_law 2 9 := ⟨⟨rfl, (tin4 (List.mem_of_getElem? (i := 59) rfl)), (tin1 (List.mem_of_getElem? (i := 1) rfl)), ⟨by decide +kernel, by decide +kernel⟩, by decide +kernel, by decide +kernel⟩, (tin4 (List.mem_of_getElem? (i := 57) rfl)), (tin4 (List.mem_of_getElem? (i := 58) rfl)), by decide +kernel, by decide +kernel⟩
abbrev KX9_work : MI := (yX9_work, cX9_work, 2, (some .int), [])
theorem mX9_work : mV KX9_work 1 9 := ⟨⟨rfl, (tin4 (List.mem_of_getElem? (i := 122) rfl)), (tin1 (List.mem_of_getElem? (i := 1) rfl)), ⟨by decide +kernel, by decide +kernel⟩, by decide +kernel, by decide +kernel⟩, (tin4 (List.mem_of_getElem? (i := 120) rfl)), (tin4 (List.mem_of_getElem? (i := 121) rfl)), by decide +kernel, by decide +kernel⟩
abbrev KX9_book : MI := (yX9_book, cX9_book, 3, (some .int), [])
theorem mX9_book : mV KX9_book 1 9 := ⟨⟨rfl, (tin5 (List.mem_of_getElem? (i := 58) rfl)), (tin1 (List.mem_of_getElem? (i := 1) rfl)), ⟨by decide +kernel, by decide +kernel⟩, by decide +kernel, by decide +kernel⟩, (tin5 (List.mem_of_getElem? (i := 56) rfl)), (tin5 (List.mem_of_getElem? (i := 57) rfl)), by decide +kernel, by decide +kernel⟩
abbrev KX9_fault : MI := (yX9_fault, cX9_fault, 1, (some .int), [])
theorem mX9_fault : mV KX9_fault 0 9 := ⟨⟨rfl, (tin2 (List.mem_of_getElem? (i := 184) rfl)), (tin1 (List.mem_of_getElem? (i := 1) rfl)), ⟨by decide +kernel, by decide +kernel⟩, by decide +kernel, by decide +kernel⟩, (tin2 (List.mem_of_getElem? (i := 182) rfl)), (tin2 (List.mem_of_getElem? (i := 183) rfl)), by decide +kernel, by decide +kernel⟩
abbrev KX9_undo : MI := (yX9_undo, cX9_undo, 1, (some .int), [])
theorem mX9_undo : mV KX9_undo 0 9 := ⟨⟨rfl, (tin2 (List.mem_of_getElem? (i := 188) rfl)), (tin1 (List.mem_of_getElem? (i := 1) rfl)), ⟨by decide +kernel, by decide +kernel⟩, by decide +kernel, by decide +kernel⟩, (tin2 (List.mem_of_getElem? (i := 186) rfl)), (tin2 (List.mem_of_getElem? (i := 187) rfl)), by decide +kernel, by decide +kernel⟩
abbrev KX9_told : MI := (yX9_told, cX9_told, 2, (some .int), [])
theorem mX9_told : mV KX9_told 1 9 := ⟨⟨rfl, (tin5 (List.mem_of_getElem? (i := 83) rfl)), (tin1 (List.mem_of_getElem? (i := 1) rfl)), ⟨by decide +kernel, by decide +kernel⟩, by decide +kernel, by decide +kernel⟩, (tin5 (List.mem_of_getElem? (i := 81) rfl)), (tin5 (List.mem_of_getElem? (i := 82) rfl)), by decide +kernel, by decide +kernel⟩
abbrev KX9_stone : MI := (yX9_stone, cX9_stone, 3, (some .int), [])
theorem mX9_stone : mV KX9_stone 2 9 := ⟨⟨rfl, (tin5 (List.mem_of_getElem? (i := 95) rfl)), (tin1 (List.mem_of_getElem? (i := 1) rfl)), ⟨by decide +kernel, by decide +kernel⟩, by decide +kernel, by decide +kernel⟩, (tin5 (List.mem_of_getElem? (i := 93) rfl)), (tin5 (List.mem_of_getElem? (i := 94) rfl)), by decide +kernel, by decide +kernel⟩
abbrev KX9_cell : MI := (yX9_cell, cX9_cell, 5, (some .int), [])
theorem mX9_cell : mV KX9_cell 3 9 := ⟨⟨rfl, (tin5 (List.mem_of_getElem? (i := 130) rfl)), (tin1 (List.mem_of_getElem? (i := 1) rfl)), ⟨by decide +kernel, by decide +kernel⟩, by decide +kernel, by decide +kernel⟩, (tin5 (List.mem_of_getElem? (i := 128) rfl)), (tin5 (List.mem_of_getElem? (i := 129) rfl)), by decide +kernel, by decide +kernel⟩
abbrev KX9_sledge : MI := (yX9_sledge, cX9_sledge, 2, (some .int), [])
theorem mX9_sledge : mV KX9_sledge 1 9 := ⟨⟨rfl, (tin5 (List.mem_of_getElem? (i := 163) rfl)), (tin1 (List.mem_of_getElem? (i := 1) rfl)), ⟨by decide +kernel, by decide +kernel⟩, by decide +kernel, by decide +kernel⟩, (tin5 (List.mem_of_getElem? (i := 161) rfl)), (tin5 (List.mem_of_getElem? (i := 162) rfl)), by decide +kernel, by decide +kernel⟩
abbrev KX9_sums : MI := (yX9_sums, cX9_sums, 2, (some .int), [])
theorem mX9_sums : mV KX9_sums 1 9 := ⟨⟨rfl, (tin5 (List.mem_of_getElem? (i := 170) rfl)), (tin1 (List.mem_of_getElem? (i := 1) rfl)), ⟨by decide +kernel, by decide +kernel⟩, by decide +kernel, by decide +kernel⟩, (tin5 (List.mem_of_getElem? (i := 168) rfl)), (tin5 (List.mem_of_getElem? (i := 169) rfl)), by decide +kernel, by decide +kernel⟩
abbrev KX9_damage : MI := (yX9_damage, cX9_damage, 4, (some .int), [])
theorem mX9_damage : mV KX9_damage 3 9 := ⟨⟨rfl, (tin5 (List.mem_of_getElem? (i := 177) rfl)), (tin1 (List.mem_of_getElem? (i := 1) rfl)), ⟨by decide +kernel, by decide +kernel⟩, by decide +kernel, by decide +kernel⟩, (tin5 (List.mem_of_getElem? (i := 175) rfl)), (tin5 (List.mem_of_getElem? (i := 176) rfl)), by decide +kernel, by decide +kernel⟩
abbrev KX9_rises : MI := (yX9_rises, cX9_rises, 3, (some .int), [])
theorem mX9_rises : mV KX9_rises 2 9 := ⟨⟨rfl, (tin5 (List.mem_of_getElem? (i := 185) rfl)), (tin1 (List.mem_of_getElem? (i := 1) rfl)), ⟨by decide +kernel, by decide +kernel⟩, by decide +kernel, by decide +kernel⟩, (tin5 (List.mem_of_getElem? (i := 183) rfl)), (tin5 (List.mem_of_getElem? (i := 184) rfl)), by decide +kernel, by decide +kernel⟩
abbrev KX9_clear : MI := (yX9_clear, cX9_clear, 2, (some .int), [])
theorem mX9_clear : mV KX9_clear 1 9 := ⟨⟨rfl, (tin5 (List.mem_of_getElem? (i := 193) rfl)), (tin1 (List.mem_of_getElem? (i := 1) rfl)), ⟨by decide +kernel, by decide +kernel⟩, by decide +kernel, by decide +kernel⟩, (tin5 (List.mem_of_getElem? (i := 191) rfl)), (tin5 (List.mem_of_getElem? (i := 192) rfl)), by decide +kernel, by decide +kernel⟩
abbrev KX9_stops : MI := (yX9_stops, cX9_stops, 3, (some .int), [])
theorem mX9_stops : mV KX9_stops 2 9 := ⟨⟨rfl, (tin5 (List.mem_of_getElem? (i := 204) rfl)), (tin1 (List.mem_of_getElem? (i := 1) rfl)), ⟨by decide +kernel, by decide +kernel⟩, by decide +kernel, by decide +kernel⟩, (tin5 (List.mem_of_getElem? (i := 202) rfl)), (tin5 (List.mem_of_getElem? (i := 203) rfl)), by decide +kernel, by decide +kernel⟩
abbrev KX9_way : MI := (yX9_way, cX9_way, 2, (some .long), [])
theorem mX9_way : mV KX9_way 1 9 := ⟨⟨rfl, (tin6 (List.mem_of_getElem? (i := 8) rfl)), (tin1 (List.mem_of_getElem? (i := 1) rfl)), ⟨by decide +kernel, by decide +kernel⟩, by decide +kernel, by decide +kernel⟩, (tin6 (List.mem_of_getElem? (i := 6) rfl)), (tin6 (List.mem_of_getElem? (i := 7) rfl)), by decide +kernel, by decide +kernel⟩
abbrev KX9_heaps : MI := (yX9_heaps, cX9_heaps, 3, (some .int), [])
theorem mX9_heaps : mV KX9_heaps 2 9 := ⟨⟨rfl, (tin6 (List.mem_of_getElem? (i := 23) rfl)), (tin1 (List.mem_of_getElem? (i := 1) rfl)), ⟨by decide +kernel, by decide +kernel⟩, by decide +kernel, by decide +kernel⟩, (tin6 (List.mem_of_getElem? (i := 21) rfl)), (tin6 (List.mem_of_getElem? (i := 22) rfl)), by decide +kernel, by decide +kernel⟩
abbrev KX9_line : MI := (yX9_line, cX9_line, 3, (some .int), [])
theorem mX9_line : mV KX9_line 2 9 := ⟨⟨rfl, (tin6 (List.mem_of_getElem? (i := 61) rfl)), (tin1 (List.mem_of_getElem? (i := 1) rfl)), ⟨by decide +kernel, by decide +kernel⟩, by decide +kernel, by decide +kernel⟩, (tin6 (List.mem_of_getElem? (i := 59) rfl)), (tin6 (List.mem_of_getElem? (i := 60) rfl)), by decide +kernel, by decide +kernel⟩
abbrev KX9_first : MI := (yX9_first, cX9_first, 3, (some .long), [])
theorem mX9_first : mV KX9_first 2 9 := ⟨⟨rfl, (tin6 (List.mem_of_getElem? (i := 79) rfl)), (tin1 (List.mem_of_getElem? (i := 1) rfl)), ⟨by decide +kernel, by decide +kernel⟩, by decide +kernel, by decide +kernel⟩, (tin6 (List.mem_of_getElem? (i := 77) rfl)), (tin6 (List.mem_of_getElem? (i := 78) rfl)), by decide +kernel, by decide +kernel⟩
abbrev KX9_mix : MI := (yX9_mix, cX9_mix, 5, (some .int), [])
theorem mX9_mix : mV KX9_mix 4 9 := ⟨⟨rfl, (tin6 (List.mem_of_getElem? (i := 99) rfl)), (tin1 (List.mem_of_getElem? (i := 1) rfl)), ⟨by decide +kernel, by decide +kernel⟩, by decide +kernel, by decide +kernel⟩, (tin6 (List.mem_of_getElem? (i := 97) rfl)), (tin6 (List.mem_of_getElem? (i := 98) rfl)), by decide +kernel, by decide +kernel⟩
abbrev KX9_enough : MI := (yX9_enough, cX9_enough, 3, (some .int), [])
theorem mX9_enough : mV KX9_enough 2 9 := ⟨⟨rfl, (tin6 (List.mem_of_getElem? (i := 112) rfl)), (tin1 (List.mem_of_getElem? (i := 1) rfl)), ⟨by decide +kernel, by decide +kernel⟩, by decide +kernel, by decide +kernel⟩, (tin6 (List.mem_of_getElem? (i := 110) rfl)), (tin6 (List.mem_of_getElem? (i := 111) rfl)), by decide +kernel, by decide +kernel⟩
abbrev KX9_left : MI := (yX9_left, cX9_left, 3, (some .int), [])
theorem mX9_left : mV KX9_left 2 9 := ⟨⟨rfl, (tin6 (List.mem_of_getElem? (i := 149) rfl)), (tin1 (List.mem_of_getElem? (i := 1) rfl)), ⟨by decide +kernel, by decide +kernel⟩, by decide +kernel, by decide +kernel⟩, (tin6 (List.mem_of_getElem? (i := 147) rfl)), (tin6 (List.mem_of_getElem? (i := 148) rfl)), by decide +kernel, by decide +kernel⟩
abbrev KX9_fits : MI := (yX9_fits, cX9_fits, 1, (some .int), [])
theorem mX9_fits : mV KX9_fits 0 9 := ⟨⟨rfl, (tin2 (List.mem_of_getElem? (i := 203) rfl)), (tin1 (List.mem_of_getElem? (i := 1) rfl)), ⟨by decide +kernel, by decide +kernel⟩, by decide +kernel, by decide +kernel⟩, (tin2 (List.mem_of_getElem? (i := 201) rfl)), (tin2 (List.mem_of_getElem? (i := 202) rfl)), by decide +kernel, by decide +kernel⟩
abbrev KX9_frost : MI := (yX9_frost, cX9_frost, 5, (some .int), [])
theorem mX9_frost : mV KX9_frost 4 9 := ⟨⟨rfl, (tin6 (List.mem_of_getElem? (i := 160) rfl)), (tin1 (List.mem_of_getElem? (i := 1) rfl)), ⟨by decide +kernel, by decide +kernel⟩, by decide +kernel, by decide +kernel⟩, (tin6 (List.mem_of_getElem? (i := 158) rfl)), (tin6 (List.mem_of_getElem? (i := 159) rfl)), by decide +kernel, by decide +kernel⟩
abbrev KX9_span : MI := (yX9_span, cX9_span, 12, (some .int), [])
theorem mX9_span : mV KX9_span 6 9 := ⟨⟨rfl, (tin6 (List.mem_of_getElem? (i := 203) rfl)), (tin1 (List.mem_of_getElem? (i := 1) rfl)), ⟨by decide +kernel, by decide +kernel⟩, by decide +kernel, by decide +kernel⟩, (tin6 (List.mem_of_getElem? (i := 201) rfl)), (tin6 (List.mem_of_getElem? (i := 202) rfl)), by decide +kernel, by decide +kernel⟩
abbrev KX9_chosen : MI := (yX9_chosen, cX9_chosen, 2, (some .int), [])
theorem mX9_chosen : mV KX9_chosen 1 9 := ⟨⟨rfl, (tin6 (List.mem_of_getElem? (i := 210) rfl)), (tin1 (List.mem_of_getElem? (i := 1) rfl)), ⟨by decide +kernel, by decide +kernel⟩, by decide +kernel, by decide +kernel⟩, (tin6 (List.mem_of_getElem? (i := 208) rfl)), (tin6 (List.mem_of_getElem? (i := 209) rfl)), by decide +kernel, by decide +kernel⟩
abbrev KX9_lifts : MI := (yX9_lifts, cX9_lifts, 6, (some .int), [])
theorem mX9_lifts : mV KX9_lifts 2 9 := ⟨⟨rfl, (tin6 (List.mem_of_getElem? (i := 225) rfl)), (tin1 (List.mem_of_getElem? (i := 1) rfl)), ⟨by decide +kernel, by decide +kernel⟩, by decide +kernel, by decide +kernel⟩, (tin6 (List.mem_of_getElem? (i := 223) rfl)), (tin6 (List.mem_of_getElem? (i := 224) rfl)), by decide +kernel, by decide +kernel⟩
abbrev KX9_loads : MI := (yX9_loads, cX9_loads, 3, (some .long), [])
theorem mX9_loads : mV KX9_loads 2 9 := ⟨⟨rfl, (tin6 (List.mem_of_getElem? (i := 234) rfl)), (tin1 (List.mem_of_getElem? (i := 1) rfl)), ⟨by decide +kernel, by decide +kernel⟩, by decide +kernel, by decide +kernel⟩, (tin6 (List.mem_of_getElem? (i := 232) rfl)), (tin6 (List.mem_of_getElem? (i := 233) rfl)), by decide +kernel, by decide +kernel⟩
abbrev KX9_stoniest : MI := (yX9_stoniest, cX9_stoniest, 5, (some .int), [])
theorem mX9_stoniest : mV KX9_stoniest 0 9 := ⟨⟨rfl, (tin3 (List.mem_of_getElem? (i := 20) rfl)), (tin1 (List.mem_of_getElem? (i := 1) rfl)), ⟨by decide +kernel, by decide +kernel⟩, by decide +kernel, by decide +kernel⟩, (tin3 (List.mem_of_getElem? (i := 18) rfl)), (tin3 (List.mem_of_getElem? (i := 19) rfl)), by decide +kernel, by decide +kernel⟩
abbrev KX9_clean : MI := (yX9_clean, cX9_clean, 3, (some .int), [])
theorem mX9_clean : mV KX9_clean 0 9 := ⟨⟨rfl, (tin3 (List.mem_of_getElem? (i := 33) rfl)), (tin1 (List.mem_of_getElem? (i := 1) rfl)), ⟨by decide +kernel, by decide +kernel⟩, by decide +kernel, by decide +kernel⟩, (tin3 (List.mem_of_getElem? (i := 31) rfl)), (tin3 (List.mem_of_getElem? (i := 32) rfl)), by decide +kernel, by decide +kernel⟩
abbrev KX9_image : MI := (yX9_image, cX9_image, 1, (some .int), [])
theorem mX9_image : mV KX9_image 0 9 := ⟨⟨rfl, (tin3 (List.mem_of_getElem? (i := 49) rfl)), (tin1 (List.mem_of_getElem? (i := 1) rfl)), ⟨by decide +kernel, by decide +kernel⟩, by decide +kernel, by decide +kernel⟩, (tin3 (List.mem_of_getElem? (i := 47) rfl)), (tin3 (List.mem_of_getElem? (i := 48) rfl)), by decide +kernel, by decide +kernel⟩
abbrev KX9_restore : MI := (yX9_restore, cX9_restore, 1, (some .int), [])
theorem mX9_restore : mV KX9_restore 0 9 := ⟨⟨rfl, (tin3 (List.mem_of_getElem? (i := 62) rfl)), (tin1 (List.mem_of_getElem? (i := 1) rfl)), ⟨by decide +kernel, by decide +kernel⟩, by decide +kernel, by decide +kernel⟩, (tin3 (List.mem_of_getElem? (i := 60) rfl)), (tin3 (List.mem_of_getElem? (i := 61) rfl)), by decide +kernel, by decide +kernel⟩
abbrev KX9_status : MI := (yX9_status, cX9_status, 2, (some .int), [])
theorem mX9_status : mV KX9_status 1 9 := ⟨⟨rfl, (tin3 (List.mem_of_getElem? (i := 70) rfl)), (tin1 (List.mem_of_getElem? (i := 1) rfl)), ⟨by decide +kernel, by decide +kernel⟩, by decide +kernel, by decide +kernel⟩, (tin3 (List.mem_of_getElem? (i := 68) rfl)), (tin3 (List.mem_of_getElem? (i := 69) rfl)), by decide +kernel, by decide +kernel⟩
abbrev KX9_count : MI := (yX9_count, cX9_count, 2, (some .int), [])
theorem mX9_count : mV KX9_count 1 9 := ⟨⟨rfl, (tin3 (List.mem_of_getElem? (i := 74) rfl)), (tin1 (List.mem_of_getElem? (i := 1) rfl)), ⟨by decide +kernel, by decide +kernel⟩, by decide +kernel, by decide +kernel⟩, (tin3 (List.mem_of_getElem? (i := 72) rfl)), (tin3 (List.mem_of_getElem? (i := 73) rfl)), by decide +kernel, by decide +kernel⟩
abbrev KX9_needArgument : MI := (yX9_needArgument, cX9_needArgument, 2, none, [])
theorem mX9_needArgument : mV KX9_needArgument 1 9 := ⟨⟨rfl, (tin3 (List.mem_of_getElem? (i := 90) rfl)), (tin1 (List.mem_of_getElem? (i := 1) rfl)), ⟨by decide +kernel, by decide +kernel⟩, by decide +kernel, by decide +kernel⟩, (tin3 (List.mem_of_getElem? (i := 89) rfl)), (List.mem_append_left _ (List.mem_of_getElem? (i := 7) rfl)), by decide +kernel, by decide +kernel⟩
abbrev KX9_needCell : MI := (yX9_needCell, cX9_needCell, 3, none, [])
theorem mX9_needCell : mV KX9_needCell 2 9 := ⟨⟨rfl, (tin5 (List.mem_of_getElem? (i := 134) rfl)), (tin1 (List.mem_of_getElem? (i := 1) rfl)), ⟨by decide +kernel, by decide +kernel⟩, by decide +kernel, by decide +kernel⟩, (tin5 (List.mem_of_getElem? (i := 133) rfl)), (List.mem_append_left _ (List.mem_of_getElem? (i := 35) rfl)), by decide +kernel, by decide +kernel⟩
abbrev KX9_needStone : MI := (yX9_needStone, cX9_needStone, 2, none, [])
theorem mX9_needStone : mV KX9_needStone 1 9 := ⟨⟨rfl, (tin5 (List.mem_of_getElem? (i := 99) rfl)), (tin1 (List.mem_of_getElem? (i := 1) rfl)), ⟨by decide +kernel, by decide +kernel⟩, by decide +kernel, by decide +kernel⟩, (tin5 (List.mem_of_getElem? (i := 98) rfl)), (List.mem_append_left _ (List.mem_of_getElem? (i := 34) rfl)), by decide +kernel, by decide +kernel⟩
abbrev KX9_openText : MI := (yX9_openText, cX9_openText, 3, none, [])
theorem mX9_openText : mV KX9_openText 2 9 := ⟨⟨rfl, (tin3 (List.mem_of_getElem? (i := 86) rfl)), (tin1 (List.mem_of_getElem? (i := 1) rfl)), ⟨by decide +kernel, by decide +kernel⟩, by decide +kernel, by decide +kernel⟩, (tin3 (List.mem_of_getElem? (i := 85) rfl)), (List.mem_append_left _ (List.mem_of_getElem? (i := 6) rfl)), by decide +kernel, by decide +kernel⟩
abbrev KX9_isLimit : MI := (yX9_isLimit, cX9_isLimit, 1, (some .boolean), [])
theorem mX9_isLimit : mS KX9_isLimit 1 := ⟨⟨rfl, (tin6 (List.mem_of_getElem? (i := 115) rfl)), (tin1 (List.mem_of_getElem? (i := 1) rfl)), ⟨by decide +kernel, by decide +kernel⟩, by decide +kernel, by decide +kernel⟩, (tin6 (List.mem_of_getElem? (i := 114) rfl))⟩
abbrev KX9_isFrost : MI := (yX9_isFrost, cX9_isFrost, 2, (some .boolean), [])
theorem mX9_isFrost : mS KX9_isFrost 2 := ⟨⟨rfl, (tin6 (List.mem_of_getElem? (i := 163) rfl)), (tin1 (List.mem_of_getElem? (i := 1) rfl)), ⟨by decide +kernel, by decide +kernel⟩, by decide +kernel, by decide +kernel⟩, (tin6 (List.mem_of_getElem? (i := 162) rfl))⟩
abbrev KX9_cellAt : MI := (yX9_cellAt, cX9_cellAt, 2, (some .int), [])
theorem mX9_cellAt : mS KX9_cellAt 2 := ⟨⟨rfl, (tin4 (List.mem_of_getElem? (i := 35) rfl)), (tin1 (List.mem_of_getElem? (i := 1) rfl)), ⟨by decide +kernel, by decide +kernel⟩, by decide +kernel, by decide +kernel⟩, (tin4 (List.mem_of_getElem? (i := 34) rfl))⟩
abbrev KX9_column : MI := (yX9_column, cX9_column, 1, (some .int), [])
theorem mX9_column : mS KX9_column 1 := ⟨⟨rfl, (tin3 (List.mem_of_getElem? (i := 10) rfl)), (tin1 (List.mem_of_getElem? (i := 1) rfl)), ⟨by decide +kernel, by decide +kernel⟩, by decide +kernel, by decide +kernel⟩, (tin3 (List.mem_of_getElem? (i := 9) rfl))⟩
abbrev KX9_row : MI := (yX9_row, cX9_row, 1, (some .int), [])
theorem mX9_row : mS KX9_row 1 := ⟨⟨rfl, (tin3 (List.mem_of_getElem? (i := 16) rfl)), (tin1 (List.mem_of_getElem? (i := 1) rfl)), ⟨by decide +kernel, by decide +kernel⟩, by decide +kernel, by decide +kernel⟩, (tin3 (List.mem_of_getElem? (i := 15) rfl))⟩
abbrev KX9_isCell : MI := (yX9_isCell, cX9_isCell, 1, (some .boolean), [])
theorem mX9_isCell : mS KX9_isCell 1 := ⟨⟨rfl, (tin2 (List.mem_of_getElem? (i := 235) rfl)), (tin1 (List.mem_of_getElem? (i := 1) rfl)), ⟨by decide +kernel, by decide +kernel⟩, by decide +kernel, by decide +kernel⟩, (tin2 (List.mem_of_getElem? (i := 234) rfl))⟩
abbrev KX9_far : MI := (yX9_far, cX9_far, 2, (some .int), [])
theorem mX9_far : mS KX9_far 2 := ⟨⟨rfl, (tin3 (List.mem_of_getElem? (i := 7) rfl)), (tin1 (List.mem_of_getElem? (i := 1) rfl)), ⟨by decide +kernel, by decide +kernel⟩, by decide +kernel, by decide +kernel⟩, (tin3 (List.mem_of_getElem? (i := 6) rfl))⟩
abbrev KX9_dividedUpward : MI := (yX9_dividedUpward, cX9_dividedUpward, 2, (some .int), [])
theorem mX9_dividedUpward : mS KX9_dividedUpward 2 := ⟨⟨rfl, (tin4 (List.mem_of_getElem? (i := 208) rfl)), (tin1 (List.mem_of_getElem? (i := 1) rfl)), ⟨by decide +kernel, by decide +kernel⟩, by decide +kernel, by decide +kernel⟩, (tin4 (List.mem_of_getElem? (i := 207) rfl))⟩
abbrev KX9_within : MI := (yX9_within, cX9_within, 3, (some .int), [])
theorem mX9_within : mS KX9_within 3 := ⟨⟨rfl, (tin5 (List.mem_of_getElem? (i := 33) rfl)), (tin1 (List.mem_of_getElem? (i := 1) rfl)), ⟨by decide +kernel, by decide +kernel⟩, by decide +kernel, by decide +kernel⟩, (tin5 (List.mem_of_getElem? (i := 32) rfl))⟩
abbrev KX10_init : MI := (yX10_init, cX10_init, 1, none, [])
theorem mX10_init : mC KX10_init 0 := ⟨⟨rfl, (tin6 (List.mem_of_getElem? (i := 239) rfl)), (tin1 (List.mem_of_getElem? (i := 12) rfl)), ⟨by decide +kernel, by decide +kernel⟩, by decide +kernel, by decide +kernel⟩, (tin6 (List.mem_of_getElem? (i := 238) rfl)), rfl, rfl⟩
abbrev KX10_tellsNothing : MI := (yX10_tellsNothing, cX10_tellsNothing, 2, none, [])
theorem mX10_tellsNothing : mV KX10_tellsNothing 0 10 := ⟨⟨rfl, (tin7 (List.mem_of_getElem? (i := 6) rfl)), (tin1 (List.mem_of_getElem? (i := 12) rfl)), ⟨by decide +kernel, by decide +kernel⟩, by decide +kernel, by decide +kernel⟩, (tin7 (List.mem_of_getElem? (i := 5) rfl)), (List.mem_append_left _ (List.mem_of_getElem? (i := 50) rfl)), by decide +kernel, by decide +kernel⟩
abbrev KX10_thrown : MI := (yX10_thrown, cX10_thrown, 1, (some .int), [])
theorem mX10_thrown : mV KX10_thrown 0 10 := ⟨⟨rfl, (tin7 (List.mem_of_getElem? (i := 147) rfl)), (tin1 (List.mem_of_getElem? (i := 12) rfl)), ⟨by decide +kernel, by decide +kernel⟩, by decide +kernel, by decide +kernel⟩, (tin7 (List.mem_of_getElem? (i := 145) rfl)), (tin7 (List.mem_of_getElem? (i := 146) rfl)), by decide +kernel, by decide +kernel⟩
abbrev KX10_bad : MI := (yX10_bad, cX10_bad, 4, (some .boolean), [])
theorem mX10_bad : mV KX10_bad 3 10 := ⟨⟨rfl, (tin7 (List.mem_of_getElem? (i := 162) rfl)), (tin1 (List.mem_of_getElem? (i := 12) rfl)), ⟨by decide +kernel, by decide +kernel⟩, by decide +kernel, by decide +kernel⟩, (tin7 (List.mem_of_getElem? (i := 161) rfl)), (List.mem_append_left _ (List.mem_of_getElem? (i := 52) rfl)), by decide +kernel, by decide +kernel⟩
abbrev KX10_in : MI := (yX10_in, cX10_in, 3, (some .boolean), [])
theorem mX10_in : mS KX10_in 3 := ⟨⟨rfl, (tin7 (List.mem_of_getElem? (i := 158) rfl)), (tin1 (List.mem_of_getElem? (i := 12) rfl)), ⟨by decide +kernel, by decide +kernel⟩, by decide +kernel, by decide +kernel⟩, (tin7 (List.mem_of_getElem? (i := 157) rfl))⟩
abbrev KX10_less : MI := (yX10_less, cX10_less, 2, (some .int), [])
theorem mX10_less : mS KX10_less 2 := ⟨⟨rfl, (tin8 (List.mem_of_getElem? (i := 99) rfl)), (tin1 (List.mem_of_getElem? (i := 12) rfl)), ⟨by decide +kernel, by decide +kernel⟩, by decide +kernel, by decide +kernel⟩, (tin8 (List.mem_of_getElem? (i := 98) rfl))⟩
abbrev KX10_more : MI := (yX10_more, cX10_more, 2, (some .int), [])
theorem mX10_more : mS KX10_more 2 := ⟨⟨rfl, (tin8 (List.mem_of_getElem? (i := 102) rfl)), (tin1 (List.mem_of_getElem? (i := 12) rfl)), ⟨by decide +kernel, by decide +kernel⟩, by decide +kernel, by decide +kernel⟩, (tin8 (List.mem_of_getElem? (i := 101) rfl))⟩
abbrev KX10_feed : MI := (yX10_feed, cX10_feed, 8, (some .int), [])
theorem mX10_feed : mV KX10_feed 5 10 := ⟨⟨rfl, (tin7 (List.mem_of_getElem? (i := 151) rfl)), (tin1 (List.mem_of_getElem? (i := 12) rfl)), ⟨by decide +kernel, by decide +kernel⟩, by decide +kernel, by decide +kernel⟩, (tin7 (List.mem_of_getElem? (i := 149) rfl)), (tin7 (List.mem_of_getElem? (i := 150) rfl)), by decide +kernel, by decide +kernel⟩
abbrev KX10_byteAt : MI := (yX10_byteAt, cX10_byteAt, 2, (some .int), [])
theorem mX10_byteAt : mV KX10_byteAt 1 10 := ⟨⟨rfl, (tin7 (List.mem_of_getElem? (i := 174) rfl)), (tin1 (List.mem_of_getElem? (i := 12) rfl)), ⟨by decide +kernel, by decide +kernel⟩, by decide +kernel, by decide +kernel⟩, (tin7 (List.mem_of_getElem? (i := 173) rfl)), (List.mem_append_left _ (List.mem_of_getElem? (i := 55) rfl)), by decide +kernel, by decide +kernel⟩
abbrev KX10_blanks : MI := (yX10_blanks, cX10_blanks, 1, none, [])
theorem mX10_blanks : mV KX10_blanks 0 10 := ⟨⟨rfl, (tin7 (List.mem_of_getElem? (i := 170) rfl)), (tin1 (List.mem_of_getElem? (i := 12) rfl)), ⟨by decide +kernel, by decide +kernel⟩, by decide +kernel, by decide +kernel⟩, (tin7 (List.mem_of_getElem? (i := 169) rfl)), (List.mem_append_left _ (List.mem_of_getElem? (i := 54) rfl)), by decide +kernel, by decide +kernel⟩
abbrev KX10_wrong : MI := (yX10_wrong, cX10_wrong, 3, none, [])
theorem mX10_wrong : mV KX10_wrong 2 10 := ⟨⟨rfl, (tin7 (List.mem_of_getElem? (i := 196) rfl)), (tin1 (List.mem_of_getElem? (i := 12) rfl)), ⟨by decide +kernel, by decide +kernel⟩, by decide +kernel, by decide +kernel⟩, (tin7 (List.mem_of_getElem? (i := 195) rfl)), (List.mem_append_left _ (List.mem_of_getElem? (i := 59) rfl)), by decide +kernel, by decide +kernel⟩
abbrev KX10_isDigit : MI := (yX10_isDigit, cX10_isDigit, 1, (some .boolean), [])
theorem mX10_isDigit : mS KX10_isDigit 1 := ⟨⟨rfl, (tin7 (List.mem_of_getElem? (i := 207) rfl)), (tin1 (List.mem_of_getElem? (i := 12) rfl)), ⟨by decide +kernel, by decide +kernel⟩, by decide +kernel, by decide +kernel⟩, (tin7 (List.mem_of_getElem? (i := 206) rfl))⟩
abbrev KX10_isSmall : MI := (yX10_isSmall, cX10_isSmall, 1, (some .boolean), [])
theorem mX10_isSmall : mS KX10_isSmall 1 := ⟨⟨rfl, (tin7 (List.mem_of_getElem? (i := 189) rfl)), (tin1 (List.mem_of_getElem? (i := 12) rfl)), ⟨by decide +kernel, by decide +kernel⟩, by decide +kernel, by decide +kernel⟩, (tin7 (List.mem_of_getElem? (i := 188) rfl))⟩
abbrev KX10_number : MI := (yX10_number, cX10_number, 5, (some .int), [])
theorem mX10_number : mV KX10_number 2 10 := ⟨⟨rfl, (tin7 (List.mem_of_getElem? (i := 204) rfl)), (tin1 (List.mem_of_getElem? (i := 12) rfl)), ⟨by decide +kernel, by decide +kernel⟩, by decide +kernel, by decide +kernel⟩, (tin7 (List.mem_of_getElem? (i := 203) rfl)), (List.mem_append_left _ (List.mem_of_getElem? (i := 61) rfl)), by decide +kernel, by decide +kernel⟩
abbrev KX10_wordHere : MI := (yX10_wordHere, cX10_wordHere, 3, (some .int), [])
theorem mX10_wordHere : mV KX10_wordHere 0 10 := ⟨⟨rfl, (tin7 (List.mem_of_getElem? (i := 186) rfl)), (tin1 (List.mem_of_getElem? (i := 12) rfl)), ⟨by decide +kernel, by decide +kernel⟩, by decide +kernel, by decide +kernel⟩, (tin7 (List.mem_of_getElem? (i := 185) rfl)), (List.mem_append_left _ (List.mem_of_getElem? (i := 58) rfl)), by decide +kernel, by decide +kernel⟩
abbrev KX10_six : MI := (yX10_six, cX10_six, 7, (some .int), [])
theorem mX10_six : mS KX10_six 6 := ⟨⟨rfl, (tin7 (List.mem_of_getElem? (i := 192) rfl)), (tin1 (List.mem_of_getElem? (i := 12) rfl)), ⟨by decide +kernel, by decide +kernel⟩, by decide +kernel, by decide +kernel⟩, (tin7 (List.mem_of_getElem? (i := 191) rfl))⟩
abbrev KX10_isWord : MI := (yX10_isWord, cX10_isWord, 7, (some .boolean), [])
theorem mX10_isWord : mV KX10_isWord 6 10 := ⟨⟨rfl, (tin7 (List.mem_of_getElem? (i := 182) rfl)), (tin1 (List.mem_of_getElem? (i := 12) rfl)), ⟨by decide +kernel, by decide +kernel⟩, by decide +kernel, by decide +kernel⟩, (tin7 (List.mem_of_getElem? (i := 181) rfl)), (List.mem_append_left _ (List.mem_of_getElem? (i := 57) rfl)), by decide +kernel, by decide +kernel⟩
abbrev KX10_skipWord : MI := (yX10_skipWord, cX10_skipWord, 1, none, [])
theorem mX10_skipWord : mV KX10_skipWord 0 10 := ⟨⟨rfl, (tin7 (List.mem_of_getElem? (i := 200) rfl)), (tin1 (List.mem_of_getElem? (i := 12) rfl)), ⟨by decide +kernel, by decide +kernel⟩, by decide +kernel, by decide +kernel⟩, (tin7 (List.mem_of_getElem? (i := 199) rfl)), (List.mem_append_left _ (List.mem_of_getElem? (i := 60) rfl)), by decide +kernel, by decide +kernel⟩
abbrev KX10_takes : MI := (yX10_takes, cX10_takes, 8, (some .boolean), [])
theorem mX10_takes : mV KX10_takes 6 10 := ⟨⟨rfl, (tin8 (List.mem_of_getElem? (i := 12) rfl)), (tin1 (List.mem_of_getElem? (i := 12) rfl)), ⟨by decide +kernel, by decide +kernel⟩, by decide +kernel, by decide +kernel⟩, (tin8 (List.mem_of_getElem? (i := 11) rfl)), (List.mem_append_left _ (List.mem_of_getElem? (i := 71) rfl)), by decide +kernel, by decide +kernel⟩
abbrev KX10_sign : MI := (yX10_sign, cX10_sign, 2, none, [])
theorem mX10_sign : mV KX10_sign 1 10 := ⟨⟨rfl, (tin7 (List.mem_of_getElem? (i := 216) rfl)), (tin1 (List.mem_of_getElem? (i := 12) rfl)), ⟨by decide +kernel, by decide +kernel⟩, by decide +kernel, by decide +kernel⟩, (tin7 (List.mem_of_getElem? (i := 215) rfl)), (List.mem_append_left _ (List.mem_of_getElem? (i := 63) rfl)), by decide +kernel, by decide +kernel⟩
abbrev KX10_takesSign : MI := (yX10_takesSign, cX10_takesSign, 3, (some .boolean), [])
theorem mX10_takesSign : mV KX10_takesSign 1 10 := ⟨⟨rfl, (tin8 (List.mem_of_getElem? (i := 16) rfl)), (tin1 (List.mem_of_getElem? (i := 12) rfl)), ⟨by decide +kernel, by decide +kernel⟩, by decide +kernel, by decide +kernel⟩, (tin8 (List.mem_of_getElem? (i := 15) rfl)), (List.mem_append_left _ (List.mem_of_getElem? (i := 72) rfl)), by decide +kernel, by decide +kernel⟩
abbrev KX10_starts : MI := (yX10_starts, cX10_starts, 2, none, [])
theorem mX10_starts : mV KX10_starts 1 10 := ⟨⟨rfl, (tin7 (List.mem_of_getElem? (i := 166) rfl)), (tin1 (List.mem_of_getElem? (i := 12) rfl)), ⟨by decide +kernel, by decide +kernel⟩, by decide +kernel, by decide +kernel⟩, (tin7 (List.mem_of_getElem? (i := 165) rfl)), (List.mem_append_left _ (List.mem_of_getElem? (i := 53) rfl)), by decide +kernel, by decide +kernel⟩
abbrev KX10_ends : MI := (yX10_ends, cX10_ends, 1, (some .int), [])
theorem mX10_ends : mV KX10_ends 0 10 := ⟨⟨rfl, (tin7 (List.mem_of_getElem? (i := 220) rfl)), (tin1 (List.mem_of_getElem? (i := 12) rfl)), ⟨by decide +kernel, by decide +kernel⟩, by decide +kernel, by decide +kernel⟩, (tin7 (List.mem_of_getElem? (i := 219) rfl)), (List.mem_append_left _ (List.mem_of_getElem? (i := 64) rfl)), by decide +kernel, by decide +kernel⟩
abbrev KX10_cellHere : MI := (yX10_cellHere, cX10_cellHere, 5, (some .int), [])
theorem mX10_cellHere : mV KX10_cellHere 2 10 := ⟨⟨rfl, (tin7 (List.mem_of_getElem? (i := 212) rfl)), (tin1 (List.mem_of_getElem? (i := 12) rfl)), ⟨by decide +kernel, by decide +kernel⟩, by decide +kernel, by decide +kernel⟩, (tin7 (List.mem_of_getElem? (i := 211) rfl)), (List.mem_append_left _ (List.mem_of_getElem? (i := 62) rfl)), by decide +kernel, by decide +kernel⟩
abbrev KX10_clause : MI := (yX10_clause, cX10_clause, 4, none, [])
theorem mX10_clause : mV KX10_clause 0 10 := ⟨⟨rfl, (tin7 (List.mem_of_getElem? (i := 178) rfl)), (tin1 (List.mem_of_getElem? (i := 12) rfl)), ⟨by decide +kernel, by decide +kernel⟩, by decide +kernel, by decide +kernel⟩, (tin7 (List.mem_of_getElem? (i := 177) rfl)), (List.mem_append_left _ (List.mem_of_getElem? (i := 56) rfl)), by decide +kernel, by decide +kernel⟩
abbrev KX10_field : MI := (yX10_field, cX10_field, 2, (some .int), [])
theorem mX10_field : mV KX10_field 1 10 := ⟨⟨rfl, (tin7 (List.mem_of_getElem? (i := 155) rfl)), (tin1 (List.mem_of_getElem? (i := 12) rfl)), ⟨by decide +kernel, by decide +kernel⟩, by decide +kernel, by decide +kernel⟩, (tin7 (List.mem_of_getElem? (i := 153) rfl)), (tin7 (List.mem_of_getElem? (i := 154) rfl)), by decide +kernel, by decide +kernel⟩
abbrev KX10_stands : MI := (yX10_stands, cX10_stands, 2, none, [])
theorem mX10_stands : mV KX10_stands 0 10 := ⟨⟨rfl, (tin7 (List.mem_of_getElem? (i := 10) rfl)), (tin1 (List.mem_of_getElem? (i := 12) rfl)), ⟨by decide +kernel, by decide +kernel⟩, by decide +kernel, by decide +kernel⟩, (tin7 (List.mem_of_getElem? (i := 9) rfl)), (List.mem_append_left _ (List.mem_of_getElem? (i := 51) rfl)), by decide +kernel, by decide +kernel⟩
abbrev KX10_comes : MI := (yX10_comes, cX10_comes, 5, none, [])
theorem mX10_comes : mS KX10_comes 4 := ⟨⟨rfl, (tin7 (List.mem_of_getElem? (i := 13) rfl)), (tin1 (List.mem_of_getElem? (i := 12) rfl)), ⟨by decide +kernel, by decide +kernel⟩, by decide +kernel, by decide +kernel⟩, (tin7 (List.mem_of_getElem? (i := 12) rfl))⟩
abbrev KX10_notes : MI := (yX10_notes, cX10_notes, 3, none, [])
theorem mX10_notes : mV KX10_notes 2 10 := ⟨⟨rfl, (tin8 (List.mem_of_getElem? (i := 4) rfl)), (tin1 (List.mem_of_getElem? (i := 12) rfl)), ⟨by decide +kernel, by decide +kernel⟩, by decide +kernel, by decide +kernel⟩, (tin8 (List.mem_of_getElem? (i := 3) rfl)), (List.mem_append_left _ (List.mem_of_getElem? (i := 69) rfl)), by decide +kernel, by decide +kernel⟩
abbrev KX10_opens : MI := (yX10_opens, cX10_opens, 1, (some .boolean), [])
theorem mX10_opens : mV KX10_opens 0 10 := ⟨⟨rfl, (tin8 (List.mem_of_getElem? (i := 0) rfl)), (tin1 (List.mem_of_getElem? (i := 12) rfl)), ⟨by decide +kernel, by decide +kernel⟩, by decide +kernel, by decide +kernel⟩, (tin7 (List.mem_of_getElem? (i := 239) rfl)), (List.mem_append_left _ (List.mem_of_getElem? (i := 68) rfl)), by decide +kernel, by decide +kernel⟩
abbrev KX10_sum : MI := (yX10_sum, cX10_sum, 2, none, [])
theorem mX10_sum : mV KX10_sum 0 10 := ⟨⟨rfl, (tin7 (List.mem_of_getElem? (i := 228) rfl)), (tin1 (List.mem_of_getElem? (i := 12) rfl)), ⟨by decide +kernel, by decide +kernel⟩, by decide +kernel, by decide +kernel⟩, (tin7 (List.mem_of_getElem? (i := 227) rfl)), (List.mem_append_left _ (List.mem_of_getElem? (i := 65) rfl)), by decide +kernel, by decide +kernel⟩
abbrev KX10_product : MI := (yX10_product, cX10_product, 2, none, [])
theorem mX10_product : mV KX10_product 0 10 := ⟨⟨rfl, (tin7 (List.mem_of_getElem? (i := 232) rfl)), (tin1 (List.mem_of_getElem? (i := 12) rfl)), ⟨by decide +kernel, by decide +kernel⟩, by decide +kernel, by decide +kernel⟩, (tin7 (List.mem_of_getElem? (i := 231) rfl)), (List.mem_append_left _ (List.mem_of_getElem? (i := 66) rfl)), by decide +kernel, by decide +kernel⟩
abbrev KX10_knownHere : MI := (yX10_knownHere, cX10_knownHere, 1, (some .int), [])
theorem mX10_knownHere : mV KX10_knownHere 0 10 := ⟨⟨rfl, (tin8 (List.mem_of_getElem? (i := 8) rfl)), (tin1 (List.mem_of_getElem? (i := 12) rfl)), ⟨by decide +kernel, by decide +kernel⟩, by decide +kernel, by decide +kernel⟩, (tin8 (List.mem_of_getElem? (i := 7) rfl)), (List.mem_append_left _ (List.mem_of_getElem? (i := 70) rfl)), by decide +kernel, by decide +kernel⟩
abbrev KX10_one : MI := (yX10_one, cX10_one, 2, none, [])
theorem mX10_one : mV KX10_one 0 10 := ⟨⟨rfl, (tin7 (List.mem_of_getElem? (i := 236) rfl)), (tin1 (List.mem_of_getElem? (i := 12) rfl)), ⟨by decide +kernel, by decide +kernel⟩, by decide +kernel, by decide +kernel⟩, (tin7 (List.mem_of_getElem? (i := 235) rfl)), (List.mem_append_left _ (List.mem_of_getElem? (i := 67) rfl)), by decide +kernel, by decide +kernel⟩
abbrev KX10_law : MI := (yX10_law, cX10_law, 4, (some .int), [])
theorem mX10_law : mV KX10_law 2 10 := ⟨⟨rfl, (tin7 (List.mem_of_getElem? (i := 224) rfl)), (tin1 (List.mem_of_getElem? (i := 12) rfl)), ⟨by decide +kernel, by decide +kernel⟩, by decide +kernel, by decide +kernel⟩, (tin7 (List.mem_of_getElem? (i := 222) rfl)), (tin7 (List.mem_of_getElem? (i := 223) rfl)), by decide +kernel, by decide +kernel⟩
abbrev KX10_by : MI := (yX10_by, cX10_by, 3, (some .int), [])
theorem mX10_by : mS KX10_by 3 := ⟨⟨rfl, (tin8 (List.mem_of_getElem? (i := 96) rfl)), (tin1 (List.mem_of_getElem? (i := 12) rfl)), ⟨by decide +kernel, by decide +kernel⟩, by decide +kernel, by decide +kernel⟩, (tin8 (List.mem_of_getElem? (i := 95) rfl))⟩
abbrev KX10_byLaw : MI := (yX10_byLaw, cX10_byLaw, 6, (some .int), [])
theorem mX10_byLaw : mV KX10_byLaw 1 10 := ⟨⟨rfl, (tin8 (List.mem_of_getElem? (i := 93) rfl)), (tin1 (List.mem_of_getElem? (i := 12) rfl)), ⟨by decide +kernel, by decide +kernel⟩, by decide +kernel, by decide +kernel⟩, (tin8 (List.mem_of_getElem? (i := 92) rfl)), (List.mem_append_left _ (List.mem_of_getElem? (i := 82) rfl)), by decide +kernel, by decide +kernel⟩
abbrev KX10_of : MI := (yX10_of, cX10_of, 3, (some .int), [])
theorem mX10_of : mS KX10_of 3 := ⟨⟨rfl, (tin8 (List.mem_of_getElem? (i := 52) rfl)), (tin1 (List.mem_of_getElem? (i := 12) rfl)), ⟨by decide +kernel, by decide +kernel⟩, by decide +kernel, by decide +kernel⟩, (tin8 (List.mem_of_getElem? (i := 51) rfl))⟩
abbrev KX10_isLying : MI := (yX10_isLying, cX10_isLying, 2, (some .boolean), [])
theorem mX10_isLying : mS KX10_isLying 2 := ⟨⟨rfl, (tin8 (List.mem_of_getElem? (i := 55) rfl)), (tin1 (List.mem_of_getElem? (i := 12) rfl)), ⟨by decide +kernel, by decide +kernel⟩, by decide +kernel, by decide +kernel⟩, (tin8 (List.mem_of_getElem? (i := 54) rfl))⟩
abbrev KX10_cellOf : MI := (yX10_cellOf, cX10_cellOf, 2, (some .int), [])
theorem mX10_cellOf : mS KX10_cellOf 2 := ⟨⟨rfl, (tin8 (List.mem_of_getElem? (i := 58) rfl)), (tin1 (List.mem_of_getElem? (i := 12) rfl)), ⟨by decide +kernel, by decide +kernel⟩, by decide +kernel, by decide +kernel⟩, (tin8 (List.mem_of_getElem? (i := 57) rfl))⟩
abbrev KX10_isLost : MI := (yX10_isLost, cX10_isLost, 2, (some .boolean), [])
theorem mX10_isLost : mS KX10_isLost 2 := ⟨⟨rfl, (tin8 (List.mem_of_getElem? (i := 71) rfl)), (tin1 (List.mem_of_getElem? (i := 12) rfl)), ⟨by decide +kernel, by decide +kernel⟩, by decide +kernel, by decide +kernel⟩, (tin8 (List.mem_of_getElem? (i := 70) rfl))⟩
abbrev KX10_lyingIn : MI := (yX10_lyingIn, cX10_lyingIn, 4, (some .int), [])
theorem mX10_lyingIn : mS KX10_lyingIn 2 := ⟨⟨rfl, (tin8 (List.mem_of_getElem? (i := 86) rfl)), (tin1 (List.mem_of_getElem? (i := 12) rfl)), ⟨by decide +kernel, by decide +kernel⟩, by decide +kernel, by decide +kernel⟩, (tin8 (List.mem_of_getElem? (i := 85) rfl))⟩
abbrev KX10_lying : MI := (yX10_lying, cX10_lying, 3, (some .int), [])
theorem mX10_lying : mS KX10_lying 1 := ⟨⟨rfl, (tin8 (List.mem_of_getElem? (i := 89) rfl)), (tin1 (List.mem_of_getElem? (i := 12) rfl)), ⟨by decide +kernel, by decide +kernel⟩, by decide +kernel, by decide +kernel⟩, (tin8 (List.mem_of_getElem? (i := 88) rfl))⟩
abbrev KX10_knows : MI := (yX10_knows, cX10_knows, 4, none, [])
theorem mX10_knows : mV KX10_knows 3 10 := ⟨⟨rfl, (tin8 (List.mem_of_getElem? (i := 83) rfl)), (tin1 (List.mem_of_getElem? (i := 12) rfl)), ⟨by decide +kernel, by decide +kernel⟩, by decide +kernel, by decide +kernel⟩, (tin8 (List.mem_of_getElem? (i := 82) rfl)), (List.mem_append_left _ (List.mem_of_getElem? (i := 81) rfl)), by decide +kernel, by decide +kernel⟩
abbrev KX10_damageOf : MI := (yX10_damageOf, cX10_damageOf, 4, (some .int), [])
theorem mX10_damageOf : mV KX10_damageOf 3 10 := ⟨⟨rfl, (tin8 (List.mem_of_getElem? (i := 79) rfl)), (tin1 (List.mem_of_getElem? (i := 12) rfl)), ⟨by decide +kernel, by decide +kernel⟩, by decide +kernel, by decide +kernel⟩, (tin8 (List.mem_of_getElem? (i := 78) rfl)), (List.mem_append_left _ (List.mem_of_getElem? (i := 80) rfl)), by decide +kernel, by decide +kernel⟩
abbrev KX10_risesIn : MI := (yX10_risesIn, cX10_risesIn, 3, (some .int), [])
theorem mX10_risesIn : mV KX10_risesIn 2 10 := ⟨⟨rfl, (tin8 (List.mem_of_getElem? (i := 114) rfl)), (tin1 (List.mem_of_getElem? (i := 12) rfl)), ⟨by decide +kernel, by decide +kernel⟩, by decide +kernel, by decide +kernel⟩, (tin8 (List.mem_of_getElem? (i := 113) rfl)), (List.mem_append_left _ (List.mem_of_getElem? (i := 85) rfl)), by decide +kernel, by decide +kernel⟩
abbrev KX10_stepHere : MI := (yX10_stepHere, cX10_stepHere, 1, (some .int), [])
theorem mX10_stepHere : mV KX10_stepHere 0 10 := ⟨⟨rfl, (tin8 (List.mem_of_getElem? (i := 28) rfl)), (tin1 (List.mem_of_getElem? (i := 12) rfl)), ⟨by decide +kernel, by decide +kernel⟩, by decide +kernel, by decide +kernel⟩, (tin8 (List.mem_of_getElem? (i := 27) rfl)), (List.mem_append_left _ (List.mem_of_getElem? (i := 74) rfl)), by decide +kernel, by decide +kernel⟩
abbrev KX10_readsStep : MI := (yX10_readsStep, cX10_readsStep, 3, none, [])
theorem mX10_readsStep : mV KX10_readsStep 0 10 := ⟨⟨rfl, (tin8 (List.mem_of_getElem? (i := 24) rfl)), (tin1 (List.mem_of_getElem? (i := 12) rfl)), ⟨by decide +kernel, by decide +kernel⟩, by decide +kernel, by decide +kernel⟩, (tin8 (List.mem_of_getElem? (i := 23) rfl)), (List.mem_append_left _ (List.mem_of_getElem? (i := 73) rfl)), by decide +kernel, by decide +kernel⟩
abbrev KX10_farOf : MI := (yX10_farOf, cX10_farOf, 4, (some .int), [])
theorem mX10_farOf : mS KX10_farOf 4 := ⟨⟨rfl, (tin8 (List.mem_of_getElem? (i := 42) rfl)), (tin1 (List.mem_of_getElem? (i := 12) rfl)), ⟨by decide +kernel, by decide +kernel⟩, by decide +kernel, by decide +kernel⟩, (tin8 (List.mem_of_getElem? (i := 41) rfl))⟩
abbrev KX10_onSledge : MI := (yX10_onSledge, cX10_onSledge, 3, (some .int), [])
theorem mX10_onSledge : mS KX10_onSledge 1 := ⟨⟨rfl, (tin8 (List.mem_of_getElem? (i := 49) rfl)), (tin1 (List.mem_of_getElem? (i := 12) rfl)), ⟨by decide +kernel, by decide +kernel⟩, by decide +kernel, by decide +kernel⟩, (tin8 (List.mem_of_getElem? (i := 48) rfl))⟩
abbrev KX10_loadsOf : MI := (yX10_loadsOf, cX10_loadsOf, 8, (some .long), [])
theorem mX10_loadsOf : mV KX10_loadsOf 3 10 := ⟨⟨rfl, (tin8 (List.mem_of_getElem? (i := 46) rfl)), (tin1 (List.mem_of_getElem? (i := 12) rfl)), ⟨by decide +kernel, by decide +kernel⟩, by decide +kernel, by decide +kernel⟩, (tin8 (List.mem_of_getElem? (i := 45) rfl)), (List.mem_append_left _ (List.mem_of_getElem? (i := 77) rfl)), by decide +kernel, by decide +kernel⟩
abbrev KX10_liftMinutes : MI := (yX10_liftMinutes, cX10_liftMinutes, 8, (some .int), [])
theorem mX10_liftMinutes : mV KX10_liftMinutes 3 10 := ⟨⟨rfl, (tin8 (List.mem_of_getElem? (i := 62) rfl)), (tin1 (List.mem_of_getElem? (i := 12) rfl)), ⟨by decide +kernel, by decide +kernel⟩, by decide +kernel, by decide +kernel⟩, (tin8 (List.mem_of_getElem? (i := 61) rfl)), (List.mem_append_left _ (List.mem_of_getElem? (i := 78) rfl)), by decide +kernel, by decide +kernel⟩
abbrev KX10_sledges : MI := (yX10_sledges, cX10_sledges, 4, none, [])
theorem mX10_sledges : mS KX10_sledges 2 := ⟨⟨rfl, (tin8 (List.mem_of_getElem? (i := 65) rfl)), (tin1 (List.mem_of_getElem? (i := 12) rfl)), ⟨by decide +kernel, by decide +kernel⟩, by decide +kernel, by decide +kernel⟩, (tin8 (List.mem_of_getElem? (i := 64) rfl))⟩
abbrev KX10_unloads : MI := (yX10_unloads, cX10_unloads, 5, (some .int), [])
theorem mX10_unloads : mS KX10_unloads 3 := ⟨⟨rfl, (tin8 (List.mem_of_getElem? (i := 68) rfl)), (tin1 (List.mem_of_getElem? (i := 12) rfl)), ⟨by decide +kernel, by decide +kernel⟩, by decide +kernel, by decide +kernel⟩, (tin8 (List.mem_of_getElem? (i := 67) rfl))⟩
abbrev KX10_does : MI := (yX10_does, cX10_does, 8, (some .boolean), [])
theorem mX10_does : mV KX10_does 3 10 := ⟨⟨rfl, (tin8 (List.mem_of_getElem? (i := 39) rfl)), (tin1 (List.mem_of_getElem? (i := 12) rfl)), ⟨by decide +kernel, by decide +kernel⟩, by decide +kernel, by decide +kernel⟩, (tin8 (List.mem_of_getElem? (i := 38) rfl)), (List.mem_append_left _ (List.mem_of_getElem? (i := 76) rfl)), by decide +kernel, by decide +kernel⟩
abbrev KX10_isCell : MI := (yX10_isCell, cX10_isCell, 3, (some .boolean), [])
theorem mX10_isCell : mV KX10_isCell 2 10 := ⟨⟨rfl, (tin8 (List.mem_of_getElem? (i := 110) rfl)), (tin1 (List.mem_of_getElem? (i := 12) rfl)), ⟨by decide +kernel, by decide +kernel⟩, by decide +kernel, by decide +kernel⟩, (tin8 (List.mem_of_getElem? (i := 109) rfl)), (List.mem_append_left _ (List.mem_of_getElem? (i := 84) rfl)), by decide +kernel, by decide +kernel⟩
abbrev KX10_isKept : MI := (yX10_isKept, cX10_isKept, 3, (some .boolean), [])
theorem mX10_isKept : mV KX10_isKept 2 10 := ⟨⟨rfl, (tin8 (List.mem_of_getElem? (i := 106) rfl)), (tin1 (List.mem_of_getElem? (i := 12) rfl)), ⟨by decide +kernel, by decide +kernel⟩, by decide +kernel, by decide +kernel⟩, (tin8 (List.mem_of_getElem? (i := 105) rfl)), (List.mem_append_left _ (List.mem_of_getElem? (i := 83) rfl)), by decide +kernel, by decide +kernel⟩
abbrev KX10_winters : MI := (yX10_winters, cX10_winters, 4, none, [])
theorem mX10_winters : mV KX10_winters 1 10 := ⟨⟨rfl, (tin8 (List.mem_of_getElem? (i := 75) rfl)), (tin1 (List.mem_of_getElem? (i := 12) rfl)), ⟨by decide +kernel, by decide +kernel⟩, by decide +kernel, by decide +kernel⟩, (tin8 (List.mem_of_getElem? (i := 74) rfl)), (List.mem_append_left _ (List.mem_of_getElem? (i := 79) rfl)), by decide +kernel, by decide +kernel⟩
abbrev KX10_goes : MI := (yX10_goes, cX10_goes, 5, none, [])
theorem mX10_goes : mV KX10_goes 2 10 := ⟨⟨rfl, (tin8 (List.mem_of_getElem? (i := 35) rfl)), (tin1 (List.mem_of_getElem? (i := 12) rfl)), ⟨by decide +kernel, by decide +kernel⟩, by decide +kernel, by decide +kernel⟩, (tin8 (List.mem_of_getElem? (i := 34) rfl)), (List.mem_append_left _ (List.mem_of_getElem? (i := 75) rfl)), by decide +kernel, by decide +kernel⟩
abbrev KX10_copies : MI := (yX10_copies, cX10_copies, 3, none, [])
theorem mX10_copies : mS KX10_copies 2 := ⟨⟨rfl, (tin8 (List.mem_of_getElem? (i := 31) rfl)), (tin1 (List.mem_of_getElem? (i := 12) rfl)), ⟨by decide +kernel, by decide +kernel⟩, by decide +kernel, by decide +kernel⟩, (tin8 (List.mem_of_getElem? (i := 30) rfl))⟩
abbrev KX10_work : MI := (yX10_work, cX10_work, 2, (some .int), [])
theorem mX10_work : mV KX10_work 1 10 := ⟨⟨rfl, (tin8 (List.mem_of_getElem? (i := 20) rfl)), (tin1 (List.mem_of_getElem? (i := 12) rfl)), ⟨by decide +kernel, by decide +kernel⟩, by decide +kernel, by decide +kernel⟩, (tin8 (List.mem_of_getElem? (i := 18) rfl)), (tin8 (List.mem_of_getElem? (i := 19) rfl)), by decide +kernel, by decide +kernel⟩
abbrev KX10_undo : MI := (yX10_undo, cX10_undo, 1, (some .int), [])
theorem mX10_undo : mV KX10_undo 0 10 := ⟨⟨rfl, (tin8 (List.mem_of_getElem? (i := 118) rfl)), (tin1 (List.mem_of_getElem? (i := 12) rfl)), ⟨by decide +kernel, by decide +kernel⟩, by decide +kernel, by decide +kernel⟩, (tin8 (List.mem_of_getElem? (i := 116) rfl)), (tin8 (List.mem_of_getElem? (i := 117) rfl)), by decide +kernel, by decide +kernel⟩
abbrev KX10_book : MI := (yX10_book, cX10_book, 7, (some .int), [])
theorem mX10_book : mV KX10_book 1 10 := ⟨⟨rfl, (tin8 (List.mem_of_getElem? (i := 122) rfl)), (tin1 (List.mem_of_getElem? (i := 12) rfl)), ⟨by decide +kernel, by decide +kernel⟩, by decide +kernel, by decide +kernel⟩, (tin8 (List.mem_of_getElem? (i := 120) rfl)), (tin8 (List.mem_of_getElem? (i := 121) rfl)), by decide +kernel, by decide +kernel⟩
abbrev KX10_fault : MI := (yX10_fault, cX10_fault, 1, (some .int), [])
theorem mX10_fault : mV KX10_fault 0 10 := ⟨⟨rfl, (tin8 (List.mem_of_getElem? (i := 126) rfl)), (tin1 (List.mem_of_getElem? (i := 12) rfl)), ⟨by decide +kernel, by decide +kernel⟩, by decide +kernel, by decide +kernel⟩, (tin8 (List.mem_of_getElem? (i := 124) rfl)), (tin8 (List.mem_of_getElem? (i := 125) rfl)), by decide +kernel, by decide +kernel⟩
abbrev KX10_whereMany : MI := (yX10_whereMany, cX10_whereMany, 4, (some .int), [])
theorem mX10_whereMany : mS KX10_whereMany 2 := ⟨⟨rfl, (tin8 (List.mem_of_getElem? (i := 133) rfl)), (tin1 (List.mem_of_getElem? (i := 12) rfl)), ⟨by decide +kernel, by decide +kernel⟩, by decide +kernel, by decide +kernel⟩, (tin8 (List.mem_of_getElem? (i := 132) rfl))⟩
abbrev KX10_told : MI := (yX10_told, cX10_told, 2, (some .int), [])
theorem mX10_told : mV KX10_told 1 10 := ⟨⟨rfl, (tin8 (List.mem_of_getElem? (i := 130) rfl)), (tin1 (List.mem_of_getElem? (i := 12) rfl)), ⟨by decide +kernel, by decide +kernel⟩, by decide +kernel, by decide +kernel⟩, (tin8 (List.mem_of_getElem? (i := 128) rfl)), (tin8 (List.mem_of_getElem? (i := 129) rfl)), by decide +kernel, by decide +kernel⟩
abbrev KX10_isStone : MI := (yX10_isStone, cX10_isStone, 2, (some .boolean), [])
theorem mX10_isStone : mV KX10_isStone 1 10 := ⟨⟨rfl, (tin8 (List.mem_of_getElem? (i := 141) rfl)), (tin1 (List.mem_of_getElem? (i := 12) rfl)), ⟨by decide +kernel, by decide +kernel⟩, by decide +kernel, by decide +kernel⟩, (tin8 (List.mem_of_getElem? (i := 140) rfl)), (List.mem_append_left _ (List.mem_of_getElem? (i := 86) rfl)), by decide +kernel, by decide +kernel⟩
abbrev KX10_stone : MI := (yX10_stone, cX10_stone, 3, (some .int), [])
theorem mX10_stone : mV KX10_stone 2 10 := ⟨⟨rfl, (tin8 (List.mem_of_getElem? (i := 137) rfl)), (tin1 (List.mem_of_getElem? (i := 12) rfl)), ⟨by decide +kernel, by decide +kernel⟩, by decide +kernel, by decide +kernel⟩, (tin8 (List.mem_of_getElem? (i := 135) rfl)), (tin8 (List.mem_of_getElem? (i := 136) rfl)), by decide +kernel, by decide +kernel⟩
abbrev KX10_sizesIn : MI := (yX10_sizesIn, cX10_sizesIn, 4, (some .int), [])
theorem mX10_sizesIn : mS KX10_sizesIn 2 := ⟨⟨rfl, (tin8 (List.mem_of_getElem? (i := 148) rfl)), (tin1 (List.mem_of_getElem? (i := 12) rfl)), ⟨by decide +kernel, by decide +kernel⟩, by decide +kernel, by decide +kernel⟩, (tin8 (List.mem_of_getElem? (i := 147) rfl))⟩
abbrev KX10_cell : MI := (yX10_cell, cX10_cell, 7, (some .int), [])
theorem mX10_cell : mV KX10_cell 3 10 := ⟨⟨rfl, (tin8 (List.mem_of_getElem? (i := 145) rfl)), (tin1 (List.mem_of_getElem? (i := 12) rfl)), ⟨by decide +kernel, by decide +kernel⟩, by decide +kernel, by decide +kernel⟩, (tin8 (List.mem_of_getElem? (i := 143) rfl)), (tin8 (List.mem_of_getElem? (i := 144) rfl)), by decide +kernel, by decide +kernel⟩
abbrev KX10_sledge : MI := (yX10_sledge, cX10_sledge, 2, (some .int), [])
theorem mX10_sledge : mV KX10_sledge 1 10 := ⟨⟨rfl, (tin8 (List.mem_of_getElem? (i := 152) rfl)), (tin1 (List.mem_of_getElem? (i := 12) rfl)), ⟨by decide +kernel, by decide +kernel⟩, by decide +kernel, by decide +kernel⟩, (tin8 (List.mem_of_getElem? (i := 150) rfl)), (tin8 (List.mem_of_getElem? (i := 151) rfl)), by decide +kernel, by decide +kernel⟩
abbrev KX10_sums : MI := (yX10_sums, cX10_sums, 4, (some .int), [])
theorem mX10_sums : mV KX10_sums 1 10 := ⟨⟨rfl, (tin8 (List.mem_of_getElem? (i := 156) rfl)), (tin1 (List.mem_of_getElem? (i := 12) rfl)), ⟨by decide +kernel, by decide +kernel⟩, by decide +kernel, by decide +kernel⟩, (tin8 (List.mem_of_getElem? (i := 154) rfl)), (tin8 (List.mem_of_getElem? (i := 155) rfl)), by decide +kernel, by decide +kernel⟩
abbrev KX10_damage : MI := (yX10_damage, cX10_damage, 4, (some .int), [])
theorem mX10_damage : mV KX10_damage 3 10 := ⟨⟨rfl, (tin8 (List.mem_of_getElem? (i := 160) rfl)), (tin1 (List.mem_of_getElem? (i := 12) rfl)), ⟨by decide +kernel, by decide +kernel⟩, by decide +kernel, by decide +kernel⟩, (tin8 (List.mem_of_getElem? (i := 158) rfl)), (tin8 (List.mem_of_getElem? (i := 159) rfl)), by decide +kernel, by decide +kernel⟩
abbrev KX10_rises : MI := (yX10_rises, cX10_rises, 3, (some .int), [])
theorem mX10_rises : mV KX10_rises 2 10 := ⟨⟨rfl, (tin8 (List.mem_of_getElem? (i := 164) rfl)), (tin1 (List.mem_of_getElem? (i := 12) rfl)), ⟨by decide +kernel, by decide +kernel⟩, by decide +kernel, by decide +kernel⟩, (tin8 (List.mem_of_getElem? (i := 162) rfl)), (tin8 (List.mem_of_getElem? (i := 163) rfl)), by decide +kernel, by decide +kernel⟩
abbrev KX10_isThere : MI := (yX10_isThere, cX10_isThere, 2, (some .boolean), [])
theorem mX10_isThere : mS KX10_isThere 2 := ⟨⟨rfl, (tin8 (List.mem_of_getElem? (i := 186) rfl)), (tin1 (List.mem_of_getElem? (i := 12) rfl)), ⟨by decide +kernel, by decide +kernel⟩, by decide +kernel, by decide +kernel⟩, (tin8 (List.mem_of_getElem? (i := 185) rfl))⟩
abbrev KX10_clearOf : MI := (yX10_clearOf, cX10_clearOf, 3, (some .int), [])
theorem mX10_clearOf : mV KX10_clearOf 2 10 := ⟨⟨rfl, (tin8 (List.mem_of_getElem? (i := 172) rfl)), (tin1 (List.mem_of_getElem? (i := 12) rfl)), ⟨by decide +kernel, by decide +kernel⟩, by decide +kernel, by decide +kernel⟩, (tin8 (List.mem_of_getElem? (i := 171) rfl)), (List.mem_append_left _ (List.mem_of_getElem? (i := 87) rfl)), by decide +kernel, by decide +kernel⟩
abbrev KX10_clear : MI := (yX10_clear, cX10_clear, 2, (some .int), [])
theorem mX10_clear : mV KX10_clear 1 10 := ⟨⟨rfl, (tin8 (List.mem_of_getElem? (i := 168) rfl)), (tin1 (List.mem_of_getElem? (i := 12) rfl)), ⟨by decide +kernel, by decide +kernel⟩, by decide +kernel, by decide +kernel⟩, (tin8 (List.mem_of_getElem? (i := 166) rfl)), (tin8 (List.mem_of_getElem? (i := 167) rfl)), by decide +kernel, by decide +kernel⟩
abbrev KX10_ones : MI := (yX10_ones, cX10_ones, 3, (some .int), [])
theorem mX10_ones : mS KX10_ones 1 := ⟨⟨rfl, (tin8 (List.mem_of_getElem? (i := 183) rfl)), (tin1 (List.mem_of_getElem? (i := 12) rfl)), ⟨by decide +kernel, by decide +kernel⟩, by decide +kernel, by decide +kernel⟩, (tin8 (List.mem_of_getElem? (i := 182) rfl))⟩
abbrev KX10_stopsBy : MI := (yX10_stopsBy, cX10_stopsBy, 7, (some .int), [])
theorem mX10_stopsBy : mV KX10_stopsBy 2 10 := ⟨⟨rfl, (tin8 (List.mem_of_getElem? (i := 180) rfl)), (tin1 (List.mem_of_getElem? (i := 12) rfl)), ⟨by decide +kernel, by decide +kernel⟩, by decide +kernel, by decide +kernel⟩, (tin8 (List.mem_of_getElem? (i := 179) rfl)), (List.mem_append_left _ (List.mem_of_getElem? (i := 88) rfl)), by decide +kernel, by decide +kernel⟩
abbrev KX10_stops : MI := (yX10_stops, cX10_stops, 7, (some .int), [])
theorem mX10_stops : mV KX10_stops 2 10 := ⟨⟨rfl, (tin8 (List.mem_of_getElem? (i := 176) rfl)), (tin1 (List.mem_of_getElem? (i := 12) rfl)), ⟨by decide +kernel, by decide +kernel⟩, by decide +kernel, by decide +kernel⟩, (tin8 (List.mem_of_getElem? (i := 174) rfl)), (tin8 (List.mem_of_getElem? (i := 175) rfl)), by decide +kernel, by decide +kernel⟩
abbrev KX10_ways : MI := (yX10_ways, cX10_ways, 10, none, [])
theorem mX10_ways : mV KX10_ways 5 10 := ⟨⟨rfl, (tin8 (List.mem_of_getElem? (i := 194) rfl)), (tin1 (List.mem_of_getElem? (i := 12) rfl)), ⟨by decide +kernel, by decide +kernel⟩, by decide +kernel, by decide +kernel⟩, (tin8 (List.mem_of_getElem? (i := 193) rfl)), (List.mem_append_left _ (List.mem_of_getElem? (i := 89) rfl)), by decide +kernel, by decide +kernel⟩
abbrev KX10_way : MI := (yX10_way, cX10_way, 4, (some .long), [])
theorem mX10_way : mV KX10_way 1 10 := ⟨⟨rfl, (tin8 (List.mem_of_getElem? (i := 190) rfl)), (tin1 (List.mem_of_getElem? (i := 12) rfl)), ⟨by decide +kernel, by decide +kernel⟩, by decide +kernel, by decide +kernel⟩, (tin8 (List.mem_of_getElem? (i := 188) rfl)), (tin8 (List.mem_of_getElem? (i := 189) rfl)), by decide +kernel, by decide +kernel⟩
abbrev KX10_heapsBy : MI := (yX10_heapsBy, cX10_heapsBy, 9, (some .int), [])
theorem mX10_heapsBy : mV KX10_heapsBy 3 10 := ⟨⟨rfl, (tin8 (List.mem_of_getElem? (i := 203) rfl)), (tin1 (List.mem_of_getElem? (i := 12) rfl)), ⟨by decide +kernel, by decide +kernel⟩, by decide +kernel, by decide +kernel⟩, (tin8 (List.mem_of_getElem? (i := 202) rfl)), (List.mem_append_left _ (List.mem_of_getElem? (i := 90) rfl)), by decide +kernel, by decide +kernel⟩
abbrev KX10_heaps : MI := (yX10_heaps, cX10_heaps, 9, (some .int), [])
theorem mX10_heaps : mV KX10_heaps 2 10 := ⟨⟨rfl, (tin8 (List.mem_of_getElem? (i := 199) rfl)), (tin1 (List.mem_of_getElem? (i := 12) rfl)), ⟨by decide +kernel, by decide +kernel⟩, by decide +kernel, by decide +kernel⟩, (tin8 (List.mem_of_getElem? (i := 197) rfl)), (tin8 (List.mem_of_getElem? (i := 198) rfl)), by decide +kernel, by decide +kernel⟩
abbrev KX10_lineBy : MI := (yX10_lineBy, cX10_lineBy, 5, (some .int), [])
theorem mX10_lineBy : mV KX10_lineBy 2 10 := ⟨⟨rfl, (tin8 (List.mem_of_getElem? (i := 211) rfl)), (tin1 (List.mem_of_getElem? (i := 12) rfl)), ⟨by decide +kernel, by decide +kernel⟩, by decide +kernel, by decide +kernel⟩, (tin8 (List.mem_of_getElem? (i := 210) rfl)), (List.mem_append_left _ (List.mem_of_getElem? (i := 91) rfl)), by decide +kernel, by decide +kernel⟩
abbrev KX10_line : MI := (yX10_line, cX10_line, 5, (some .int), [])
theorem mX10_line : mV KX10_line 2 10 := ⟨⟨rfl, (tin8 (List.mem_of_getElem? (i := 207) rfl)), (tin1 (List.mem_of_getElem? (i := 12) rfl)), ⟨by decide +kernel, by decide +kernel⟩, by decide +kernel, by decide +kernel⟩, (tin8 (List.mem_of_getElem? (i := 205) rfl)), (tin8 (List.mem_of_getElem? (i := 206) rfl)), by decide +kernel, by decide +kernel⟩
abbrev KX10_clearsIn : MI := (yX10_clearsIn, cX10_clearsIn, 4, (some .int), [])
theorem mX10_clearsIn : mV KX10_clearsIn 1 10 := ⟨⟨rfl, (tin8 (List.mem_of_getElem? (i := 219) rfl)), (tin1 (List.mem_of_getElem? (i := 12) rfl)), ⟨by decide +kernel, by decide +kernel⟩, by decide +kernel, by decide +kernel⟩, (tin8 (List.mem_of_getElem? (i := 218) rfl)), (List.mem_append_left _ (List.mem_of_getElem? (i := 92) rfl)), by decide +kernel, by decide +kernel⟩
abbrev KX10_first : MI := (yX10_first, cX10_first, 8, (some .long), [])
theorem mX10_first : mV KX10_first 2 10 := ⟨⟨rfl, (tin8 (List.mem_of_getElem? (i := 215) rfl)), (tin1 (List.mem_of_getElem? (i := 12) rfl)), ⟨by decide +kernel, by decide +kernel⟩, by decide +kernel, by decide +kernel⟩, (tin8 (List.mem_of_getElem? (i := 213) rfl)), (tin8 (List.mem_of_getElem? (i := 214) rfl)), by decide +kernel, by decide +kernel⟩
abbrev KX10_clearsAll : MI := (yX10_clearsAll, cX10_clearsAll, 3, (some .int), [])
theorem mX10_clearsAll : mV KX10_clearsAll 0 10 := ⟨⟨rfl, (tin8 (List.mem_of_getElem? (i := 227) rfl)), (tin1 (List.mem_of_getElem? (i := 12) rfl)), ⟨by decide +kernel, by decide +kernel⟩, by decide +kernel, by decide +kernel⟩, (tin8 (List.mem_of_getElem? (i := 226) rfl)), (List.mem_append_left _ (List.mem_of_getElem? (i := 93) rfl)), by decide +kernel, by decide +kernel⟩
abbrev KX10_mix : MI := (yX10_mix, cX10_mix, 14, (some .int), [])
theorem mX10_mix : mV KX10_mix 4 10 := ⟨⟨rfl, (tin8 (List.mem_of_getElem? (i := 223) rfl)), (tin1 (List.mem_of_getElem? (i := 12) rfl)), ⟨by decide +kernel, by decide +kernel⟩, by decide +kernel, by decide +kernel⟩, (tin8 (List.mem_of_getElem? (i := 221) rfl)), (tin8 (List.mem_of_getElem? (i := 222) rfl)), by decide +kernel, by decide +kernel⟩
abbrev KX10_thereMany : MI := (yX10_thereMany, cX10_thereMany, 4, (some .int), [])
theorem mX10_thereMany : mS KX10_thereMany 2 := ⟨⟨rfl, (tin8 (List.mem_of_getElem? (i := 238) rfl)), (tin1 (List.mem_of_getElem? (i := 12) rfl)), ⟨by decide +kernel, by decide +kernel⟩, by decide +kernel, by decide +kernel⟩, (tin8 (List.mem_of_getElem? (i := 237) rfl))⟩
abbrev KX10_clears : MI := (yX10_clears, cX10_clears, 6, none, [])
theorem mX10_clears : mV KX10_clears 2 10 := ⟨⟨rfl, (tin8 (List.mem_of_getElem? (i := 235) rfl)), (tin1 (List.mem_of_getElem? (i := 12) rfl)), ⟨by decide +kernel, by decide +kernel⟩, by decide +kernel, by decide +kernel⟩, (tin8 (List.mem_of_getElem? (i := 234) rfl)), (List.mem_append_left _ (List.mem_of_getElem? (i := 94) rfl)), by decide +kernel, by decide +kernel⟩
abbrev KX10_enough : MI := (yX10_enough, cX10_enough, 4, (some .int), [])
theorem mX10_enough : mV KX10_enough 2 10 := ⟨⟨rfl, (tin8 (List.mem_of_getElem? (i := 231) rfl)), (tin1 (List.mem_of_getElem? (i := 12) rfl)), ⟨by decide +kernel, by decide +kernel⟩, by decide +kernel, by decide +kernel⟩, (tin8 (List.mem_of_getElem? (i := 229) rfl)), (tin8 (List.mem_of_getElem? (i := 230) rfl)), by decide +kernel, by decide +kernel⟩
abbrev KX10_left : MI := (yX10_left, cX10_left, 4, (some .int), [])
theorem mX10_left : mV KX10_left 2 10 := ⟨⟨rfl, (tin9 (List.mem_of_getElem? (i := 2) rfl)), (tin1 (List.mem_of_getElem? (i := 12) rfl)), ⟨by decide +kernel, by decide +kernel⟩, by decide +kernel, by decide +kernel⟩, (tin9 (List.mem_of_getElem? (i := 0) rfl)), (tin9 (List.mem_of_getElem? (i := 1) rfl)), by decide +kernel, by decide +kernel⟩
abbrev KX10_fits : MI := (yX10_fits, cX10_fits, 6, (some .int), [])
theorem mX10_fits : mV KX10_fits 0 10 := ⟨⟨rfl, (tin9 (List.mem_of_getElem? (i := 6) rfl)), (tin1 (List.mem_of_getElem? (i := 12) rfl)), ⟨by decide +kernel, by decide +kernel⟩, by decide +kernel, by decide +kernel⟩, (tin9 (List.mem_of_getElem? (i := 4) rfl)), (tin9 (List.mem_of_getElem? (i := 5) rfl)), by decide +kernel, by decide +kernel⟩
abbrev KX10_frosts : MI := (yX10_frosts, cX10_frosts, 6, none, [])
theorem mX10_frosts : mV KX10_frosts 3 10 := ⟨⟨rfl, (tin9 (List.mem_of_getElem? (i := 14) rfl)), (tin1 (List.mem_of_getElem? (i := 12) rfl)), ⟨by decide +kernel, by decide +kernel⟩, by decide +kernel, by decide +kernel⟩, (tin9 (List.mem_of_getElem? (i := 13) rfl)), (List.mem_append_left _ (List.mem_of_getElem? (i := 95) rfl)), by decide +kernel, by decide +kernel⟩
abbrev KX10_frost : MI := (yX10_frost, cX10_frost, 5, (some .int), [])
theorem mX10_frost : mV KX10_frost 4 10 := ⟨⟨rfl, (tin9 (List.mem_of_getElem? (i := 10) rfl)), (tin1 (List.mem_of_getElem? (i := 12) rfl)), ⟨by decide +kernel, by decide +kernel⟩, by decide +kernel, by decide +kernel⟩, (tin9 (List.mem_of_getElem? (i := 8) rfl)), (tin9 (List.mem_of_getElem? (i := 9) rfl)), by decide +kernel, by decide +kernel⟩
abbrev KX10_span : MI := (yX10_span, cX10_span, 12, (some .int), [])
theorem mX10_span : mV KX10_span 6 10 := ⟨⟨rfl, (tin9 (List.mem_of_getElem? (i := 19) rfl)), (tin1 (List.mem_of_getElem? (i := 12) rfl)), ⟨by decide +kernel, by decide +kernel⟩, by decide +kernel, by decide +kernel⟩, (tin9 (List.mem_of_getElem? (i := 17) rfl)), (tin9 (List.mem_of_getElem? (i := 18) rfl)), by decide +kernel, by decide +kernel⟩
abbrev KX10_farNow : MI := (yX10_farNow, cX10_farNow, 2, (some .int), [])
theorem mX10_farNow : mV KX10_farNow 1 10 := ⟨⟨rfl, (tin9 (List.mem_of_getElem? (i := 27) rfl)), (tin1 (List.mem_of_getElem? (i := 12) rfl)), ⟨by decide +kernel, by decide +kernel⟩, by decide +kernel, by decide +kernel⟩, (tin9 (List.mem_of_getElem? (i := 26) rfl)), (List.mem_append_left _ (List.mem_of_getElem? (i := 96) rfl)), by decide +kernel, by decide +kernel⟩
abbrev KX10_chosen : MI := (yX10_chosen, cX10_chosen, 4, (some .int), [])
theorem mX10_chosen : mV KX10_chosen 1 10 := ⟨⟨rfl, (tin9 (List.mem_of_getElem? (i := 23) rfl)), (tin1 (List.mem_of_getElem? (i := 12) rfl)), ⟨by decide +kernel, by decide +kernel⟩, by decide +kernel, by decide +kernel⟩, (tin9 (List.mem_of_getElem? (i := 21) rfl)), (tin9 (List.mem_of_getElem? (i := 22) rfl)), by decide +kernel, by decide +kernel⟩
abbrev KX10_lifts : MI := (yX10_lifts, cX10_lifts, 5, (some .int), [])
theorem mX10_lifts : mV KX10_lifts 2 10 := ⟨⟨rfl, (tin9 (List.mem_of_getElem? (i := 31) rfl)), (tin1 (List.mem_of_getElem? (i := 12) rfl)), ⟨by decide +kernel, by decide +kernel⟩, by decide +kernel, by decide +kernel⟩, (tin9 (List.mem_of_getElem? (i := 29) rfl)), (tin9 (List.mem_of_getElem? (i := 30) rfl)), by decide +kernel, by decide +kernel⟩
abbrev KX10_loads : MI := (yX10_loads, cX10_loads, 3, (some .long), [])
theorem mX10_loads : mV KX10_loads 2 10 := ⟨⟨rfl, (tin9 (List.mem_of_getElem? (i := 35) rfl)), (tin1 (List.mem_of_getElem? (i := 12) rfl)), ⟨by decide +kernel, by decide +kernel⟩, by decide +kernel, by decide +kernel⟩, (tin9 (List.mem_of_getElem? (i := 33) rfl)), (tin9 (List.mem_of_getElem? (i := 34) rfl)), by decide +kernel, by decide +kernel⟩
abbrev KX10_stoniest : MI := (yX10_stoniest, cX10_stoniest, 4, (some .int), [])
theorem mX10_stoniest : mV KX10_stoniest 0 10 := ⟨⟨rfl, (tin9 (List.mem_of_getElem? (i := 39) rfl)), (tin1 (List.mem_of_getElem? (i := 12) rfl)), ⟨by decide +kernel, by decide +kernel⟩, by decide +kernel, by decide +kernel⟩, (tin9 (List.mem_of_getElem? (i := 37) rfl)), (tin9 (List.mem_of_getElem? (i := 38) rfl)), by decide +kernel, by decide +kernel⟩
abbrev KX10_clean : MI := (yX10_clean, cX10_clean, 3, (some .int), [])
theorem mX10_clean : mV KX10_clean 0 10 := ⟨⟨rfl, (tin9 (List.mem_of_getElem? (i := 43) rfl)), (tin1 (List.mem_of_getElem? (i := 12) rfl)), ⟨by decide +kernel, by decide +kernel⟩, by decide +kernel, by decide +kernel⟩, (tin9 (List.mem_of_getElem? (i := 41) rfl)), (tin9 (List.mem_of_getElem? (i := 42) rfl)), by decide +kernel, by decide +kernel⟩
abbrev KX10_puts : MI := (yX10_puts, cX10_puts, 4, (some .int), [])
theorem mX10_puts : mV KX10_puts 3 10 := ⟨⟨rfl, (tin9 (List.mem_of_getElem? (i := 55) rfl)), (tin1 (List.mem_of_getElem? (i := 12) rfl)), ⟨by decide +kernel, by decide +kernel⟩, by decide +kernel, by decide +kernel⟩, (tin9 (List.mem_of_getElem? (i := 54) rfl)), (List.mem_append_left _ (List.mem_of_getElem? (i := 98) rfl)), by decide +kernel, by decide +kernel⟩
abbrev KX10_putsAll : MI := (yX10_putsAll, cX10_putsAll, 5, none, [])
theorem mX10_putsAll : mV KX10_putsAll 2 10 := ⟨⟨rfl, (tin9 (List.mem_of_getElem? (i := 51) rfl)), (tin1 (List.mem_of_getElem? (i := 12) rfl)), ⟨by decide +kernel, by decide +kernel⟩, by decide +kernel, by decide +kernel⟩, (tin9 (List.mem_of_getElem? (i := 50) rfl)), (List.mem_append_left _ (List.mem_of_getElem? (i := 97) rfl)), by decide +kernel, by decide +kernel⟩
abbrev KX10_image : MI := (yX10_image, cX10_image, 1, (some .int), [])
theorem mX10_image : mV KX10_image 0 10 := ⟨⟨rfl, (tin9 (List.mem_of_getElem? (i := 47) rfl)), (tin1 (List.mem_of_getElem? (i := 12) rfl)), ⟨by decide +kernel, by decide +kernel⟩, by decide +kernel, by decide +kernel⟩, (tin9 (List.mem_of_getElem? (i := 45) rfl)), (tin9 (List.mem_of_getElem? (i := 46) rfl)), by decide +kernel, by decide +kernel⟩
abbrev KX10_restore : MI := (yX10_restore, cX10_restore, 1, (some .int), [])
theorem mX10_restore : mV KX10_restore 0 10 := ⟨⟨rfl, (tin9 (List.mem_of_getElem? (i := 59) rfl)), (tin1 (List.mem_of_getElem? (i := 12) rfl)), ⟨by decide +kernel, by decide +kernel⟩, by decide +kernel, by decide +kernel⟩, (tin9 (List.mem_of_getElem? (i := 57) rfl)), (tin9 (List.mem_of_getElem? (i := 58) rfl)), by decide +kernel, by decide +kernel⟩
abbrev KX10_status : MI := (yX10_status, cX10_status, 2, (some .int), [])
theorem mX10_status : mV KX10_status 1 10 := ⟨⟨rfl, (tin9 (List.mem_of_getElem? (i := 63) rfl)), (tin1 (List.mem_of_getElem? (i := 12) rfl)), ⟨by decide +kernel, by decide +kernel⟩, by decide +kernel, by decide +kernel⟩, (tin9 (List.mem_of_getElem? (i := 61) rfl)), (tin9 (List.mem_of_getElem? (i := 62) rfl)), by decide +kernel, by decide +kernel⟩
abbrev KX10_count : MI := (yX10_count, cX10_count, 2, (some .int), [])
theorem mX10_count : mV KX10_count 1 10 := ⟨⟨rfl, (tin9 (List.mem_of_getElem? (i := 67) rfl)), (tin1 (List.mem_of_getElem? (i := 12) rfl)), ⟨by decide +kernel, by decide +kernel⟩, by decide +kernel, by decide +kernel⟩, (tin9 (List.mem_of_getElem? (i := 65) rfl)), (tin9 (List.mem_of_getElem? (i := 66) rfl)), by decide +kernel, by decide +kernel⟩
abbrev KJ6_bitCount_0f7a4 : MI := (yJ6_bitCount_0f7a4, cJ6_bitCount_0f7a4, 1, (some .int), [])
theorem mJ6_bitCount_0f7a4 : mS KJ6_bitCount_0f7a4 1 := ⟨⟨rfl, (tin5 (List.mem_of_getElem? (i := 225) rfl)), (tin1 (List.mem_of_getElem? (i := 26) rfl)), ⟨by decide +kernel, by decide +kernel⟩, by decide +kernel, by decide +kernel⟩, (tin5 (List.mem_of_getElem? (i := 224) rfl))⟩
abbrev KJ13_bitCount_95d88 : MI := (yJ13_bitCount_95d88, cJ13_bitCount_95d88, 2, (some .int), [])
theorem mJ13_bitCount_95d88 : mS KJ13_bitCount_95d88 1 := ⟨⟨rfl, (tin4 (List.mem_of_getElem? (i := 195) rfl)), (tin1 (List.mem_of_getElem? (i := 23) rfl)), ⟨by decide +kernel, by decide +kernel⟩, by decide +kernel, by decide +kernel⟩, (tin4 (List.mem_of_getElem? (i := 194) rfl))⟩
abbrev KJ9_abs_0f7a4 : MI := (yJ9_abs_0f7a4, cJ9_abs_0f7a4, 1, (some .int), [])
theorem mJ9_abs_0f7a4 : mS KJ9_abs_0f7a4 1 := ⟨⟨rfl, (tin3 (List.mem_of_getElem? (i := 13) rfl)), (tin1 (List.mem_of_getElem? (i := 17) rfl)), ⟨by decide +kernel, by decide +kernel⟩, by decide +kernel, by decide +kernel⟩, (tin3 (List.mem_of_getElem? (i := 12) rfl))⟩
abbrev KJ9_max_7cf53 : MI := (yJ9_max_7cf53, cJ9_max_7cf53, 2, (some .int), [])
theorem mJ9_max_7cf53 : mS KJ9_max_7cf53 2 := ⟨⟨rfl, (tin5 (List.mem_of_getElem? (i := 37) rfl)), (tin1 (List.mem_of_getElem? (i := 17) rfl)), ⟨by decide +kernel, by decide +kernel⟩, by decide +kernel, by decide +kernel⟩, (tin5 (List.mem_of_getElem? (i := 36) rfl))⟩
abbrev KJ9_min_7cf53 : MI := (yJ9_min_7cf53, cJ9_min_7cf53, 2, (some .int), [])
theorem mJ9_min_7cf53 : mS KJ9_min_7cf53 2 := ⟨⟨rfl, (tin3 (List.mem_of_getElem? (i := 164) rfl)), (tin1 (List.mem_of_getElem? (i := 17) rfl)), ⟨by decide +kernel, by decide +kernel⟩, by decide +kernel, by decide +kernel⟩, (tin3 (List.mem_of_getElem? (i := 163) rfl))⟩
abbrev KJ0_length_8abf5 : MI := (yJ0_length_8abf5, cJ0_length_8abf5, 1, (some .int), [])
theorem mJ0_length_8abf5 : mF KJ0_length_8abf5 0 ∧ Cond.instanceMethod yJ0_length_8abf5 ∈ lw_tbl ∧ Cond.selects yJ0_length_8abf5.cls yJ0_length_8abf5 yJ0_length_8abf5 ∈ lw_tbl := ⟨⟨rfl, (tin3 (List.mem_of_getElem? (i := 203) rfl)), (tin1 (List.mem_of_getElem? (i := 18) rfl)), ⟨by decide +kernel, by decide +kernel⟩, by decide +kernel, by decide +kernel⟩, (tin3 (List.mem_of_getElem? (i := 201) rfl)), (tin3 (List.mem_of_getElem? (i := 202) rfl))⟩
abbrev KJ0_charAt_5068e : MI := (yJ0_charAt_5068e, cJ0_charAt_5068e, 2, (some .char), [])
theorem mJ0_charAt_5068e : mF KJ0_charAt_5068e 1 ∧ Cond.instanceMethod yJ0_charAt_5068e ∈ lw_tbl ∧ Cond.selects yJ0_charAt_5068e.cls yJ0_charAt_5068e yJ0_charAt_5068e ∈ lw_tbl := ⟨⟨rfl, (tin3 (List.mem_of_getElem? (i := 213) rfl)), (tin1 (List.mem_of_getElem? (i := 18) rfl)), ⟨by decide +kernel, by decide +kernel⟩, by decide +kernel, by decide +kernel⟩, (tin3 (List.mem_of_getElem? (i := 211) rfl)), (tin3 (List.mem_of_getElem? (i := 212) rfl))⟩
abbrev KJ0_coder_7d493 : MI := (yJ0_coder_7d493, cJ0_coder_7d493, 1, (some .byte), [])
theorem mJ0_coder_7d493 : mF KJ0_coder_7d493 0 ∧ Cond.instanceMethod yJ0_coder_7d493 ∈ lw_tbl ∧ Cond.selects yJ0_coder_7d493.cls yJ0_coder_7d493 yJ0_coder_7d493 ∈ lw_tbl := ⟨⟨rfl, (tin3 (List.mem_of_getElem? (i := 207) rfl)), (tin1 (List.mem_of_getElem? (i := 18) rfl)), ⟨by decide +kernel, by decide +kernel⟩, by decide +kernel, by decide +kernel⟩, (tin3 (List.mem_of_getElem? (i := 205) rfl)), (tin3 (List.mem_of_getElem? (i := 206) rfl))⟩
abbrev KJ0_isLatin1_aae02 : MI := (yJ0_isLatin1_aae02, cJ0_isLatin1_aae02, 1, (some .boolean), [])
theorem mJ0_isLatin1_aae02 : mF KJ0_isLatin1_aae02 0 ∧ Cond.instanceMethod yJ0_isLatin1_aae02 ∈ lw_tbl ∧ Cond.selects yJ0_isLatin1_aae02.cls yJ0_isLatin1_aae02 yJ0_isLatin1_aae02 ∈ lw_tbl := ⟨⟨rfl, (tin3 (List.mem_of_getElem? (i := 217) rfl)), (tin1 (List.mem_of_getElem? (i := 18) rfl)), ⟨by decide +kernel, by decide +kernel⟩, by decide +kernel, by decide +kernel⟩, (tin3 (List.mem_of_getElem? (i := 215) rfl)), (tin3 (List.mem_of_getElem? (i := 216) rfl))⟩
abbrev KJ0_checkIndex_df160 : MI := (yJ0_checkIndex_df160, cJ0_checkIndex_df160, 2, none, [])
theorem mJ0_checkIndex_df160 : mS KJ0_checkIndex_df160 2 := ⟨⟨rfl, (tin3 (List.mem_of_getElem? (i := 223) rfl)), (tin1 (List.mem_of_getElem? (i := 18) rfl)), ⟨by decide +kernel, by decide +kernel⟩, by decide +kernel, by decide +kernel⟩, (tin3 (List.mem_of_getElem? (i := 222) rfl))⟩
abbrev KJ1_charAt_3b067 : MI := (yJ1_charAt_3b067, cJ1_charAt_3b067, 2, (some .char), [])
theorem mJ1_charAt_3b067 : mS KJ1_charAt_3b067 2 := ⟨⟨rfl, (tin3 (List.mem_of_getElem? (i := 220) rfl)), (tin1 (List.mem_of_getElem? (i := 19) rfl)), ⟨by decide +kernel, by decide +kernel⟩, by decide +kernel, by decide +kernel⟩, (tin3 (List.mem_of_getElem? (i := 219) rfl))⟩
abbrev KJ7_fill_53178 : MI := (yJ7_fill_53178, cJ7_fill_53178, 4, none, [])
theorem mJ7_fill_53178 : mS KJ7_fill_53178 2 := ⟨⟨rfl, (tin2 (List.mem_of_getElem? (i := 28) rfl)), (tin1 (List.mem_of_getElem? (i := 10) rfl)), ⟨by decide +kernel, by decide +kernel⟩, by decide +kernel, by decide +kernel⟩, (tin2 (List.mem_of_getElem? (i := 27) rfl))⟩
abbrev KJ3_checkIndex_8e157 : MI := (yJ3_checkIndex_8e157, cJ3_checkIndex_8e157, 3, (some .int), [])
theorem mJ3_checkIndex_8e157 : mS KJ3_checkIndex_8e157 3 := ⟨⟨rfl, (tin3 (List.mem_of_getElem? (i := 228) rfl)), (tin1 (List.mem_of_getElem? (i := 20) rfl)), ⟨by decide +kernel, by decide +kernel⟩, by decide +kernel, by decide +kernel⟩, (tin3 (List.mem_of_getElem? (i := 227) rfl))⟩
abbrev KL_field : MI := (yL_field, cL_field, 4, (some .int), [(0, 9, 12, 13)])
abbrev KL_law : MI := (yL_law, cL_law, 5, (some .int), [(0, 10, 13, 13)])
abbrev KL_work : MI := (yL_work, cL_work, 4, (some .int), [(0, 9, 12, 13)])
abbrev KL_book : MI := (yL_book, cL_book, 4, (some .int), [(0, 9, 12, 13)])
abbrev KL_told : MI := (yL_told, cL_told, 4, (some .int), [(0, 9, 12, 13)])
abbrev KL_stone : MI := (yL_stone, cL_stone, 5, (some .int), [(0, 10, 13, 31), (0, 10, 17, 13)])
abbrev KL_cell : MI := (yL_cell, cL_cell, 6, (some .int), [(0, 12, 15, 37), (0, 12, 19, 13)])
abbrev KL_sledge : MI := (yL_sledge, cL_sledge, 4, (some .int), [(0, 9, 12, 13)])
abbrev KL_sums : MI := (yL_sums, cL_sums, 4, (some .int), [(0, 9, 12, 13)])
abbrev KL_damage : MI := (yL_damage, cL_damage, 6, (some .int), [(0, 12, 15, 37), (0, 12, 19, 13)])
abbrev KL_rises : MI := (yL_rises, cL_rises, 5, (some .int), [(0, 10, 13, 37)])
abbrev KL_clear : MI := (yL_clear, cL_clear, 4, (some .int), [(0, 9, 12, 31)])
abbrev KL_stops : MI := (yL_stops, cL_stops, 5, (some .int), [(0, 10, 13, 13)])
abbrev KL_way : MI := (yL_way, cL_way, 4, (some .int), [(0, 8, 11, 13)])
abbrev KL_heaps : MI := (yL_heaps, cL_heaps, 5, (some .int), [(0, 10, 13, 13)])
abbrev KL_line : MI := (yL_line, cL_line, 5, (some .int), [(0, 10, 13, 13)])
abbrev KL_first : MI := (yL_first, cL_first, 5, (some .int), [(0, 9, 12, 13)])
abbrev KL_mix : MI := (yL_mix, cL_mix, 7, (some .int), [(0, 14, 17, 13)])
abbrev KL_enough : MI := (yL_enough, cL_enough, 5, (some .int), [(0, 10, 13, 13)])
abbrev KL_left : MI := (yL_left, cL_left, 5, (some .int), [(0, 10, 13, 13)])
abbrev KL_frost : MI := (yL_frost, cL_frost, 7, (some .int), [(0, 14, 17, 13)])
abbrev KL_span : MI := (yL_span, cL_span, 9, (some .int), [(0, 18, 21, 13)])
abbrev KL_chosen : MI := (yL_chosen, cL_chosen, 4, (some .int), [(0, 9, 12, 13)])
abbrev KL_lifts : MI := (yL_lifts, cL_lifts, 5, (some .int), [(0, 10, 13, 37)])
abbrev KL_loads : MI := (yL_loads, cL_loads, 5, (some .int), [(0, 9, 12, 37)])
theorem cf0 : cFt RX0 TX0 6 tyX0 := ⟨show ∀ w ∈ u_ws RX0 TX0 6, w ∈ lw_tbl from List.forall_mem_cons.mpr ⟨(tin1 (List.mem_of_getElem? (i := 139) rfl)), List.forall_mem_cons.mpr ⟨(tin1 (List.mem_of_getElem? (i := 141) rfl)), List.forall_mem_cons.mpr ⟨(tin1 (List.mem_of_getElem? (i := 143) rfl)), List.forall_mem_cons.mpr ⟨(tin1 (List.mem_of_getElem? (i := 145) rfl)), List.forall_mem_cons.mpr ⟨(tin1 (List.mem_of_getElem? (i := 147) rfl)), List.forall_mem_cons.mpr ⟨(tin1 (List.mem_of_getElem? (i := 149) rfl)), List.forall_mem_nil _⟩⟩⟩⟩⟩⟩, tyX0_ok, nmX0⟩
theorem cf1 : cFt RX1 TX1 4 tyX1 := ⟨show ∀ w ∈ u_ws RX1 TX1 4, w ∈ lw_tbl from List.forall_mem_cons.mpr ⟨(tin2 (List.mem_of_getElem? (i := 109) rfl)), List.forall_mem_cons.mpr ⟨(tin2 (List.mem_of_getElem? (i := 111) rfl)), List.forall_mem_cons.mpr ⟨(tin2 (List.mem_of_getElem? (i := 113) rfl)), List.forall_mem_cons.mpr ⟨(tin2 (List.mem_of_getElem? (i := 115) rfl)), List.forall_mem_nil _⟩⟩⟩⟩, tyX1_ok, nmX1⟩
theorem cf2 : cFt RX2 TX2 3 tyX2 := ⟨show ∀ w ∈ u_ws RX2 TX2 3, w ∈ lw_tbl from List.forall_mem_cons.mpr ⟨(tin1 (List.mem_of_getElem? (i := 230) rfl)), List.forall_mem_cons.mpr ⟨(tin1 (List.mem_of_getElem? (i := 232) rfl)), List.forall_mem_cons.mpr ⟨(tin1 (List.mem_of_getElem? (i := 234) rfl)), List.forall_mem_nil _⟩⟩⟩, tyX2_ok, nmX2⟩
theorem cf3 : cFt RX3 TX3 12 tyX3 := ⟨show ∀ w ∈ u_ws RX3 TX3 12, w ∈ lw_tbl from List.forall_mem_cons.mpr ⟨(tin2 (List.mem_of_getElem? (i := 71) rfl)), List.forall_mem_cons.mpr ⟨(tin2 (List.mem_of_getElem? (i := 73) rfl)), List.forall_mem_cons.mpr ⟨(tin2 (List.mem_of_getElem? (i := 75) rfl)), List.forall_mem_cons.mpr ⟨(tin2 (List.mem_of_getElem? (i := 77) rfl)), List.forall_mem_cons.mpr ⟨(tin2 (List.mem_of_getElem? (i := 79) rfl)), List.forall_mem_cons.mpr ⟨(tin2 (List.mem_of_getElem? (i := 81) rfl)), List.forall_mem_cons.mpr ⟨(tin2 (List.mem_of_getElem? (i := 83) rfl)), List.forall_mem_cons.mpr ⟨(tin2 (List.mem_of_getElem? (i := 85) rfl)), List.forall_mem_cons.mpr ⟨(tin2 (List.mem_of_getElem? (i := 87) rfl)), List.forall_mem_cons.mpr ⟨(tin2 (List.mem_of_getElem? (i := 89) rfl)), List.forall_mem_cons.mpr ⟨(tin2 (List.mem_of_getElem? (i := 91) rfl)), List.forall_mem_cons.mpr ⟨(tin2 (List.mem_of_getElem? (i := 93) rfl)), List.forall_mem_nil _⟩⟩⟩⟩⟩⟩⟩⟩⟩⟩⟩⟩, tyX3_ok, nmX3⟩
theorem cf4 : cFt RX4 TX4 4 tyX4 := ⟨show ∀ w ∈ u_ws RX4 TX4 4, w ∈ lw_tbl from List.forall_mem_cons.mpr ⟨(tin2 (List.mem_of_getElem? (i := 13) rfl)), List.forall_mem_cons.mpr ⟨(tin2 (List.mem_of_getElem? (i := 15) rfl)), List.forall_mem_cons.mpr ⟨(tin2 (List.mem_of_getElem? (i := 17) rfl)), List.forall_mem_cons.mpr ⟨(tin2 (List.mem_of_getElem? (i := 19) rfl)), List.forall_mem_nil _⟩⟩⟩⟩, tyX4_ok, nmX4⟩
theorem cf5 : cFt RX5 TX5 5 tyX5 := ⟨show ∀ w ∈ u_ws RX5 TX5 5, w ∈ lw_tbl from List.forall_mem_cons.mpr ⟨(tin1 (List.mem_of_getElem? (i := 116) rfl)), List.forall_mem_cons.mpr ⟨(tin1 (List.mem_of_getElem? (i := 118) rfl)), List.forall_mem_cons.mpr ⟨(tin1 (List.mem_of_getElem? (i := 120) rfl)), List.forall_mem_cons.mpr ⟨(tin1 (List.mem_of_getElem? (i := 122) rfl)), List.forall_mem_cons.mpr ⟨(tin1 (List.mem_of_getElem? (i := 124) rfl)), List.forall_mem_nil _⟩⟩⟩⟩⟩, tyX5_ok, nmX5⟩
theorem cf6 : cFt RX6 TX6 7 tyX6 := ⟨show ∀ w ∈ u_ws RX6 TX6 7, w ∈ lw_tbl from List.forall_mem_cons.mpr ⟨(tin1 (List.mem_of_getElem? (i := 87) rfl)), List.forall_mem_cons.mpr ⟨(tin1 (List.mem_of_getElem? (i := 89) rfl)), List.forall_mem_cons.mpr ⟨(tin1 (List.mem_of_getElem? (i := 91) rfl)), List.forall_mem_cons.mpr ⟨(tin1 (List.mem_of_getElem? (i := 93) rfl)), List.forall_mem_cons.mpr ⟨(tin1 (List.mem_of_getElem? (i := 95) rfl)), List.forall_mem_cons.mpr ⟨(tin1 (List.mem_of_getElem? (i := 97) rfl)), List.forall_mem_cons.mpr ⟨(tin1 (List.mem_of_getElem? (i := 99) rfl)), List.forall_mem_nil _⟩⟩⟩⟩⟩⟩⟩, tyX6_ok, nmX6⟩
theorem cf7 : cFt RX7 TX7 7 tyX7 := ⟨show ∀ w ∈ u_ws RX7 TX7 7, w ∈ lw_tbl from List.forall_mem_cons.mpr ⟨(tin1 (List.mem_of_getElem? (i := 56) rfl)), List.forall_mem_cons.mpr ⟨(tin1 (List.mem_of_getElem? (i := 58) rfl)), List.forall_mem_cons.mpr ⟨(tin1 (List.mem_of_getElem? (i := 60) rfl)), List.forall_mem_cons.mpr ⟨(tin1 (List.mem_of_getElem? (i := 62) rfl)), List.forall_mem_cons.mpr ⟨(tin1 (List.mem_of_getElem? (i := 64) rfl)), List.forall_mem_cons.mpr ⟨(tin1 (List.mem_of_getElem? (i := 66) rfl)), List.forall_mem_cons.mpr ⟨(tin1 (List.mem_of_getElem? (i := 68) rfl)), List.forall_mem_nil _⟩⟩⟩⟩⟩⟩⟩, tyX7_ok, nmX7⟩
theorem cf8 : cFt RX8 TX8 16 tyX8 := ⟨show ∀ w ∈ u_ws RX8 TX8 16, w ∈ lw_tbl from List.forall_mem_cons.mpr ⟨(tin1 (List.mem_of_getElem? (i := 194) rfl)), List.forall_mem_cons.mpr ⟨(tin1 (List.mem_of_getElem? (i := 196) rfl)), List.forall_mem_cons.mpr ⟨(tin1 (List.mem_of_getElem? (i := 198) rfl)), List.forall_mem_cons.mpr ⟨(tin1 (List.mem_of_getElem? (i := 200) rfl)), List.forall_mem_cons.mpr ⟨(tin1 (List.mem_of_getElem? (i := 202) rfl)), List.forall_mem_cons.mpr ⟨(tin1 (List.mem_of_getElem? (i := 204) rfl)), List.forall_mem_cons.mpr ⟨(tin1 (List.mem_of_getElem? (i := 206) rfl)), List.forall_mem_cons.mpr ⟨(tin1 (List.mem_of_getElem? (i := 208) rfl)), List.forall_mem_cons.mpr ⟨(tin1 (List.mem_of_getElem? (i := 210) rfl)), List.forall_mem_cons.mpr ⟨(tin1 (List.mem_of_getElem? (i := 212) rfl)), List.forall_mem_cons.mpr ⟨(tin1 (List.mem_of_getElem? (i := 214) rfl)), List.forall_mem_cons.mpr ⟨(tin1 (List.mem_of_getElem? (i := 216) rfl)), List.forall_mem_cons.mpr ⟨(tin1 (List.mem_of_getElem? (i := 218) rfl)), List.forall_mem_cons.mpr ⟨(tin1 (List.mem_of_getElem? (i := 220) rfl)), List.forall_mem_cons.mpr ⟨(tin1 (List.mem_of_getElem? (i := 222) rfl)), List.forall_mem_cons.mpr ⟨(tin1 (List.mem_of_getElem? (i := 224) rfl)), List.forall_mem_nil _⟩⟩⟩⟩⟩⟩⟩⟩⟩⟩⟩⟩⟩⟩⟩⟩, tyX8_ok, nmX8⟩
theorem cf9 : cFt RX9 TX9 16 tyX9 := ⟨show ∀ w ∈ u_ws RX9 TX9 16, w ∈ lw_tbl from List.forall_mem_cons.mpr ⟨(tin2 (List.mem_of_getElem? (i := 136) rfl)), List.forall_mem_cons.mpr ⟨(tin2 (List.mem_of_getElem? (i := 138) rfl)), List.forall_mem_cons.mpr ⟨(tin2 (List.mem_of_getElem? (i := 140) rfl)), List.forall_mem_cons.mpr ⟨(tin2 (List.mem_of_getElem? (i := 142) rfl)), List.forall_mem_cons.mpr ⟨(tin2 (List.mem_of_getElem? (i := 144) rfl)), List.forall_mem_cons.mpr ⟨(tin2 (List.mem_of_getElem? (i := 146) rfl)), List.forall_mem_cons.mpr ⟨(tin2 (List.mem_of_getElem? (i := 148) rfl)), List.forall_mem_cons.mpr ⟨(tin2 (List.mem_of_getElem? (i := 150) rfl)), List.forall_mem_cons.mpr ⟨(tin2 (List.mem_of_getElem? (i := 152) rfl)), List.forall_mem_cons.mpr ⟨(tin2 (List.mem_of_getElem? (i := 154) rfl)), List.forall_mem_cons.mpr ⟨(tin2 (List.mem_of_getElem? (i := 156) rfl)), List.forall_mem_cons.mpr ⟨(tin2 (List.mem_of_getElem? (i := 158) rfl)), List.forall_mem_cons.mpr ⟨(tin2 (List.mem_of_getElem? (i := 160) rfl)), List.forall_mem_cons.mpr ⟨(tin2 (List.mem_of_getElem? (i := 162) rfl)), List.forall_mem_cons.mpr ⟨(tin2 (List.mem_of_getElem? (i := 164) rfl)), List.forall_mem_cons.mpr ⟨(tin2 (List.mem_of_getElem? (i := 166) rfl)), List.forall_mem_nil _⟩⟩⟩⟩⟩⟩⟩⟩⟩⟩⟩⟩⟩⟩⟩⟩, tyX9_ok, nmX9⟩
theorem cf10 : cFt RX10 TX10 43 tyX10 := ⟨show ∀ w ∈ u_ws RX10 TX10 43, w ∈ lw_tbl from List.forall_mem_cons.mpr ⟨(tin7 (List.mem_of_getElem? (i := 57) rfl)), List.forall_mem_cons.mpr ⟨(tin7 (List.mem_of_getElem? (i := 59) rfl)), List.forall_mem_cons.mpr ⟨(tin7 (List.mem_of_getElem? (i := 61) rfl)), List.forall_mem_cons.mpr ⟨(tin7 (List.mem_of_getElem? (i := 63) rfl)), List.forall_mem_cons.mpr ⟨(tin7 (List.mem_of_getElem? (i := 65) rfl)), List.forall_mem_cons.mpr ⟨(tin7 (List.mem_of_getElem? (i := 67) rfl)), List.forall_mem_cons.mpr ⟨(tin7 (List.mem_of_getElem? (i := 69) rfl)), List.forall_mem_cons.mpr ⟨(tin7 (List.mem_of_getElem? (i := 71) rfl)), List.forall_mem_cons.mpr ⟨(tin7 (List.mem_of_getElem? (i := 73) rfl)), List.forall_mem_cons.mpr ⟨(tin7 (List.mem_of_getElem? (i := 75) rfl)), List.forall_mem_cons.mpr ⟨(tin7 (List.mem_of_getElem? (i := 77) rfl)), List.forall_mem_cons.mpr ⟨(tin7 (List.mem_of_getElem? (i := 79) rfl)), List.forall_mem_cons.mpr ⟨(tin7 (List.mem_of_getElem? (i := 81) rfl)), List.forall_mem_cons.mpr ⟨(tin7 (List.mem_of_getElem? (i := 83) rfl)), List.forall_mem_cons.mpr ⟨(tin7 (List.mem_of_getElem? (i := 85) rfl)), List.forall_mem_cons.mpr ⟨(tin7 (List.mem_of_getElem? (i := 87) rfl)), List.forall_mem_cons.mpr ⟨(tin7 (List.mem_of_getElem? (i := 89) rfl)), List.forall_mem_cons.mpr ⟨(tin7 (List.mem_of_getElem? (i := 91) rfl)), List.forall_mem_cons.mpr ⟨(tin7 (List.mem_of_getElem? (i := 93) rfl)), List.forall_mem_cons.mpr ⟨(tin7 (List.mem_of_getElem? (i := 95) rfl)), List.forall_mem_cons.mpr ⟨(tin7 (List.mem_of_getElem? (i := 97) rfl)), List.forall_mem_cons.mpr ⟨(tin7 (List.mem_of_getElem? (i := 99) rfl)), List.forall_mem_cons.mpr ⟨(tin7 (List.mem_of_getElem? (i := 101) rfl)), List.forall_mem_cons.mpr ⟨(tin7 (List.mem_of_getElem? (i := 103) rfl)), List.forall_mem_cons.mpr ⟨(tin7 (List.mem_of_getElem? (i := 105) rfl)), List.forall_mem_cons.mpr ⟨(tin7 (List.mem_of_getElem? (i := 107) rfl)), List.forall_mem_cons.mpr ⟨(tin7 (List.mem_of_getElem? (i := 109) rfl)), List.forall_mem_cons.mpr ⟨(tin7 (List.mem_of_getElem? (i := 111) rfl)), List.forall_mem_cons.mpr ⟨(tin7 (List.mem_of_getElem? (i := 113) rfl)), List.forall_mem_cons.mpr ⟨(tin7 (List.mem_of_getElem? (i := 115) rfl)), List.forall_mem_cons.mpr ⟨(tin7 (List.mem_of_getElem? (i := 117) rfl)), List.forall_mem_cons.mpr ⟨(tin7 (List.mem_of_getElem? (i := 119) rfl)), List.forall_mem_cons.mpr ⟨(tin7 (List.mem_of_getElem? (i := 121) rfl)), List.forall_mem_cons.mpr ⟨(tin7 (List.mem_of_getElem? (i := 123) rfl)), List.forall_mem_cons.mpr ⟨(tin7 (List.mem_of_getElem? (i := 125) rfl)), List.forall_mem_cons.mpr ⟨(tin7 (List.mem_of_getElem? (i := 127) rfl)), List.forall_mem_cons.mpr ⟨(tin7 (List.mem_of_getElem? (i := 129) rfl)), List.forall_mem_cons.mpr ⟨(tin7 (List.mem_of_getElem? (i := 131) rfl)), List.forall_mem_cons.mpr ⟨(tin7 (List.mem_of_getElem? (i := 133) rfl)), List.forall_mem_cons.mpr ⟨(tin7 (List.mem_of_getElem? (i := 135) rfl)), List.forall_mem_cons.mpr ⟨(tin7 (List.mem_of_getElem? (i := 137) rfl)), List.forall_mem_cons.mpr ⟨(tin7 (List.mem_of_getElem? (i := 139) rfl)), List.forall_mem_cons.mpr ⟨(tin7 (List.mem_of_getElem? (i := 141) rfl)), List.forall_mem_nil _⟩⟩⟩⟩⟩⟩⟩⟩⟩⟩⟩⟩⟩⟩⟩⟩⟩⟩⟩⟩⟩⟩⟩⟩⟩⟩⟩⟩⟩⟩⟩⟩⟩⟩⟩⟩⟩⟩⟩⟩⟩⟩⟩, tyX10_ok, nmX10⟩
theorem fl_RX9_12 : fL RX9 12 9 0 2 true := ⟨RX9, TX9, 16, tyX9, rfl, cf9, by decide, by decide, rfl, rfl, rfl, (tin2 (List.mem_of_getElem? (i := 120) rfl)), rfl⟩
theorem fl_RX9_19 : fL RX9 19 9 1 2 true := ⟨RX9, TX9, 16, tyX9, rfl, cf9, by decide, by decide, rfl, rfl, rfl, (tin2 (List.mem_of_getElem? (i := 121) rfl)), rfl⟩
theorem fl_RX9_26 : fL RX9 26 9 2 2 true := ⟨RX9, TX9, 16, tyX9, rfl, cf9, by decide, by decide, rfl, rfl, rfl, (tin2 (List.mem_of_getElem? (i := 122) rfl)), rfl⟩
theorem fl_RX9_33 : fL RX9 33 9 3 2 true := ⟨RX9, TX9, 16, tyX9, rfl, cf9, by decide, by decide, rfl, rfl, rfl, (tin2 (List.mem_of_getElem? (i := 123) rfl)), rfl⟩
theorem fl_RX9_40 : fL RX9 40 9 4 2 true := ⟨RX9, TX9, 16, tyX9, rfl, cf9, by decide, by decide, rfl, rfl, rfl, (tin2 (List.mem_of_getElem? (i := 124) rfl)), rfl⟩
theorem fl_RX9_47 : fL RX9 47 9 5 2 false := ⟨RX9, TX9, 16, tyX9, rfl, cf9, by decide, by decide, rfl, rfl, rfl, (tin2 (List.mem_of_getElem? (i := 125) rfl)), rfl⟩
theorem fl_RX9_51 : fL RX9 51 9 6 2 false := ⟨RX9, TX9, 16, tyX9, rfl, cf9, by decide, by decide, rfl, rfl, rfl, (tin2 (List.mem_of_getElem? (i := 126) rfl)), rfl⟩
theorem fl_RX9_57 : fL RX9 57 9 7 2 false := ⟨RX9, TX9, 16, tyX9, rfl, cf9, by decide, by decide, rfl, rfl, rfl, (tin2 (List.mem_of_getElem? (i := 127) rfl)), rfl⟩
theorem fl_RX9_61 : fL RX9 61 9 8 2 false := ⟨RX9, TX9, 16, tyX9, rfl, cf9, by decide, by decide, rfl, rfl, rfl, (tin2 (List.mem_of_getElem? (i := 128) rfl)), rfl⟩
theorem fl_RX9_67 : fL RX9 67 9 9 2 false := ⟨RX9, TX9, 16, tyX9, rfl, cf9, by decide, by decide, rfl, rfl, rfl, (tin2 (List.mem_of_getElem? (i := 129) rfl)), rfl⟩
theorem fl_RX9_71 : fL RX9 71 9 10 2 false := ⟨RX9, TX9, 16, tyX9, rfl, cf9, by decide, by decide, rfl, rfl, rfl, (tin2 (List.mem_of_getElem? (i := 130) rfl)), rfl⟩
theorem fl_RX9_77 : fL RX9 77 9 11 2 false := ⟨RX9, TX9, 16, tyX9, rfl, cf9, by decide, by decide, rfl, rfl, rfl, (tin2 (List.mem_of_getElem? (i := 131) rfl)), rfl⟩
theorem fl_RX9_97 : fL RX9 97 7 5 0 false := ⟨RX7, TX7, 7, tyX7, rfl, cf7, by decide, by decide, rfl, rfl, rfl, (tin1 (List.mem_of_getElem? (i := 52) rfl)), rfl⟩
theorem fl_RX9_105 : fL RX9 105 9 12 0 false := ⟨RX9, TX9, 16, tyX9, rfl, cf9, by decide, by decide, rfl, rfl, rfl, (tin2 (List.mem_of_getElem? (i := 132) rfl)), rfl⟩
theorem fl_RX9_108 : fL RX9 108 8 8 0 false := ⟨RX8, TX8, 16, tyX8, rfl, cf8, by decide, by decide, rfl, rfl, rfl, (tin1 (List.mem_of_getElem? (i := 175) rfl)), rfl⟩
theorem fl_RX9_141 : fL RX9 141 6 6 0 false := ⟨RX6, TX6, 7, tyX6, rfl, cf6, by decide, by decide, rfl, rfl, rfl, (tin1 (List.mem_of_getElem? (i := 85) rfl)), rfl⟩
theorem fl_RX9_144 : fL RX9 144 6 5 0 false := ⟨RX6, TX6, 7, tyX6, rfl, cf6, by decide, by decide, rfl, rfl, rfl, (tin1 (List.mem_of_getElem? (i := 83) rfl)), rfl⟩
theorem fl_RX9_150 : fL RX9 150 1 3 0 false := ⟨RX1, TX1, 4, tyX1, rfl, cf1, by decide, by decide, rfl, rfl, rfl, (tin2 (List.mem_of_getElem? (i := 108) rfl)), rfl⟩
theorem fl_RX9_153 : fL RX9 153 7 6 0 false := ⟨RX7, TX7, 7, tyX7, rfl, cf7, by decide, by decide, rfl, rfl, rfl, (tin1 (List.mem_of_getElem? (i := 55) rfl)), rfl⟩
theorem fl_RX9_156 : fL RX9 156 5 3 0 false := ⟨RX5, TX5, 5, tyX5, rfl, cf5, by decide, by decide, rfl, rfl, rfl, (tin1 (List.mem_of_getElem? (i := 113) rfl)), rfl⟩
theorem fl_RX9_162 : fL RX9 162 3 3 0 false := ⟨RX3, TX3, 12, tyX3, rfl, cf3, by decide, by decide, rfl, rfl, rfl, (tin2 (List.mem_of_getElem? (i := 49) rfl)), rfl⟩
theorem fl_RX9_165 : fL RX9 165 3 4 0 false := ⟨RX3, TX3, 12, tyX3, rfl, cf3, by decide, by decide, rfl, rfl, rfl, (tin2 (List.mem_of_getElem? (i := 52) rfl)), rfl⟩
theorem fl_RX9_168 : fL RX9 168 8 9 0 false := ⟨RX8, TX8, 16, tyX8, rfl, cf8, by decide, by decide, rfl, rfl, rfl, (tin1 (List.mem_of_getElem? (i := 181) rfl)), rfl⟩
theorem fl_RX9_220 : fL RX9 220 8 10 0 false := ⟨RX8, TX8, 16, tyX8, rfl, cf8, by decide, by decide, rfl, rfl, rfl, (tin1 (List.mem_of_getElem? (i := 183) rfl)), rfl⟩
theorem fl_RX9_223 : fL RX9 223 8 11 0 false := ⟨RX8, TX8, 16, tyX8, rfl, cf8, by decide, by decide, rfl, rfl, rfl, (tin1 (List.mem_of_getElem? (i := 185) rfl)), rfl⟩
theorem fl_RX9_226 : fL RX9 226 8 12 0 false := ⟨RX8, TX8, 16, tyX8, rfl, cf8, by decide, by decide, rfl, rfl, rfl, (tin1 (List.mem_of_getElem? (i := 187) rfl)), rfl⟩
theorem fl_RX9_229 : fL RX9 229 8 13 0 false := ⟨RX8, TX8, 16, tyX8, rfl, cf8, by decide, by decide, rfl, rfl, rfl, (tin1 (List.mem_of_getElem? (i := 189) rfl)), rfl⟩
theorem fl_RX9_232 : fL RX9 232 8 14 0 false := ⟨RX8, TX8, 16, tyX8, rfl, cf8, by decide, by decide, rfl, rfl, rfl, (tin1 (List.mem_of_getElem? (i := 191) rfl)), rfl⟩
theorem fl_RX9_235 : fL RX9 235 8 15 0 false := ⟨RX8, TX8, 16, tyX8, rfl, cf8, by decide, by decide, rfl, rfl, rfl, (tin1 (List.mem_of_getElem? (i := 193) rfl)), rfl⟩
theorem fl_RX9_242 : fL RX9 242 8 7 0 false := ⟨RX8, TX8, 16, tyX8, rfl, cf8, by decide, by decide, rfl, rfl, rfl, (tin1 (List.mem_of_getElem? (i := 173) rfl)), rfl⟩
theorem fl_RX9_341 : fL RX9 341 5 4 0 false := ⟨RX5, TX5, 5, tyX5, rfl, cf5, by decide, by decide, rfl, rfl, rfl, (tin1 (List.mem_of_getElem? (i := 115) rfl)), rfl⟩
theorem fl_RX9_347 : fL RX9 347 9 13 0 false := ⟨RX9, TX9, 16, tyX9, rfl, cf9, by decide, by decide, rfl, rfl, rfl, (tin2 (List.mem_of_getElem? (i := 133) rfl)), rfl⟩
theorem fl_RX9_350 : fL RX9 350 9 14 0 false := ⟨RX9, TX9, 16, tyX9, rfl, cf9, by decide, by decide, rfl, rfl, rfl, (tin2 (List.mem_of_getElem? (i := 134) rfl)), rfl⟩
theorem fl_RX9_353 : fL RX9 353 9 15 0 false := ⟨RX9, TX9, 16, tyX9, rfl, cf9, by decide, by decide, rfl, rfl, rfl, (tin2 (List.mem_of_getElem? (i := 135) rfl)), rfl⟩
theorem fl_RX9_356 : fL RX9 356 7 1 0 false := ⟨RX7, TX7, 7, tyX7, rfl, cf7, by decide, by decide, rfl, rfl, rfl, (tin1 (List.mem_of_getElem? (i := 43) rfl)), rfl⟩
theorem fl_RX0_9 : fL RX0 9 0 0 2 true := ⟨RX0, TX0, 6, tyX0, rfl, cf0, by decide, by decide, rfl, rfl, rfl, (tin1 (List.mem_of_getElem? (i := 133) rfl)), rfl⟩
theorem fl_RX0_15 : fL RX0 15 0 1 2 true := ⟨RX0, TX0, 6, tyX0, rfl, cf0, by decide, by decide, rfl, rfl, rfl, (tin1 (List.mem_of_getElem? (i := 134) rfl)), rfl⟩
theorem fl_RX0_19 : fL RX0 19 0 2 2 true := ⟨RX0, TX0, 6, tyX0, rfl, cf0, by decide, by decide, rfl, rfl, rfl, (tin1 (List.mem_of_getElem? (i := 135) rfl)), rfl⟩
theorem fl_RX0_22 : fL RX0 22 0 3 2 true := ⟨RX0, TX0, 6, tyX0, rfl, cf0, by decide, by decide, rfl, rfl, rfl, (tin1 (List.mem_of_getElem? (i := 136) rfl)), rfl⟩
theorem fl_RX0_25 : fL RX0 25 0 4 2 true := ⟨RX0, TX0, 6, tyX0, rfl, cf0, by decide, by decide, rfl, rfl, rfl, (tin1 (List.mem_of_getElem? (i := 137) rfl)), rfl⟩
theorem fl_RX0_36 : fL RX0 36 3 3 0 false := ⟨RX3, TX3, 12, tyX3, rfl, cf3, by decide, by decide, rfl, rfl, rfl, (tin2 (List.mem_of_getElem? (i := 48) rfl)), rfl⟩
theorem fl_RX0_48 : fL RX0 48 3 8 0 false := ⟨RX3, TX3, 12, tyX3, rfl, cf3, by decide, by decide, rfl, rfl, rfl, (tin2 (List.mem_of_getElem? (i := 62) rfl)), rfl⟩
theorem fl_RX0_51 : fL RX0 51 3 7 0 false := ⟨RX3, TX3, 12, tyX3, rfl, cf3, by decide, by decide, rfl, rfl, rfl, (tin2 (List.mem_of_getElem? (i := 59) rfl)), rfl⟩
theorem fl_RX0_63 : fL RX0 63 8 8 0 false := ⟨RX8, TX8, 16, tyX8, rfl, cf8, by decide, by decide, rfl, rfl, rfl, (tin1 (List.mem_of_getElem? (i := 176) rfl)), rfl⟩
theorem fl_RX0_81 : fL RX0 81 3 6 0 false := ⟨RX3, TX3, 12, tyX3, rfl, cf3, by decide, by decide, rfl, rfl, rfl, (tin2 (List.mem_of_getElem? (i := 56) rfl)), rfl⟩
theorem fl_RX0_105 : fL RX0 105 3 9 0 false := ⟨RX3, TX3, 12, tyX3, rfl, cf3, by decide, by decide, rfl, rfl, rfl, (tin2 (List.mem_of_getElem? (i := 65) rfl)), rfl⟩
theorem fl_RX0_135 : fL RX0 135 0 5 0 false := ⟨RX0, TX0, 6, tyX0, rfl, cf0, by decide, by decide, rfl, rfl, rfl, (tin1 (List.mem_of_getElem? (i := 138) rfl)), rfl⟩
theorem fl_RX1_11 : fL RX1 11 1 0 2 true := ⟨RX1, TX1, 4, tyX1, rfl, cf1, by decide, by decide, rfl, rfl, rfl, (tin2 (List.mem_of_getElem? (i := 104) rfl)), rfl⟩
theorem fl_RX1_15 : fL RX1 15 1 1 2 true := ⟨RX1, TX1, 4, tyX1, rfl, cf1, by decide, by decide, rfl, rfl, rfl, (tin2 (List.mem_of_getElem? (i := 105) rfl)), rfl⟩
theorem fl_RX1_18 : fL RX1 18 1 2 2 true := ⟨RX1, TX1, 4, tyX1, rfl, cf1, by decide, by decide, rfl, rfl, rfl, (tin2 (List.mem_of_getElem? (i := 106) rfl)), rfl⟩
theorem fl_RX1_21 : fL RX1 21 1 3 0 false := ⟨RX1, TX1, 4, tyX1, rfl, cf1, by decide, by decide, rfl, rfl, rfl, (tin2 (List.mem_of_getElem? (i := 107) rfl)), rfl⟩
theorem fl_RX1_39 : fL RX1 39 3 3 0 false := ⟨RX3, TX3, 12, tyX3, rfl, cf3, by decide, by decide, rfl, rfl, rfl, (tin2 (List.mem_of_getElem? (i := 47) rfl)), rfl⟩
theorem fl_RX1_48 : fL RX1 48 7 4 0 false := ⟨RX7, TX7, 7, tyX7, rfl, cf7, by decide, by decide, rfl, rfl, rfl, (tin1 (List.mem_of_getElem? (i := 47) rfl)), rfl⟩
theorem fl_RX1_55 : fL RX1 55 3 4 0 false := ⟨RX3, TX3, 12, tyX3, rfl, cf3, by decide, by decide, rfl, rfl, rfl, (tin2 (List.mem_of_getElem? (i := 51) rfl)), rfl⟩
theorem fl_RX1_79 : fL RX1 79 8 8 0 false := ⟨RX8, TX8, 16, tyX8, rfl, cf8, by decide, by decide, rfl, rfl, rfl, (tin1 (List.mem_of_getElem? (i := 178) rfl)), rfl⟩
theorem fl_RX2_12 : fL RX2 12 2 0 2 true := ⟨RX2, TX2, 3, tyX2, rfl, cf2, by decide, by decide, rfl, rfl, rfl, (tin1 (List.mem_of_getElem? (i := 227) rfl)), rfl⟩
theorem fl_RX2_18 : fL RX2 18 2 1 2 true := ⟨RX2, TX2, 3, tyX2, rfl, cf2, by decide, by decide, rfl, rfl, rfl, (tin1 (List.mem_of_getElem? (i := 228) rfl)), rfl⟩
theorem fl_RX2_45 : fL RX2 45 8 8 0 false := ⟨RX8, TX8, 16, tyX8, rfl, cf8, by decide, by decide, rfl, rfl, rfl, (tin1 (List.mem_of_getElem? (i := 177) rfl)), rfl⟩
theorem fl_RX2_69 : fL RX2 69 2 2 0 false := ⟨RX2, TX2, 3, tyX2, rfl, cf2, by decide, by decide, rfl, rfl, rfl, (tin1 (List.mem_of_getElem? (i := 229) rfl)), rfl⟩
theorem fl_RX3_9 : fL RX3 9 3 0 2 true := ⟨RX3, TX3, 12, tyX3, rfl, cf3, by decide, by decide, rfl, rfl, rfl, (tin2 (List.mem_of_getElem? (i := 41) rfl)), rfl⟩
theorem fl_RX3_18 : fL RX3 18 3 1 2 false := ⟨RX3, TX3, 12, tyX3, rfl, cf3, by decide, by decide, rfl, rfl, rfl, (tin2 (List.mem_of_getElem? (i := 42) rfl)), rfl⟩
theorem fl_RX3_22 : fL RX3 22 3 2 2 false := ⟨RX3, TX3, 12, tyX3, rfl, cf3, by decide, by decide, rfl, rfl, rfl, (tin2 (List.mem_of_getElem? (i := 44) rfl)), rfl⟩
theorem fl_RX3_28 : fL RX3 28 3 3 0 false := ⟨RX3, TX3, 12, tyX3, rfl, cf3, by decide, by decide, rfl, rfl, rfl, (tin2 (List.mem_of_getElem? (i := 46) rfl)), rfl⟩
theorem fl_RX3_32 : fL RX3 32 3 4 0 false := ⟨RX3, TX3, 12, tyX3, rfl, cf3, by decide, by decide, rfl, rfl, rfl, (tin2 (List.mem_of_getElem? (i := 50) rfl)), rfl⟩
theorem fl_RX3_41 : fL RX3 41 3 5 0 false := ⟨RX3, TX3, 12, tyX3, rfl, cf3, by decide, by decide, rfl, rfl, rfl, (tin2 (List.mem_of_getElem? (i := 53) rfl)), rfl⟩
theorem fl_RX3_44 : fL RX3 44 3 6 0 false := ⟨RX3, TX3, 12, tyX3, rfl, cf3, by decide, by decide, rfl, rfl, rfl, (tin2 (List.mem_of_getElem? (i := 55) rfl)), rfl⟩
theorem fl_RX3_47 : fL RX3 47 3 7 0 false := ⟨RX3, TX3, 12, tyX3, rfl, cf3, by decide, by decide, rfl, rfl, rfl, (tin2 (List.mem_of_getElem? (i := 58) rfl)), rfl⟩
theorem fl_RX3_50 : fL RX3 50 3 8 0 false := ⟨RX3, TX3, 12, tyX3, rfl, cf3, by decide, by decide, rfl, rfl, rfl, (tin2 (List.mem_of_getElem? (i := 61) rfl)), rfl⟩
theorem fl_RX3_53 : fL RX3 53 3 9 0 false := ⟨RX3, TX3, 12, tyX3, rfl, cf3, by decide, by decide, rfl, rfl, rfl, (tin2 (List.mem_of_getElem? (i := 64) rfl)), rfl⟩
theorem fl_RX3_56 : fL RX3 56 3 10 0 false := ⟨RX3, TX3, 12, tyX3, rfl, cf3, by decide, by decide, rfl, rfl, rfl, (tin2 (List.mem_of_getElem? (i := 67) rfl)), rfl⟩
theorem fl_RX3_59 : fL RX3 59 3 11 0 false := ⟨RX3, TX3, 12, tyX3, rfl, cf3, by decide, by decide, rfl, rfl, rfl, (tin2 (List.mem_of_getElem? (i := 69) rfl)), rfl⟩
theorem fl_RX3_102 : fL RX3 102 8 8 0 false := ⟨RX8, TX8, 16, tyX8, rfl, cf8, by decide, by decide, rfl, rfl, rfl, (tin1 (List.mem_of_getElem? (i := 179) rfl)), rfl⟩
theorem fl_RX3_105 : fL RX3 105 7 4 0 false := ⟨RX7, TX7, 7, tyX7, rfl, cf7, by decide, by decide, rfl, rfl, rfl, (tin1 (List.mem_of_getElem? (i := 49) rfl)), rfl⟩
theorem fl_RX4_11 : fL RX4 11 4 0 2 true := ⟨RX4, TX4, 4, tyX4, rfl, cf4, by decide, by decide, rfl, rfl, rfl, (tin2 (List.mem_of_getElem? (i := 9) rfl)), rfl⟩
theorem fl_RX4_15 : fL RX4 15 4 1 2 true := ⟨RX4, TX4, 4, tyX4, rfl, cf4, by decide, by decide, rfl, rfl, rfl, (tin2 (List.mem_of_getElem? (i := 10) rfl)), rfl⟩
theorem fl_RX4_18 : fL RX4 18 4 2 2 true := ⟨RX4, TX4, 4, tyX4, rfl, cf4, by decide, by decide, rfl, rfl, rfl, (tin2 (List.mem_of_getElem? (i := 11) rfl)), rfl⟩
theorem fl_RX4_21 : fL RX4 21 4 3 0 false := ⟨RX4, TX4, 4, tyX4, rfl, cf4, by decide, by decide, rfl, rfl, rfl, (tin2 (List.mem_of_getElem? (i := 12) rfl)), rfl⟩
theorem fl_RX4_39 : fL RX4 39 7 3 0 false := ⟨RX7, TX7, 7, tyX7, rfl, cf7, by decide, by decide, rfl, rfl, rfl, (tin1 (List.mem_of_getElem? (i := 46) rfl)), rfl⟩
theorem fl_RX4_85 : fL RX4 85 7 4 0 false := ⟨RX7, TX7, 7, tyX7, rfl, cf7, by decide, by decide, rfl, rfl, rfl, (tin1 (List.mem_of_getElem? (i := 50) rfl)), rfl⟩
theorem fl_RX5_11 : fL RX5 11 5 0 2 true := ⟨RX5, TX5, 5, tyX5, rfl, cf5, by decide, by decide, rfl, rfl, rfl, (tin1 (List.mem_of_getElem? (i := 109) rfl)), rfl⟩
theorem fl_RX5_15 : fL RX5 15 5 1 2 true := ⟨RX5, TX5, 5, tyX5, rfl, cf5, by decide, by decide, rfl, rfl, rfl, (tin1 (List.mem_of_getElem? (i := 110) rfl)), rfl⟩
theorem fl_RX5_18 : fL RX5 18 5 2 2 true := ⟨RX5, TX5, 5, tyX5, rfl, cf5, by decide, by decide, rfl, rfl, rfl, (tin1 (List.mem_of_getElem? (i := 111) rfl)), rfl⟩
theorem fl_RX5_21 : fL RX5 21 5 3 0 false := ⟨RX5, TX5, 5, tyX5, rfl, cf5, by decide, by decide, rfl, rfl, rfl, (tin1 (List.mem_of_getElem? (i := 112) rfl)), rfl⟩
theorem fl_RX5_25 : fL RX5 25 5 4 0 false := ⟨RX5, TX5, 5, tyX5, rfl, cf5, by decide, by decide, rfl, rfl, rfl, (tin1 (List.mem_of_getElem? (i := 114) rfl)), rfl⟩
theorem fl_RX6_11 : fL RX6 11 6 0 2 true := ⟨RX6, TX6, 7, tyX6, rfl, cf6, by decide, by decide, rfl, rfl, rfl, (tin1 (List.mem_of_getElem? (i := 78) rfl)), rfl⟩
theorem fl_RX6_15 : fL RX6 15 6 1 2 true := ⟨RX6, TX6, 7, tyX6, rfl, cf6, by decide, by decide, rfl, rfl, rfl, (tin1 (List.mem_of_getElem? (i := 79) rfl)), rfl⟩
theorem fl_RX6_18 : fL RX6 18 6 2 2 true := ⟨RX6, TX6, 7, tyX6, rfl, cf6, by decide, by decide, rfl, rfl, rfl, (tin1 (List.mem_of_getElem? (i := 80) rfl)), rfl⟩
theorem fl_RX6_21 : fL RX6 21 6 3 2 true := ⟨RX6, TX6, 7, tyX6, rfl, cf6, by decide, by decide, rfl, rfl, rfl, (tin1 (List.mem_of_getElem? (i := 81) rfl)), rfl⟩
theorem fl_RX6_24 : fL RX6 24 6 4 0 false := ⟨RX6, TX6, 7, tyX6, rfl, cf6, by decide, by decide, rfl, rfl, rfl, (tin1 (List.mem_of_getElem? (i := 82) rfl)), rfl⟩
theorem fl_RX6_68 : fL RX6 68 7 4 0 false := ⟨RX7, TX7, 7, tyX7, rfl, cf7, by decide, by decide, rfl, rfl, rfl, (tin1 (List.mem_of_getElem? (i := 48) rfl)), rfl⟩
theorem fl_RX6_78 : fL RX6 78 6 5 0 false := ⟨RX6, TX6, 7, tyX6, rfl, cf6, by decide, by decide, rfl, rfl, rfl, (tin1 (List.mem_of_getElem? (i := 84) rfl)), rfl⟩
theorem fl_RX6_81 : fL RX6 81 6 6 0 false := ⟨RX6, TX6, 7, tyX6, rfl, cf6, by decide, by decide, rfl, rfl, rfl, (tin1 (List.mem_of_getElem? (i := 86) rfl)), rfl⟩
theorem fl_RX7_11 : fL RX7 11 7 0 2 true := ⟨RX7, TX7, 7, tyX7, rfl, cf7, by decide, by decide, rfl, rfl, rfl, (tin1 (List.mem_of_getElem? (i := 41) rfl)), rfl⟩
theorem fl_RX7_15 : fL RX7 15 7 6 0 false := ⟨RX7, TX7, 7, tyX7, rfl, cf7, by decide, by decide, rfl, rfl, rfl, (tin1 (List.mem_of_getElem? (i := 54) rfl)), rfl⟩
theorem fl_RX7_19 : fL RX7 19 7 1 0 false := ⟨RX7, TX7, 7, tyX7, rfl, cf7, by decide, by decide, rfl, rfl, rfl, (tin1 (List.mem_of_getElem? (i := 42) rfl)), rfl⟩
theorem fl_RX7_32 : fL RX7 32 7 2 0 false := ⟨RX7, TX7, 7, tyX7, rfl, cf7, by decide, by decide, rfl, rfl, rfl, (tin1 (List.mem_of_getElem? (i := 44) rfl)), rfl⟩
theorem fl_RX7_35 : fL RX7 35 7 3 0 false := ⟨RX7, TX7, 7, tyX7, rfl, cf7, by decide, by decide, rfl, rfl, rfl, (tin1 (List.mem_of_getElem? (i := 45) rfl)), rfl⟩
theorem fl_RX7_38 : fL RX7 38 7 5 0 false := ⟨RX7, TX7, 7, tyX7, rfl, cf7, by decide, by decide, rfl, rfl, rfl, (tin1 (List.mem_of_getElem? (i := 53) rfl)), rfl⟩
theorem fl_RX7_61 : fL RX7 61 7 4 0 false := ⟨RX7, TX7, 7, tyX7, rfl, cf7, by decide, by decide, rfl, rfl, rfl, (tin1 (List.mem_of_getElem? (i := 51) rfl)), rfl⟩
theorem fl_RX8_9 : fL RX8 9 8 0 2 true := ⟨RX8, TX8, 16, tyX8, rfl, cf8, by decide, by decide, rfl, rfl, rfl, (tin1 (List.mem_of_getElem? (i := 165) rfl)), rfl⟩
theorem fl_RX8_15 : fL RX8 15 8 1 2 true := ⟨RX8, TX8, 16, tyX8, rfl, cf8, by decide, by decide, rfl, rfl, rfl, (tin1 (List.mem_of_getElem? (i := 166) rfl)), rfl⟩
theorem fl_RX8_18 : fL RX8 18 8 2 2 true := ⟨RX8, TX8, 16, tyX8, rfl, cf8, by decide, by decide, rfl, rfl, rfl, (tin1 (List.mem_of_getElem? (i := 167) rfl)), rfl⟩
theorem fl_RX8_21 : fL RX8 21 8 3 2 true := ⟨RX8, TX8, 16, tyX8, rfl, cf8, by decide, by decide, rfl, rfl, rfl, (tin1 (List.mem_of_getElem? (i := 168) rfl)), rfl⟩
theorem fl_RX8_24 : fL RX8 24 8 4 2 true := ⟨RX8, TX8, 16, tyX8, rfl, cf8, by decide, by decide, rfl, rfl, rfl, (tin1 (List.mem_of_getElem? (i := 169) rfl)), rfl⟩
theorem fl_RX8_27 : fL RX8 27 8 5 2 true := ⟨RX8, TX8, 16, tyX8, rfl, cf8, by decide, by decide, rfl, rfl, rfl, (tin1 (List.mem_of_getElem? (i := 170) rfl)), rfl⟩
theorem fl_RX8_30 : fL RX8 30 8 6 2 true := ⟨RX8, TX8, 16, tyX8, rfl, cf8, by decide, by decide, rfl, rfl, rfl, (tin1 (List.mem_of_getElem? (i := 171) rfl)), rfl⟩
theorem fl_RX8_39 : fL RX8 39 8 7 0 false := ⟨RX8, TX8, 16, tyX8, rfl, cf8, by decide, by decide, rfl, rfl, rfl, (tin1 (List.mem_of_getElem? (i := 172) rfl)), rfl⟩
theorem fl_RX8_43 : fL RX8 43 8 8 0 false := ⟨RX8, TX8, 16, tyX8, rfl, cf8, by decide, by decide, rfl, rfl, rfl, (tin1 (List.mem_of_getElem? (i := 174) rfl)), rfl⟩
theorem fl_RX8_46 : fL RX8 46 8 9 0 false := ⟨RX8, TX8, 16, tyX8, rfl, cf8, by decide, by decide, rfl, rfl, rfl, (tin1 (List.mem_of_getElem? (i := 180) rfl)), rfl⟩
theorem fl_RX8_49 : fL RX8 49 8 10 0 false := ⟨RX8, TX8, 16, tyX8, rfl, cf8, by decide, by decide, rfl, rfl, rfl, (tin1 (List.mem_of_getElem? (i := 182) rfl)), rfl⟩
theorem fl_RX8_52 : fL RX8 52 8 11 0 false := ⟨RX8, TX8, 16, tyX8, rfl, cf8, by decide, by decide, rfl, rfl, rfl, (tin1 (List.mem_of_getElem? (i := 184) rfl)), rfl⟩
theorem fl_RX8_55 : fL RX8 55 8 12 0 false := ⟨RX8, TX8, 16, tyX8, rfl, cf8, by decide, by decide, rfl, rfl, rfl, (tin1 (List.mem_of_getElem? (i := 186) rfl)), rfl⟩
theorem fl_RX8_58 : fL RX8 58 8 13 0 false := ⟨RX8, TX8, 16, tyX8, rfl, cf8, by decide, by decide, rfl, rfl, rfl, (tin1 (List.mem_of_getElem? (i := 188) rfl)), rfl⟩
theorem fl_RX8_61 : fL RX8 61 8 14 0 false := ⟨RX8, TX8, 16, tyX8, rfl, cf8, by decide, by decide, rfl, rfl, rfl, (tin1 (List.mem_of_getElem? (i := 190) rfl)), rfl⟩
theorem fl_RX8_64 : fL RX8 64 8 15 0 false := ⟨RX8, TX8, 16, tyX8, rfl, cf8, by decide, by decide, rfl, rfl, rfl, (tin1 (List.mem_of_getElem? (i := 192) rfl)), rfl⟩
theorem fl_RX8_104 : fL RX8 104 3 8 0 false := ⟨RX3, TX3, 12, tyX3, rfl, cf3, by decide, by decide, rfl, rfl, rfl, (tin2 (List.mem_of_getElem? (i := 63) rfl)), rfl⟩
theorem fl_RX8_109 : fL RX8 109 3 9 0 false := ⟨RX3, TX3, 12, tyX3, rfl, cf3, by decide, by decide, rfl, rfl, rfl, (tin2 (List.mem_of_getElem? (i := 66) rfl)), rfl⟩
theorem fl_RX8_112 : fL RX8 112 3 6 0 false := ⟨RX3, TX3, 12, tyX3, rfl, cf3, by decide, by decide, rfl, rfl, rfl, (tin2 (List.mem_of_getElem? (i := 57) rfl)), rfl⟩
theorem fl_RX8_115 : fL RX8 115 3 10 0 false := ⟨RX3, TX3, 12, tyX3, rfl, cf3, by decide, by decide, rfl, rfl, rfl, (tin2 (List.mem_of_getElem? (i := 68) rfl)), rfl⟩
theorem fl_RX8_122 : fL RX8 122 3 7 0 false := ⟨RX3, TX3, 12, tyX3, rfl, cf3, by decide, by decide, rfl, rfl, rfl, (tin2 (List.mem_of_getElem? (i := 60) rfl)), rfl⟩
theorem fl_RX8_134 : fL RX8 134 3 5 0 false := ⟨RX3, TX3, 12, tyX3, rfl, cf3, by decide, by decide, rfl, rfl, rfl, (tin2 (List.mem_of_getElem? (i := 54) rfl)), rfl⟩
theorem fl_RX8_156 : fL RX8 156 3 11 0 false := ⟨RX3, TX3, 12, tyX3, rfl, cf3, by decide, by decide, rfl, rfl, rfl, (tin2 (List.mem_of_getElem? (i := 70) rfl)), rfl⟩
theorem fl_RX8_192 : fL RX8 192 3 2 2 false := ⟨RX3, TX3, 12, tyX3, rfl, cf3, by decide, by decide, rfl, rfl, rfl, (tin2 (List.mem_of_getElem? (i := 45) rfl)), rfl⟩
theorem fl_RX8_209 : fL RX8 209 3 1 2 false := ⟨RX3, TX3, 12, tyX3, rfl, cf3, by decide, by decide, rfl, rfl, rfl, (tin2 (List.mem_of_getElem? (i := 43) rfl)), rfl⟩
theorem fl_RX10_9 : fL RX10 9 10 3 0 false := ⟨RX10, TX10, 43, tyX10, rfl, cf10, by decide, by decide, rfl, rfl, rfl, (tin7 (List.mem_of_getElem? (i := 17) rfl)), rfl⟩
theorem fl_RX10_13 : fL RX10 13 10 9 2 true := ⟨RX10, TX10, 43, tyX10, rfl, cf10, by decide, by decide, rfl, rfl, rfl, (tin7 (List.mem_of_getElem? (i := 23) rfl)), rfl⟩
theorem fl_RX10_17 : fL RX10 17 10 10 2 true := ⟨RX10, TX10, 43, tyX10, rfl, cf10, by decide, by decide, rfl, rfl, rfl, (tin7 (List.mem_of_getElem? (i := 24) rfl)), rfl⟩
theorem fl_RX10_20 : fL RX10 20 10 11 2 true := ⟨RX10, TX10, 43, tyX10, rfl, cf10, by decide, by decide, rfl, rfl, rfl, (tin7 (List.mem_of_getElem? (i := 25) rfl)), rfl⟩
theorem fl_RX10_23 : fL RX10 23 10 12 2 true := ⟨RX10, TX10, 43, tyX10, rfl, cf10, by decide, by decide, rfl, rfl, rfl, (tin7 (List.mem_of_getElem? (i := 26) rfl)), rfl⟩
theorem fl_RX10_26 : fL RX10 26 10 13 2 true := ⟨RX10, TX10, 43, tyX10, rfl, cf10, by decide, by decide, rfl, rfl, rfl, (tin7 (List.mem_of_getElem? (i := 27) rfl)), rfl⟩
theorem fl_RX10_29 : fL RX10 29 10 14 2 true := ⟨RX10, TX10, 43, tyX10, rfl, cf10, by decide, by decide, rfl, rfl, rfl, (tin7 (List.mem_of_getElem? (i := 28) rfl)), rfl⟩
theorem fl_RX10_34 : fL RX10 34 10 15 2 true := ⟨RX10, TX10, 43, tyX10, rfl, cf10, by decide, by decide, rfl, rfl, rfl, (tin7 (List.mem_of_getElem? (i := 29) rfl)), rfl⟩
theorem fl_RX10_37 : fL RX10 37 10 16 2 true := ⟨RX10, TX10, 43, tyX10, rfl, cf10, by decide, by decide, rfl, rfl, rfl, (tin7 (List.mem_of_getElem? (i := 30) rfl)), rfl⟩
theorem fl_RX10_40 : fL RX10 40 10 17 2 true := ⟨RX10, TX10, 43, tyX10, rfl, cf10, by decide, by decide, rfl, rfl, rfl, (tin7 (List.mem_of_getElem? (i := 31) rfl)), rfl⟩
theorem fl_RX10_43 : fL RX10 43 10 18 2 true := ⟨RX10, TX10, 43, tyX10, rfl, cf10, by decide, by decide, rfl, rfl, rfl, (tin7 (List.mem_of_getElem? (i := 32) rfl)), rfl⟩
theorem fl_RX10_46 : fL RX10 46 10 19 2 true := ⟨RX10, TX10, 43, tyX10, rfl, cf10, by decide, by decide, rfl, rfl, rfl, (tin7 (List.mem_of_getElem? (i := 33) rfl)), rfl⟩
theorem fl_RX10_49 : fL RX10 49 10 20 2 true := ⟨RX10, TX10, 43, tyX10, rfl, cf10, by decide, by decide, rfl, rfl, rfl, (tin7 (List.mem_of_getElem? (i := 34) rfl)), rfl⟩
theorem fl_RX10_52 : fL RX10 52 10 21 2 true := ⟨RX10, TX10, 43, tyX10, rfl, cf10, by decide, by decide, rfl, rfl, rfl, (tin7 (List.mem_of_getElem? (i := 35) rfl)), rfl⟩
theorem fl_RX10_55 : fL RX10 55 10 22 2 true := ⟨RX10, TX10, 43, tyX10, rfl, cf10, by decide, by decide, rfl, rfl, rfl, (tin7 (List.mem_of_getElem? (i := 36) rfl)), rfl⟩
theorem fl_RX10_58 : fL RX10 58 10 24 2 true := ⟨RX10, TX10, 43, tyX10, rfl, cf10, by decide, by decide, rfl, rfl, rfl, (tin7 (List.mem_of_getElem? (i := 38) rfl)), rfl⟩
theorem fl_RX10_61 : fL RX10 61 10 26 2 true := ⟨RX10, TX10, 43, tyX10, rfl, cf10, by decide, by decide, rfl, rfl, rfl, (tin7 (List.mem_of_getElem? (i := 40) rfl)), rfl⟩
theorem fl_RX10_64 : fL RX10 64 10 27 2 true := ⟨RX10, TX10, 43, tyX10, rfl, cf10, by decide, by decide, rfl, rfl, rfl, (tin7 (List.mem_of_getElem? (i := 41) rfl)), rfl⟩
theorem fl_RX10_67 : fL RX10 67 10 28 2 true := ⟨RX10, TX10, 43, tyX10, rfl, cf10, by decide, by decide, rfl, rfl, rfl, (tin7 (List.mem_of_getElem? (i := 42) rfl)), rfl⟩
theorem fl_RX10_70 : fL RX10 70 10 29 2 true := ⟨RX10, TX10, 43, tyX10, rfl, cf10, by decide, by decide, rfl, rfl, rfl, (tin7 (List.mem_of_getElem? (i := 43) rfl)), rfl⟩
theorem fl_RX10_73 : fL RX10 73 10 37 2 true := ⟨RX10, TX10, 43, tyX10, rfl, cf10, by decide, by decide, rfl, rfl, rfl, (tin7 (List.mem_of_getElem? (i := 51) rfl)), rfl⟩
theorem fl_RX10_76 : fL RX10 76 10 40 2 true := ⟨RX10, TX10, 43, tyX10, rfl, cf10, by decide, by decide, rfl, rfl, rfl, (tin7 (List.mem_of_getElem? (i := 54) rfl)), rfl⟩
theorem fl_RX10_79 : fL RX10 79 10 41 2 true := ⟨RX10, TX10, 43, tyX10, rfl, cf10, by decide, by decide, rfl, rfl, rfl, (tin7 (List.mem_of_getElem? (i := 55) rfl)), rfl⟩
theorem fl_RX10_88 : fL RX10 88 10 0 0 false := ⟨RX10, TX10, 43, tyX10, rfl, cf10, by decide, by decide, rfl, rfl, rfl, (tin7 (List.mem_of_getElem? (i := 14) rfl)), rfl⟩
theorem fl_RX10_91 : fL RX10 91 10 1 0 false := ⟨RX10, TX10, 43, tyX10, rfl, cf10, by decide, by decide, rfl, rfl, rfl, (tin7 (List.mem_of_getElem? (i := 15) rfl)), rfl⟩
theorem fl_RX10_94 : fL RX10 94 10 2 0 false := ⟨RX10, TX10, 43, tyX10, rfl, cf10, by decide, by decide, rfl, rfl, rfl, (tin7 (List.mem_of_getElem? (i := 16) rfl)), rfl⟩
theorem fl_RX10_97 : fL RX10 97 10 4 0 false := ⟨RX10, TX10, 43, tyX10, rfl, cf10, by decide, by decide, rfl, rfl, rfl, (tin7 (List.mem_of_getElem? (i := 18) rfl)), rfl⟩
theorem fl_RX10_104 : fL RX10 104 10 5 0 false := ⟨RX10, TX10, 43, tyX10, rfl, cf10, by decide, by decide, rfl, rfl, rfl, (tin7 (List.mem_of_getElem? (i := 19) rfl)), rfl⟩
theorem fl_RX10_107 : fL RX10 107 10 6 0 false := ⟨RX10, TX10, 43, tyX10, rfl, cf10, by decide, by decide, rfl, rfl, rfl, (tin7 (List.mem_of_getElem? (i := 20) rfl)), rfl⟩
theorem fl_RX10_144 : fL RX10 144 10 7 0 false := ⟨RX10, TX10, 43, tyX10, rfl, cf10, by decide, by decide, rfl, rfl, rfl, (tin7 (List.mem_of_getElem? (i := 21) rfl)), rfl⟩
theorem fl_RX10_147 : fL RX10 147 10 8 0 false := ⟨RX10, TX10, 43, tyX10, rfl, cf10, by decide, by decide, rfl, rfl, rfl, (tin7 (List.mem_of_getElem? (i := 22) rfl)), rfl⟩
theorem fl_RX10_178 : fL RX10 178 10 30 0 false := ⟨RX10, TX10, 43, tyX10, rfl, cf10, by decide, by decide, rfl, rfl, rfl, (tin7 (List.mem_of_getElem? (i := 44) rfl)), rfl⟩
theorem fl_RX10_181 : fL RX10 181 10 31 0 false := ⟨RX10, TX10, 43, tyX10, rfl, cf10, by decide, by decide, rfl, rfl, rfl, (tin7 (List.mem_of_getElem? (i := 45) rfl)), rfl⟩
theorem fl_RX10_184 : fL RX10 184 10 32 0 false := ⟨RX10, TX10, 43, tyX10, rfl, cf10, by decide, by decide, rfl, rfl, rfl, (tin7 (List.mem_of_getElem? (i := 46) rfl)), rfl⟩
theorem fl_RX10_187 : fL RX10 187 10 33 0 false := ⟨RX10, TX10, 43, tyX10, rfl, cf10, by decide, by decide, rfl, rfl, rfl, (tin7 (List.mem_of_getElem? (i := 47) rfl)), rfl⟩
theorem fl_RX10_190 : fL RX10 190 10 23 0 false := ⟨RX10, TX10, 43, tyX10, rfl, cf10, by decide, by decide, rfl, rfl, rfl, (tin7 (List.mem_of_getElem? (i := 37) rfl)), rfl⟩
theorem fl_RX10_257 : fL RX10 257 10 25 0 false := ⟨RX10, TX10, 43, tyX10, rfl, cf10, by decide, by decide, rfl, rfl, rfl, (tin7 (List.mem_of_getElem? (i := 39) rfl)), rfl⟩
theorem fl_RX10_305 : fL RX10 305 10 35 0 false := ⟨RX10, TX10, 43, tyX10, rfl, cf10, by decide, by decide, rfl, rfl, rfl, (tin7 (List.mem_of_getElem? (i := 49) rfl)), rfl⟩
theorem fl_RX10_315 : fL RX10 315 10 36 0 false := ⟨RX10, TX10, 43, tyX10, rfl, cf10, by decide, by decide, rfl, rfl, rfl, (tin7 (List.mem_of_getElem? (i := 50) rfl)), rfl⟩
theorem fl_RX10_343 : fL RX10 343 10 38 0 false := ⟨RX10, TX10, 43, tyX10, rfl, cf10, by decide, by decide, rfl, rfl, rfl, (tin7 (List.mem_of_getElem? (i := 52) rfl)), rfl⟩
theorem fl_RX10_346 : fL RX10 346 10 39 1 false := ⟨RX10, TX10, 43, tyX10, rfl, cf10, by decide, by decide, rfl, rfl, rfl, (tin7 (List.mem_of_getElem? (i := 53) rfl)), rfl⟩
theorem fl_RX10_376 : fL RX10 376 10 42 0 false := ⟨RX10, TX10, 43, tyX10, rfl, cf10, by decide, by decide, rfl, rfl, rfl, (tin7 (List.mem_of_getElem? (i := 56) rfl)), rfl⟩
theorem fl_RX10_387 : fL RX10 387 10 34 0 false := ⟨RX10, TX10, 43, tyX10, rfl, cf10, by decide, by decide, rfl, rfl, rfl, (tin7 (List.mem_of_getElem? (i := 48) rfl)), rfl⟩
theorem ml_RX9_11 : mN RX9 11 KX7_init := ⟨"FieldStones", (tin1 (List.mem_of_getElem? (i := 37) rfl))⟩
theorem ml_RX9_18 : mN RX9 18 KX6_init := ⟨"FieldStones", (tin1 (List.mem_of_getElem? (i := 74) rfl))⟩
theorem ml_RX9_25 : mN RX9 25 KX5_init := ⟨"FieldStones", (tin1 (List.mem_of_getElem? (i := 105) rfl))⟩
theorem ml_RX9_32 : mN RX9 32 KX0_init := ⟨"FieldStones", (tin1 (List.mem_of_getElem? (i := 129) rfl))⟩
theorem ml_RX9_39 : mN RX9 39 KX2_init := ⟨"FieldStones", (tin1 (List.mem_of_getElem? (i := 155) rfl))⟩
theorem ml_RX9_46 : mL RX9 46 KX3_init := (tin1 (List.mem_of_getElem? (i := 239) rfl))
theorem ml_RX9_56 : mN RX9 56 KX8_init := ⟨"FieldStones", (tin2 (List.mem_of_getElem? (i := 97) rfl))⟩
theorem ml_RX9_66 : mN RX9 66 KX1_init := ⟨"FieldStones", (tin2 (List.mem_of_getElem? (i := 100) rfl))⟩
theorem ml_RX9_76 : mN RX9 76 KX4_init := ⟨"FieldStones", (tin2 (List.mem_of_getElem? (i := 119) rfl))⟩
theorem ml_RX9_81 : mL RX9 81 KX7_push := (tin2 (List.mem_of_getElem? (i := 173) rfl))
theorem ml_RX9_85 : mL RX9 85 KX9_openText := (tin3 (List.mem_of_getElem? (i := 83) rfl))
theorem ml_RX9_89 : mL RX9 89 KX3_readField := (tin3 (List.mem_of_getElem? (i := 165) rfl))
theorem ml_RX9_93 : mL RX9 93 KX7_isFine := (tin4 (List.mem_of_getElem? (i := 44) rfl))
theorem ml_RX9_101 : mL RX9 101 KX1_forget := (tin4 (List.mem_of_getElem? (i := 45) rfl))
theorem ml_RX9_104 : mL RX9 104 KX5_forget := (tin4 (List.mem_of_getElem? (i := 49) rfl))
theorem ml_RX9_111 : mL RX9 111 KX9_needArgument := (tin3 (List.mem_of_getElem? (i := 87) rfl))
theorem ml_RX9_115 : mL RX9 115 KX4_readLaw := (tin4 (List.mem_of_getElem? (i := 60) rfl))
theorem ml_RX9_119 : mL RX9 119 KX3_swapHarm := (tin4 (List.mem_of_getElem? (i := 108) rfl))
theorem ml_RX9_123 : mL RX9 123 KX3_swapRise := (tin4 (List.mem_of_getElem? (i := 112) rfl))
theorem ml_RX9_126 : mL RX9 126 KX5_isFull := (tin4 (List.mem_of_getElem? (i := 123) rfl))
theorem ml_RX9_129 : mL RX9 129 KX6_readWork := (tin4 (List.mem_of_getElem? (i := 127) rfl))
theorem ml_RX9_133 : mL RX9 133 KX5_keepWork := (tin4 (List.mem_of_getElem? (i := 155) rfl))
theorem ml_RX9_137 : mL RX9 137 KX6_carryOut := (tin4 (List.mem_of_getElem? (i := 160) rfl))
theorem ml_RX9_147 : mL RX9 147 KX1_readBook := (tin5 (List.mem_of_getElem? (i := 59) rfl))
theorem ml_RX9_159 : mL RX9 159 KX5_takeBackWork := (tin2 (List.mem_of_getElem? (i := 189) rfl))
theorem ml_RX9_171 : mL RX9 171 KX8_howMany := (tin5 (List.mem_of_getElem? (i := 84) rfl))
theorem ml_RX9_175 : mL RX9 175 KX9_needStone := (tin5 (List.mem_of_getElem? (i := 96) rfl))
theorem ml_RX9_179 : mL RX9 179 KX8_cellOf := (tin5 (List.mem_of_getElem? (i := 116) rfl))
theorem ml_RX9_182 : mL RX9 182 KX9_column := (tin3 (List.mem_of_getElem? (i := 8) rfl))
theorem ml_RX9_185 : mL RX9 185 KX9_row := (tin3 (List.mem_of_getElem? (i := 14) rfl))
theorem ml_RX9_188 : mL RX9 188 KX8_sizeOf := (tin5 (List.mem_of_getElem? (i := 117) rfl))
theorem ml_RX9_191 : mL RX9 191 KX8_yearOf := (tin5 (List.mem_of_getElem? (i := 118) rfl))
theorem ml_RX9_194 : mL RX9 194 KX8_placeOf := (tin5 (List.mem_of_getElem? (i := 122) rfl))
theorem ml_RX9_197 : mL RX9 197 KX9_needCell := (tin5 (List.mem_of_getElem? (i := 131) rfl))
theorem ml_RX9_200 : mL RX9 200 KX9_cellAt := (tin5 (List.mem_of_getElem? (i := 151) rfl))
theorem ml_RX9_204 : mL RX9 204 KX3_soilOf := (tin5 (List.mem_of_getElem? (i := 152) rfl))
theorem ml_RX9_207 : mL RX9 207 KX8_lyingIn := (tin3 (List.mem_of_getElem? (i := 42) rfl))
theorem ml_RX9_210 : mL RX9 210 KX8_sizesIn := (tin3 (List.mem_of_getElem? (i := 21) rfl))
theorem ml_RX9_213 : mL RX9 213 KX8_isLost := (tin3 (List.mem_of_getElem? (i := 41) rfl))
theorem ml_RX9_217 : mL RX9 217 KX8_heapedIn := (tin5 (List.mem_of_getElem? (i := 153) rfl))
theorem ml_RX9_238 : mL RX9 238 KX8_harmOf := (tin5 (List.mem_of_getElem? (i := 178) rfl))
theorem ml_RX9_245 : mL RX9 245 KX8_risingIn := (tin5 (List.mem_of_getElem? (i := 186) rfl))
theorem ml_RX9_249 : mL RX9 249 KX8_clearingOf := (tin5 (List.mem_of_getElem? (i := 194) rfl))
theorem ml_RX9_253 : mL RX9 253 KX0_planStops := (tin5 (List.mem_of_getElem? (i := 205) rfl))
theorem ml_RX9_257 : mL RX9 257 KX0_answerTo := (tin5 (List.mem_of_getElem? (i := 238) rfl))
theorem ml_RX9_261 : mL RX9 261 KX0_planWay := (tin6 (List.mem_of_getElem? (i := 9) rfl))
theorem ml_RX9_264 : mL RX9 264 KX0_planHeaps := (tin6 (List.mem_of_getElem? (i := 24) rfl))
theorem ml_RX9_267 : mL RX9 267 KX0_planLine := (tin6 (List.mem_of_getElem? (i := 62) rfl))
theorem ml_RX9_270 : mL RX9 270 KX0_planFirst := (tin6 (List.mem_of_getElem? (i := 80) rfl))
theorem ml_RX9_273 : mL RX9 273 KX8_clearingOfAll := (tin6 (List.mem_of_getElem? (i := 100) rfl))
theorem ml_RX9_276 : mL RX9 276 KX0_planMix := (tin6 (List.mem_of_getElem? (i := 101) rfl))
theorem ml_RX9_280 : mL RX9 280 KX9_isLimit := (tin6 (List.mem_of_getElem? (i := 113) rfl))
theorem ml_RX9_283 : mL RX9 283 KX2_yearOfEnough := (tin6 (List.mem_of_getElem? (i := 116) rfl))
theorem ml_RX9_287 : mL RX9 287 KX2_leftBehind := (tin6 (List.mem_of_getElem? (i := 150) rfl))
theorem ml_RX9_290 : mL RX9 290 KX1_fittingSizes := (tin2 (List.mem_of_getElem? (i := 204) rfl))
theorem ml_RX9_294 : mL RX9 294 KX9_isFrost := (tin6 (List.mem_of_getElem? (i := 161) rfl))
theorem ml_RX9_298 : mL RX9 298 KX2_harmOfFrost := (tin6 (List.mem_of_getElem? (i := 164) rfl))
theorem ml_RX9_302 : mL RX9 302 KX2_passFrost := (tin6 (List.mem_of_getElem? (i := 181) rfl))
theorem ml_RX9_306 : mL RX9 306 KX2_howMany := (tin6 (List.mem_of_getElem? (i := 185) rfl))
theorem ml_RX9_309 : mL RX9 309 KX2_allSizes := (tin6 (List.mem_of_getElem? (i := 189) rfl))
theorem ml_RX9_312 : mL RX9 312 KJ9_min_7cf53 := (tin5 (List.mem_of_getElem? (i := 34) rfl))
theorem ml_RX9_317 : mL RX9 317 KJ9_max_7cf53 := (tin5 (List.mem_of_getElem? (i := 35) rfl))
theorem ml_RX9_320 : mL RX9 320 KX8_largest := (tin6 (List.mem_of_getElem? (i := 211) rfl))
theorem ml_RX9_323 : mL RX9 323 KX8_nearest := (tin6 (List.mem_of_getElem? (i := 215) rfl))
theorem ml_RX9_326 : mL RX9 326 KX8_liftable := (tin6 (List.mem_of_getElem? (i := 226) rfl))
theorem ml_RX9_330 : mL RX9 330 KX8_liftMinutes := (tin6 (List.mem_of_getElem? (i := 227) rfl))
theorem ml_RX9_334 : mL RX9 334 KX3_hasCell := (tin3 (List.mem_of_getElem? (i := 34) rfl))
theorem ml_RX9_337 : mL RX9 337 KX5_keepImage := (tin3 (List.mem_of_getElem? (i := 50) rfl))
theorem ml_RX9_344 : mL RX9 344 KX5_takeBackImage := (tin3 (List.mem_of_getElem? (i := 63) rfl))
theorem ml_RX9_376 : mL RX9 376 KX7_open := (tin3 (List.mem_of_getElem? (i := 158) rfl))
theorem ml_RX9_379 : mL RX9 379 KJ9_abs_0f7a4 := (tin3 (List.mem_of_getElem? (i := 11) rfl))
theorem ml_RX0_28 : mL RX0 28 KX0_settle := (tin5 (List.mem_of_getElem? (i := 209) rfl))
theorem ml_RX0_32 : mL RX0 32 KX0_countLiftedIn := (tin5 (List.mem_of_getElem? (i := 213) rfl))
theorem ml_RX0_42 : mL RX0 42 KJ6_bitCount_0f7a4 := (tin5 (List.mem_of_getElem? (i := 223) rfl))
theorem ml_RX0_54 : mL RX0 54 KX0_carriedCells := (tin5 (List.mem_of_getElem? (i := 229) rfl))
theorem ml_RX0_57 : mL RX0 57 KJ7_fill_53178 := (tin5 (List.mem_of_getElem? (i := 217) rfl))
theorem ml_RX0_68 : mL RX0 68 KX8_cellOf := (tin5 (List.mem_of_getElem? (i := 218) rfl))
theorem ml_RX0_71 : mL RX0 71 KX8_isAsked := (tin5 (List.mem_of_getElem? (i := 219) rfl))
theorem ml_RX0_75 : mN RX0 75 KX9_row := ⟨"FieldStones", (tin5 (List.mem_of_getElem? (i := 220) rfl))⟩
theorem ml_RX0_78 : mL RX0 78 KX8_sizeOf := (tin5 (List.mem_of_getElem? (i := 221) rfl))
theorem ml_RX0_84 : mN RX0 84 KX9_column := ⟨"FieldStones", (tin5 (List.mem_of_getElem? (i := 222) rfl))⟩
theorem ml_RX0_87 : mL RX0 87 KX0_cellsToStop := (tin5 (List.mem_of_getElem? (i := 233) rfl))
theorem ml_RX0_91 : mL RX0 91 KJ9_abs_0f7a4 := (tin5 (List.mem_of_getElem? (i := 236) rfl))
theorem ml_RX0_96 : mL RX0 96 KJ9_min_7cf53 := (tin5 (List.mem_of_getElem? (i := 237) rfl))
theorem ml_RX0_99 : mL RX0 99 KX0_rowsAsked := (tin6 (List.mem_of_getElem? (i := 13) rfl))
theorem ml_RX0_108 : mL RX0 108 KX0_measureCarries := (tin6 (List.mem_of_getElem? (i := 28) rfl))
theorem ml_RX0_112 : mL RX0 112 KX0_carriedBy := (tin6 (List.mem_of_getElem? (i := 37) rfl))
theorem ml_RX0_115 : mL RX0 115 KX0_isHeapable := (tin6 (List.mem_of_getElem? (i := 41) rfl))
theorem ml_RX0_118 : mL RX0 118 KX3_soilOf := (tin6 (List.mem_of_getElem? (i := 46) rfl))
theorem ml_RX0_121 : mL RX0 121 KX0_tryHeaps := (tin6 (List.mem_of_getElem? (i := 47) rfl))
theorem ml_RX0_125 : mL RX0 125 KX0_tryPairs := (tin6 (List.mem_of_getElem? (i := 51) rfl))
theorem ml_RX0_129 : mL RX0 129 KX3_hasCell := (tin6 (List.mem_of_getElem? (i := 44) rfl))
theorem ml_RX0_132 : mL RX0 132 KX8_isLost := (tin6 (List.mem_of_getElem? (i := 45) rfl))
theorem ml_RX0_138 : mL RX0 138 KX0_measureCarry := (tin6 (List.mem_of_getElem? (i := 32) rfl))
theorem ml_RX0_142 : mN RX0 142 KX9_far := ⟨"FieldStones", (tin6 (List.mem_of_getElem? (i := 36) rfl))⟩
theorem ml_RX0_147 : mL RX0 147 KX8_clearingOfAll := (tin6 (List.mem_of_getElem? (i := 67) rfl))
theorem ml_RX0_151 : mL RX0 151 KX8_harmOfAll := (tin6 (List.mem_of_getElem? (i := 72) rfl))
theorem ml_RX0_154 : mL RX0 154 KX8_lyingIn := (tin6 (List.mem_of_getElem? (i := 84) rfl))
theorem ml_RX0_157 : mL RX0 157 KX8_clearingOfCell := (tin6 (List.mem_of_getElem? (i := 85) rfl))
theorem ml_RX0_160 : mL RX0 160 KX0_spendOn := (tin6 (List.mem_of_getElem? (i := 89) rfl))
theorem ml_RX0_164 : mN RX0 164 KX9_dividedUpward := ⟨"FieldStones", (tin6 (List.mem_of_getElem? (i := 105) rfl))⟩
theorem ml_RX1_25 : mL RX1 25 KX7_isFine := (tin5 (List.mem_of_getElem? (i := 63) rfl))
theorem ml_RX1_31 : mL RX1 31 KX7_next := (tin5 (List.mem_of_getElem? (i := 64) rfl))
theorem ml_RX1_35 : mL RX1 35 KX1_readLine := (tin5 (List.mem_of_getElem? (i := 65) rfl))
theorem ml_RX1_44 : mL RX1 44 KX7_readNumber := (tin5 (List.mem_of_getElem? (i := 69) rfl))
theorem ml_RX1_51 : mL RX1 51 KX7_fail := (tin5 (List.mem_of_getElem? (i := 70) rfl))
theorem ml_RX1_58 : mN RX1 58 KX9_cellAt := ⟨"FieldStones", (tin5 (List.mem_of_getElem? (i := 71) rfl))⟩
theorem ml_RX1_61 : mL RX1 61 KX1_isTold := (tin5 (List.mem_of_getElem? (i := 72) rfl))
theorem ml_RX1_65 : mL RX1 65 KX7_readSign := (tin5 (List.mem_of_getElem? (i := 76) rfl))
theorem ml_RX1_69 : mL RX1 69 KX1_isFitting := (tin2 (List.mem_of_getElem? (i := 208) rfl))
theorem ml_RX1_73 : mL RX1 73 KJ7_fill_53178 := (tin2 (List.mem_of_getElem? (i := 212) rfl))
theorem ml_RX1_83 : mL RX1 83 KX8_isAsked := (tin2 (List.mem_of_getElem? (i := 213) rfl))
theorem ml_RX1_86 : mL RX1 86 KX8_sizeOf := (tin2 (List.mem_of_getElem? (i := 236) rfl))
theorem ml_RX1_90 : mL RX1 90 KX8_cellOf := (tin3 (List.mem_of_getElem? (i := 0) rfl))
theorem ml_RX1_93 : mL RX1 93 KX1_nearestLine := (tin3 (List.mem_of_getElem? (i := 1) rfl))
theorem ml_RX1_96 : mN RX1 96 KX9_far := ⟨"FieldStones", (tin3 (List.mem_of_getElem? (i := 5) rfl))⟩
theorem ml_RX2_11 : mN RX2 11 KX8_init := ⟨"FieldStones", (tin1 (List.mem_of_getElem? (i := 161) rfl))⟩
theorem ml_RX2_22 : mL RX2 22 KX8_writeTo := (tin6 (List.mem_of_getElem? (i := 124) rfl))
theorem ml_RX2_26 : mL RX2 26 KX8_readFrom := (tin6 (List.mem_of_getElem? (i := 125) rfl))
theorem ml_RX2_29 : mL RX2 29 KX2_begin := (tin6 (List.mem_of_getElem? (i := 120) rfl))
theorem ml_RX2_33 : mL RX2 33 KX2_spendYear := (tin6 (List.mem_of_getElem? (i := 126) rfl))
theorem ml_RX2_37 : mL RX2 37 KX8_howManyAsked := (tin6 (List.mem_of_getElem? (i := 138) rfl))
theorem ml_RX2_41 : mL RX2 41 KX8_raiseStones := (tin6 (List.mem_of_getElem? (i := 142) rfl))
theorem ml_RX2_49 : mL RX2 49 KX8_isAsked := (tin6 (List.mem_of_getElem? (i := 130) rfl))
theorem ml_RX2_53 : mL RX2 53 KX8_sizeOf := (tin6 (List.mem_of_getElem? (i := 131) rfl))
theorem ml_RX2_57 : mL RX2 57 KX2_clearWithin := (tin6 (List.mem_of_getElem? (i := 132) rfl))
theorem ml_RX2_61 : mL RX2 61 KX8_clearingOf := (tin6 (List.mem_of_getElem? (i := 136) rfl))
theorem ml_RX2_65 : mL RX2 65 KX8_takeUp := (tin6 (List.mem_of_getElem? (i := 137) rfl))
theorem ml_RX2_72 : mL RX2 72 KX8_harmOfAll := (tin6 (List.mem_of_getElem? (i := 168) rfl))
theorem ml_RX2_75 : mL RX2 75 KX2_passFrostyWinter := (tin6 (List.mem_of_getElem? (i := 169) rfl))
theorem ml_RX2_78 : mL RX2 78 KX3_hasCell := (tin6 (List.mem_of_getElem? (i := 173) rfl))
theorem ml_RX2_83 : mL RX2 83 KX8_isLost := (tin6 (List.mem_of_getElem? (i := 174) rfl))
theorem ml_RX2_86 : mL RX2 86 KX2_draw := (tin6 (List.mem_of_getElem? (i := 175) rfl))
theorem ml_RX2_89 : mL RX2 89 KX8_addStone := (tin6 (List.mem_of_getElem? (i := 180) rfl))
theorem ml_RX2_93 : mL RX2 93 KX8_sizesAsked := (tin6 (List.mem_of_getElem? (i := 193) rfl))
theorem ml_RX3_17 : mN RX3 17 KX4_init := ⟨"FieldStones", (tin2 (List.mem_of_getElem? (i := 5) rfl))⟩
theorem ml_RX3_25 : mL RX3 25 KX3_forget := (tin2 (List.mem_of_getElem? (i := 22) rfl))
theorem ml_RX3_35 : mL RX3 35 KJ7_fill_53178 := (tin2 (List.mem_of_getElem? (i := 26) rfl))
theorem ml_RX3_62 : mL RX3 62 KX4_becomeTwiceSize := (tin2 (List.mem_of_getElem? (i := 29) rfl))
theorem ml_RX3_65 : mL RX3 65 KX4_becomeNothing := (tin2 (List.mem_of_getElem? (i := 37) rfl))
theorem ml_RX3_68 : mN RX3 68 KX9_isCell := ⟨"FieldStones", (tin3 (List.mem_of_getElem? (i := 38) rfl))⟩
theorem ml_RX3_72 : mN RX3 72 KX9_column := ⟨"FieldStones", (tin3 (List.mem_of_getElem? (i := 39) rfl))⟩
theorem ml_RX3_76 : mN RX3 76 KX9_row := ⟨"FieldStones", (tin3 (List.mem_of_getElem? (i := 40) rfl))⟩
theorem ml_RX3_79 : mL RX3 79 KX8_forget := (tin3 (List.mem_of_getElem? (i := 169) rfl))
theorem ml_RX3_82 : mL RX3 82 KX7_isFine := (tin3 (List.mem_of_getElem? (i := 174) rfl))
theorem ml_RX3_88 : mL RX3 88 KX7_next := (tin3 (List.mem_of_getElem? (i := 178) rfl))
theorem ml_RX3_92 : mL RX3 92 KX3_readClause := (tin3 (List.mem_of_getElem? (i := 186) rfl))
theorem ml_RX3_98 : mL RX3 98 KX7_readWord := (tin3 (List.mem_of_getElem? (i := 191) rfl))
theorem ml_RX3_108 : mL RX3 108 KX7_fail := (tin4 (List.mem_of_getElem? (i := 16) rfl))
theorem ml_RX3_112 : mL RX3 112 KX3_readNumbers := (tin4 (List.mem_of_getElem? (i := 17) rfl))
theorem ml_RX3_115 : mL RX3 115 KX7_readSign := (tin4 (List.mem_of_getElem? (i := 40) rfl))
theorem ml_RX3_119 : mL RX3 119 KX7_readNumber := (tin4 (List.mem_of_getElem? (i := 21) rfl))
theorem ml_RX3_123 : mL RX3 123 KX3_readCell := (tin4 (List.mem_of_getElem? (i := 29) rfl))
theorem ml_RX3_127 : mL RX3 127 KX8_addStone := (tin4 (List.mem_of_getElem? (i := 36) rfl))
theorem ml_RX3_130 : mN RX3 130 KX9_cellAt := ⟨"FieldStones", (tin4 (List.mem_of_getElem? (i := 33) rfl))⟩
theorem ml_RX4_25 : mL RX4 25 KX4_put := (tin2 (List.mem_of_getElem? (i := 33) rfl))
theorem ml_RX4_29 : mL RX4 29 KX4_readSum := (tin4 (List.mem_of_getElem? (i := 64) rfl))
theorem ml_RX4_33 : mL RX4 33 KX7_next := (tin4 (List.mem_of_getElem? (i := 76) rfl))
theorem ml_RX4_42 : mL RX4 42 KX7_fail := (tin4 (List.mem_of_getElem? (i := 88) rfl))
theorem ml_RX4_46 : mL RX4 46 KX4_readProduct := (tin4 (List.mem_of_getElem? (i := 68) rfl))
theorem ml_RX4_49 : mL RX4 49 KX7_isNext := (tin4 (List.mem_of_getElem? (i := 79) rfl))
theorem ml_RX4_53 : mL RX4 53 KX7_skipSign := (tin4 (List.mem_of_getElem? (i := 89) rfl))
theorem ml_RX4_56 : mL RX4 56 KX4_readPart := (tin4 (List.mem_of_getElem? (i := 72) rfl))
theorem ml_RX4_59 : mL RX4 59 KX4_isProductSign := (tin4 (List.mem_of_getElem? (i := 105) rfl))
theorem ml_RX4_63 : mL RX4 63 KX7_isDigit := (tin4 (List.mem_of_getElem? (i := 77) rfl))
theorem ml_RX4_66 : mL RX4 66 KX7_readNumber := (tin4 (List.mem_of_getElem? (i := 78) rfl))
theorem ml_RX4_70 : mL RX4 70 KX4_readBracket := (tin4 (List.mem_of_getElem? (i := 84) rfl))
theorem ml_RX4_73 : mL RX4 73 KX4_readName := (tin4 (List.mem_of_getElem? (i := 94) rfl))
theorem ml_RX4_76 : mL RX4 76 KX7_readSign := (tin4 (List.mem_of_getElem? (i := 93) rfl))
theorem ml_RX4_81 : mL RX4 81 KX7_readWord := (tin4 (List.mem_of_getElem? (i := 99) rfl))
theorem ml_RX4_88 : mL RX4 88 KX4_readChoice := (tin4 (List.mem_of_getElem? (i := 100) rfl))
theorem ml_RX4_91 : mL RX4 91 KX7_isFine := (tin4 (List.mem_of_getElem? (i := 104) rfl))
theorem ml_RX4_95 : mN RX4 95 KX9_column := ⟨"FieldStones", (tin5 (List.mem_of_getElem? (i := 22) rfl))⟩
theorem ml_RX4_99 : mN RX4 99 KX9_row := ⟨"FieldStones", (tin5 (List.mem_of_getElem? (i := 23) rfl))⟩
theorem ml_RX4_102 : mL RX4 102 KX4_nameAt := (tin5 (List.mem_of_getElem? (i := 24) rfl))
theorem ml_RX4_105 : mL RX4 105 KX4_joined := (tin5 (List.mem_of_getElem? (i := 28) rfl))
theorem ml_RX5_28 : mL RX5 28 KX5_isFull := (tin4 (List.mem_of_getElem? (i := 159) rfl))
theorem ml_RX5_32 : mL RX5 32 KX8_writeTo := (tin3 (List.mem_of_getElem? (i := 55) rfl))
theorem ml_RX5_36 : mL RX5 36 KX8_readFrom := (tin2 (List.mem_of_getElem? (i := 193) rfl))
theorem ml_RX6_28 : mL RX6 28 KX6_readSteps := (tin4 (List.mem_of_getElem? (i := 131) rfl))
theorem ml_RX6_34 : mL RX6 34 KX7_isFine := (tin4 (List.mem_of_getElem? (i := 135) rfl))
theorem ml_RX6_38 : mL RX6 38 KX7_next := (tin4 (List.mem_of_getElem? (i := 136) rfl))
theorem ml_RX6_42 : mL RX6 42 KX6_readStep := (tin4 (List.mem_of_getElem? (i := 137) rfl))
theorem ml_RX6_45 : mL RX6 45 KX7_readSign := (tin4 (List.mem_of_getElem? (i := 153) rfl))
theorem ml_RX6_51 : mL RX6 51 KX7_readWord := (tin4 (List.mem_of_getElem? (i := 142) rfl))
theorem ml_RX6_55 : mL RX6 55 KX6_readAgain := (tin4 (List.mem_of_getElem? (i := 143) rfl))
theorem ml_RX6_58 : mL RX6 58 KX3_readCell := (tin4 (List.mem_of_getElem? (i := 154) rfl))
theorem ml_RX6_64 : mL RX6 64 KX6_put := (tin4 (List.mem_of_getElem? (i := 149) rfl))
theorem ml_RX6_71 : mL RX6 71 KX7_fail := (tin4 (List.mem_of_getElem? (i := 147) rfl))
theorem ml_RX6_74 : mL RX6 74 KX7_readNumber := (tin4 (List.mem_of_getElem? (i := 148) rfl))
theorem ml_RX6_84 : mL RX6 84 KX6_endLoop := (tin4 (List.mem_of_getElem? (i := 164) rfl))
theorem ml_RX6_88 : mL RX6 88 KX6_beginLoop := (tin4 (List.mem_of_getElem? (i := 168) rfl))
theorem ml_RX6_91 : mL RX6 91 KX6_carryOutStep := (tin4 (List.mem_of_getElem? (i := 172) rfl))
theorem ml_RX6_95 : mL RX6 95 KX6_passStep := (tin5 (List.mem_of_getElem? (i := 48) rfl))
theorem ml_RX6_99 : mL RX6 99 KX8_driveTo := (tin4 (List.mem_of_getElem? (i := 176) rfl))
theorem ml_RX6_105 : mL RX6 105 KX8_liftFrom := (tin4 (List.mem_of_getElem? (i := 181) rfl))
theorem ml_RX6_108 : mL RX6 108 KX8_barUp := (tin4 (List.mem_of_getElem? (i := 217) rfl))
theorem ml_RX6_112 : mL RX6 112 KX8_bringToWall := (tin4 (List.mem_of_getElem? (i := 221) rfl))
theorem ml_RX6_115 : mL RX6 115 KX8_pileUp := (tin4 (List.mem_of_getElem? (i := 232) rfl))
theorem ml_RX6_118 : mL RX6 118 KX8_giveUp := (tin4 (List.mem_of_getElem? (i := 236) rfl))
theorem ml_RX6_122 : mL RX6 122 KX8_passWinter := (tin5 (List.mem_of_getElem? (i := 0) rfl))
theorem ml_RX7_22 : mL RX7 22 KX7_pushNumber := (tin2 (List.mem_of_getElem? (i := 177) rfl))
theorem ml_RX7_26 : mL RX7 26 KJ9_min_7cf53 := (tin3 (List.mem_of_getElem? (i := 162) rfl))
theorem ml_RX7_41 : mL RX7 41 KX7_byteAt := (tin3 (List.mem_of_getElem? (i := 182) rfl))
theorem ml_RX7_45 : mL RX7 45 KX7_isFine := (tin4 (List.mem_of_getElem? (i := 83) rfl))
theorem ml_RX7_49 : mL RX7 49 KX7_next := (tin3 (List.mem_of_getElem? (i := 195) rfl))
theorem ml_RX7_53 : mL RX7 53 KX7_fail := (tin4 (List.mem_of_getElem? (i := 12) rfl))
theorem ml_RX7_57 : mL RX7 57 KX7_isDigit := (tin4 (List.mem_of_getElem? (i := 25) rfl))
theorem ml_RX7_65 : mL RX7 65 KX7_indexAmong := (tin3 (List.mem_of_getElem? (i := 196) rfl))
theorem ml_RX7_69 : mL RX7 69 KJ0_length_8abf5 := (tin3 (List.mem_of_getElem? (i := 200) rfl))
theorem ml_RX7_73 : mL RX7 73 KJ0_charAt_5068e := (tin3 (List.mem_of_getElem? (i := 210) rfl))
theorem ml_RX7_77 : mL RX7 77 KX7_isWord := (tin4 (List.mem_of_getElem? (i := 8) rfl))
theorem ml_RX8_33 : mL RX8 33 KJ7_fill_53178 := (tin3 (List.mem_of_getElem? (i := 173) rfl))
theorem ml_RX8_73 : mL RX8 73 KX8_isStone := (tin2 (List.mem_of_getElem? (i := 221) rfl))
theorem ml_RX8_77 : mN RX8 77 KX9_isCell := ⟨"FieldStones", (tin2 (List.mem_of_getElem? (i := 233) rfl))⟩
theorem ml_RX8_80 : mL RX8 80 KX8_placeOf := (tin2 (List.mem_of_getElem? (i := 217) rfl))
theorem ml_RX8_84 : mL RX8 84 KX8_cellOf := (tin2 (List.mem_of_getElem? (i := 225) rfl))
theorem ml_RX8_87 : mL RX8 87 KX8_isLost := (tin2 (List.mem_of_getElem? (i := 229) rfl))
theorem ml_RX8_90 : mL RX8 90 KX8_isAsked := (tin5 (List.mem_of_getElem? (i := 8) rfl))
theorem ml_RX8_93 : mL RX8 93 KX8_sizeOf := (tin3 (List.mem_of_getElem? (i := 29) rfl))
theorem ml_RX8_96 : mL RX8 96 KX8_liesIn := (tin3 (List.mem_of_getElem? (i := 25) rfl))
theorem ml_RX8_100 : mN RX8 100 KX9_far := ⟨"FieldStones", (tin4 (List.mem_of_getElem? (i := 180) rfl))⟩
theorem ml_RX8_118 : mL RX8 118 KX8_holds := (tin4 (List.mem_of_getElem? (i := 203) rfl))
theorem ml_RX8_125 : mL RX8 125 KJ13_bitCount_95d88 := (tin4 (List.mem_of_getElem? (i := 193) rfl))
theorem ml_RX8_131 : mL RX8 131 KX8_sizesOf := (tin4 (List.mem_of_getElem? (i := 199) rfl))
theorem ml_RX8_137 : mN RX8 137 KX9_dividedUpward := ⟨"FieldStones", (tin4 (List.mem_of_getElem? (i := 206) rfl))⟩
theorem ml_RX8_140 : mL RX8 140 KX8_takeUp := (tin4 (List.mem_of_getElem? (i := 213) rfl))
theorem ml_RX8_144 : mL RX8 144 KX8_liftable := (tin4 (List.mem_of_getElem? (i := 185) rfl))
theorem ml_RX8_148 : mL RX8 148 KX8_liftMinutes := (tin4 (List.mem_of_getElem? (i := 189) rfl))
theorem ml_RX8_152 : mL RX8 152 KX8_putOnSledge := (tin4 (List.mem_of_getElem? (i := 209) rfl))
theorem ml_RX8_159 : mN RX8 159 KX9_column := ⟨"FieldStones", (tin4 (List.mem_of_getElem? (i := 225) rfl))⟩
theorem ml_RX8_162 : mL RX8 162 KX8_unload := (tin4 (List.mem_of_getElem? (i := 226) rfl))
theorem ml_RX8_165 : mN RX8 165 KX9_row := ⟨"FieldStones", (tin4 (List.mem_of_getElem? (i := 230) rfl))⟩
theorem ml_RX8_168 : mN RX8 168 KX9_cellAt := ⟨"FieldStones", (tin4 (List.mem_of_getElem? (i := 231) rfl))⟩
theorem ml_RX8_171 : mL RX8 171 KX8_harmOfAll := (tin5 (List.mem_of_getElem? (i := 4) rfl))
theorem ml_RX8_175 : mL RX8 175 KX3_hasCell := (tin5 (List.mem_of_getElem? (i := 38) rfl))
theorem ml_RX8_178 : mL RX8 178 KX3_soilOf := (tin5 (List.mem_of_getElem? (i := 13) rfl))
theorem ml_RX8_181 : mL RX8 181 KX8_raiseStones := (tin5 (List.mem_of_getElem? (i := 39) rfl))
theorem ml_RX8_185 : mL RX8 185 KX8_risingIn := (tin5 (List.mem_of_getElem? (i := 43) rfl))
theorem ml_RX8_189 : mL RX8 189 KX8_addStone := (tin5 (List.mem_of_getElem? (i := 47) rfl))
theorem ml_RX8_196 : mL RX8 196 KX8_lyingIn := (tin5 (List.mem_of_getElem? (i := 17) rfl))
theorem ml_RX8_199 : mL RX8 199 KX4_valueFor := (tin5 (List.mem_of_getElem? (i := 18) rfl))
theorem ml_RX8_205 : mN RX8 205 KX9_within := ⟨"FieldStones", (tin5 (List.mem_of_getElem? (i := 31) rfl))⟩
theorem ml_RX8_212 : mL RX8 212 KX8_harmOf := (tin5 (List.mem_of_getElem? (i := 9) rfl))
theorem ml_RX8_216 : mL RX8 216 KX8_clearingOf := (tin6 (List.mem_of_getElem? (i := 71) rfl))
theorem ml_RL_7 : mL RL 7 KX9_field := (tin3 (List.mem_of_getElem? (i := 79) rfl))
theorem ml_RL_15 : mL RL 15 KX9_law := (tin4 (List.mem_of_getElem? (i := 56) rfl))
theorem ml_RL_19 : mL RL 19 KX9_work := (tin4 (List.mem_of_getElem? (i := 119) rfl))
theorem ml_RL_22 : mL RL 22 KX9_book := (tin5 (List.mem_of_getElem? (i := 55) rfl))
theorem ml_RL_25 : mL RL 25 KX9_told := (tin5 (List.mem_of_getElem? (i := 80) rfl))
theorem ml_RL_28 : mL RL 28 KX9_stone := (tin5 (List.mem_of_getElem? (i := 92) rfl))
theorem ml_RL_33 : mL RL 33 KX9_cell := (tin5 (List.mem_of_getElem? (i := 127) rfl))
theorem ml_RL_39 : mL RL 39 KX9_sledge := (tin5 (List.mem_of_getElem? (i := 160) rfl))
theorem ml_RL_42 : mL RL 42 KX9_sums := (tin5 (List.mem_of_getElem? (i := 167) rfl))
theorem ml_RL_45 : mL RL 45 KX9_damage := (tin5 (List.mem_of_getElem? (i := 174) rfl))
theorem ml_RL_48 : mL RL 48 KX9_rises := (tin5 (List.mem_of_getElem? (i := 182) rfl))
theorem ml_RL_51 : mL RL 51 KX9_clear := (tin5 (List.mem_of_getElem? (i := 190) rfl))
theorem ml_RL_54 : mL RL 54 KX9_stops := (tin5 (List.mem_of_getElem? (i := 201) rfl))
theorem ml_RL_57 : mL RL 57 KX9_way := (tin6 (List.mem_of_getElem? (i := 5) rfl))
theorem ml_RL_61 : mL RL 61 KX9_heaps := (tin6 (List.mem_of_getElem? (i := 20) rfl))
theorem ml_RL_64 : mL RL 64 KX9_line := (tin6 (List.mem_of_getElem? (i := 58) rfl))
theorem ml_RL_67 : mL RL 67 KX9_first := (tin6 (List.mem_of_getElem? (i := 76) rfl))
theorem ml_RL_71 : mL RL 71 KX9_mix := (tin6 (List.mem_of_getElem? (i := 96) rfl))
theorem ml_RL_75 : mL RL 75 KX9_enough := (tin6 (List.mem_of_getElem? (i := 109) rfl))
theorem ml_RL_78 : mL RL 78 KX9_left := (tin6 (List.mem_of_getElem? (i := 146) rfl))
theorem ml_RL_81 : mL RL 81 KX9_frost := (tin6 (List.mem_of_getElem? (i := 157) rfl))
theorem ml_RL_84 : mL RL 84 KX9_span := (tin6 (List.mem_of_getElem? (i := 200) rfl))
theorem ml_RL_88 : mL RL 88 KX9_chosen := (tin6 (List.mem_of_getElem? (i := 207) rfl))
theorem ml_RL_91 : mL RL 91 KX9_lifts := (tin6 (List.mem_of_getElem? (i := 222) rfl))
theorem ml_RL_94 : mL RL 94 KX9_loads := (tin6 (List.mem_of_getElem? (i := 231) rfl))
theorem ml_RL_97 : mL RL 97 KX9_init := (tin1 (List.mem_of_getElem? (i := 29) rfl))
theorem ml_RL_100 : mL RL 100 KX10_init := (tin6 (List.mem_of_getElem? (i := 237) rfl))
theorem ml_RL_101 : mL RL 101 KX9_feed := (tin2 (List.mem_of_getElem? (i := 169) rfl))
theorem ml_RL_105 : mL RL 105 KX10_feed := (tin7 (List.mem_of_getElem? (i := 148) rfl))
theorem ml_RL_106 : mL RL 106 KL_field := (tin3 (List.mem_of_getElem? (i := 75) rfl))
theorem ml_RL_111 : mL RL 111 KX10_field := (tin7 (List.mem_of_getElem? (i := 152) rfl))
theorem ml_RL_112 : mL RL 112 KX10_thrown := (tin7 (List.mem_of_getElem? (i := 144) rfl))
theorem ml_RL_116 : mL RL 116 KL_law := (tin4 (List.mem_of_getElem? (i := 53) rfl))
theorem ml_RL_119 : mL RL 119 KX10_law := (tin7 (List.mem_of_getElem? (i := 221) rfl))
theorem ml_RL_120 : mL RL 120 KL_work := (tin4 (List.mem_of_getElem? (i := 116) rfl))
theorem ml_RL_122 : mL RL 122 KX10_work := (tin8 (List.mem_of_getElem? (i := 17) rfl))
theorem ml_RL_123 : mL RL 123 KL_book := (tin5 (List.mem_of_getElem? (i := 52) rfl))
theorem ml_RL_125 : mL RL 125 KX10_book := (tin8 (List.mem_of_getElem? (i := 119) rfl))
theorem ml_RL_126 : mL RL 126 KX9_fault := (tin2 (List.mem_of_getElem? (i := 181) rfl))
theorem ml_RL_129 : mL RL 129 KX10_fault := (tin8 (List.mem_of_getElem? (i := 123) rfl))
theorem ml_RL_130 : mL RL 130 KX9_undo := (tin2 (List.mem_of_getElem? (i := 185) rfl))
theorem ml_RL_133 : mL RL 133 KX10_undo := (tin8 (List.mem_of_getElem? (i := 115) rfl))
theorem ml_RL_134 : mL RL 134 KL_told := (tin5 (List.mem_of_getElem? (i := 77) rfl))
theorem ml_RL_136 : mL RL 136 KX10_told := (tin8 (List.mem_of_getElem? (i := 127) rfl))
theorem ml_RL_137 : mL RL 137 KL_stone := (tin5 (List.mem_of_getElem? (i := 88) rfl))
theorem ml_RL_139 : mL RL 139 KX10_stone := (tin8 (List.mem_of_getElem? (i := 134) rfl))
theorem ml_RL_140 : mL RL 140 KL_cell := (tin5 (List.mem_of_getElem? (i := 123) rfl))
theorem ml_RL_143 : mL RL 143 KX10_cell := (tin8 (List.mem_of_getElem? (i := 142) rfl))
theorem ml_RL_144 : mL RL 144 KL_sledge := (tin5 (List.mem_of_getElem? (i := 157) rfl))
theorem ml_RL_146 : mL RL 146 KX10_sledge := (tin8 (List.mem_of_getElem? (i := 149) rfl))
theorem ml_RL_147 : mL RL 147 KL_sums := (tin5 (List.mem_of_getElem? (i := 164) rfl))
theorem ml_RL_149 : mL RL 149 KX10_sums := (tin8 (List.mem_of_getElem? (i := 153) rfl))
theorem ml_RL_150 : mL RL 150 KL_damage := (tin5 (List.mem_of_getElem? (i := 171) rfl))
theorem ml_RL_152 : mL RL 152 KX10_damage := (tin8 (List.mem_of_getElem? (i := 157) rfl))
theorem ml_RL_153 : mL RL 153 KL_rises := (tin5 (List.mem_of_getElem? (i := 179) rfl))
theorem ml_RL_155 : mL RL 155 KX10_rises := (tin8 (List.mem_of_getElem? (i := 161) rfl))
theorem ml_RL_156 : mL RL 156 KL_clear := (tin5 (List.mem_of_getElem? (i := 187) rfl))
theorem ml_RL_158 : mL RL 158 KX10_clear := (tin8 (List.mem_of_getElem? (i := 165) rfl))
theorem ml_RL_159 : mL RL 159 KL_stops := (tin5 (List.mem_of_getElem? (i := 198) rfl))
theorem ml_RL_161 : mL RL 161 KX10_stops := (tin8 (List.mem_of_getElem? (i := 173) rfl))
theorem ml_RL_162 : mL RL 162 KL_way := (tin6 (List.mem_of_getElem? (i := 2) rfl))
theorem ml_RL_164 : mL RL 164 KX10_way := (tin8 (List.mem_of_getElem? (i := 187) rfl))
theorem ml_RL_165 : mL RL 165 KL_heaps := (tin6 (List.mem_of_getElem? (i := 17) rfl))
theorem ml_RL_167 : mL RL 167 KX10_heaps := (tin8 (List.mem_of_getElem? (i := 196) rfl))
theorem ml_RL_168 : mL RL 168 KL_line := (tin6 (List.mem_of_getElem? (i := 55) rfl))
theorem ml_RL_170 : mL RL 170 KX10_line := (tin8 (List.mem_of_getElem? (i := 204) rfl))
theorem ml_RL_171 : mL RL 171 KL_first := (tin6 (List.mem_of_getElem? (i := 73) rfl))
theorem ml_RL_173 : mL RL 173 KX10_first := (tin8 (List.mem_of_getElem? (i := 212) rfl))
theorem ml_RL_174 : mL RL 174 KL_mix := (tin6 (List.mem_of_getElem? (i := 93) rfl))
theorem ml_RL_177 : mL RL 177 KX10_mix := (tin8 (List.mem_of_getElem? (i := 220) rfl))
theorem ml_RL_178 : mL RL 178 KL_enough := (tin6 (List.mem_of_getElem? (i := 106) rfl))
theorem ml_RL_180 : mL RL 180 KX10_enough := (tin8 (List.mem_of_getElem? (i := 228) rfl))
theorem ml_RL_181 : mL RL 181 KL_left := (tin6 (List.mem_of_getElem? (i := 143) rfl))
theorem ml_RL_183 : mL RL 183 KX10_left := (tin8 (List.mem_of_getElem? (i := 239) rfl))
theorem ml_RL_184 : mL RL 184 KX9_fits := (tin2 (List.mem_of_getElem? (i := 200) rfl))
theorem ml_RL_187 : mL RL 187 KX10_fits := (tin9 (List.mem_of_getElem? (i := 3) rfl))
theorem ml_RL_188 : mL RL 188 KL_frost := (tin6 (List.mem_of_getElem? (i := 154) rfl))
theorem ml_RL_190 : mL RL 190 KX10_frost := (tin9 (List.mem_of_getElem? (i := 7) rfl))
theorem ml_RL_191 : mL RL 191 KL_span := (tin6 (List.mem_of_getElem? (i := 197) rfl))
theorem ml_RL_194 : mL RL 194 KX10_span := (tin9 (List.mem_of_getElem? (i := 16) rfl))
theorem ml_RL_195 : mL RL 195 KL_chosen := (tin6 (List.mem_of_getElem? (i := 204) rfl))
theorem ml_RL_197 : mL RL 197 KX10_chosen := (tin9 (List.mem_of_getElem? (i := 20) rfl))
theorem ml_RL_198 : mL RL 198 KL_lifts := (tin6 (List.mem_of_getElem? (i := 219) rfl))
theorem ml_RL_200 : mL RL 200 KX10_lifts := (tin9 (List.mem_of_getElem? (i := 28) rfl))
theorem ml_RL_201 : mL RL 201 KL_loads := (tin6 (List.mem_of_getElem? (i := 228) rfl))
theorem ml_RL_203 : mL RL 203 KX10_loads := (tin9 (List.mem_of_getElem? (i := 32) rfl))
theorem ml_RL_204 : mL RL 204 KX9_stoniest := (tin3 (List.mem_of_getElem? (i := 17) rfl))
theorem ml_RL_207 : mL RL 207 KX10_stoniest := (tin9 (List.mem_of_getElem? (i := 36) rfl))
theorem ml_RL_208 : mL RL 208 KX9_clean := (tin3 (List.mem_of_getElem? (i := 30) rfl))
theorem ml_RL_211 : mL RL 211 KX10_clean := (tin9 (List.mem_of_getElem? (i := 40) rfl))
theorem ml_RL_212 : mL RL 212 KX9_image := (tin3 (List.mem_of_getElem? (i := 46) rfl))
theorem ml_RL_215 : mL RL 215 KX10_image := (tin9 (List.mem_of_getElem? (i := 44) rfl))
theorem ml_RL_216 : mL RL 216 KX9_restore := (tin3 (List.mem_of_getElem? (i := 59) rfl))
theorem ml_RL_219 : mL RL 219 KX10_restore := (tin9 (List.mem_of_getElem? (i := 56) rfl))
theorem ml_RL_220 : mL RL 220 KX9_status := (tin3 (List.mem_of_getElem? (i := 67) rfl))
theorem ml_RL_223 : mL RL 223 KX10_status := (tin9 (List.mem_of_getElem? (i := 60) rfl))
theorem ml_RL_224 : mL RL 224 KX9_count := (tin3 (List.mem_of_getElem? (i := 71) rfl))
theorem ml_RL_227 : mL RL 227 KX10_count := (tin9 (List.mem_of_getElem? (i := 64) rfl))
theorem ml_RX10_82 : mL RX10 82 KX10_tellsNothing := (tin7 (List.mem_of_getElem? (i := 3) rfl))
theorem ml_RX10_85 : mL RX10 85 KX10_stands := (tin7 (List.mem_of_getElem? (i := 7) rfl))
theorem ml_RX10_100 : mL RX10 100 KX10_byteAt := (tin7 (List.mem_of_getElem? (i := 171) rfl))
theorem ml_RX10_110 : mL RX10 110 KX10_blanks := (tin7 (List.mem_of_getElem? (i := 167) rfl))
theorem ml_RX10_113 : mL RX10 113 KX10_isDigit := (tin7 (List.mem_of_getElem? (i := 205) rfl))
theorem ml_RX10_117 : mL RX10 117 KX10_wrong := (tin7 (List.mem_of_getElem? (i := 193) rfl))
theorem ml_RX10_122 : mL RX10 122 KX10_in := (tin7 (List.mem_of_getElem? (i := 156) rfl))
theorem ml_RX10_126 : mL RX10 126 KX10_isSmall := (tin7 (List.mem_of_getElem? (i := 187) rfl))
theorem ml_RX10_129 : mL RX10 129 KX10_wordHere := (tin7 (List.mem_of_getElem? (i := 183) rfl))
theorem ml_RX10_133 : mL RX10 133 KX10_six := (tin7 (List.mem_of_getElem? (i := 190) rfl))
theorem ml_RX10_137 : mL RX10 137 KX10_isWord := (tin7 (List.mem_of_getElem? (i := 179) rfl))
theorem ml_RX10_141 : mL RX10 141 KX10_skipWord := (tin7 (List.mem_of_getElem? (i := 197) rfl))
theorem ml_RX10_150 : mL RX10 150 KX10_number := (tin7 (List.mem_of_getElem? (i := 201) rfl))
theorem ml_RX10_154 : mL RX10 154 KX10_cellHere := (tin7 (List.mem_of_getElem? (i := 209) rfl))
theorem ml_RX10_157 : mL RX10 157 KX10_sign := (tin7 (List.mem_of_getElem? (i := 213) rfl))
theorem ml_RX10_161 : mL RX10 161 KX10_bad := (tin7 (List.mem_of_getElem? (i := 159) rfl))
theorem ml_RX10_165 : mL RX10 165 KX10_starts := (tin7 (List.mem_of_getElem? (i := 163) rfl))
theorem ml_RX10_168 : mL RX10 168 KX10_clause := (tin7 (List.mem_of_getElem? (i := 175) rfl))
theorem ml_RX10_171 : mL RX10 171 KX10_ends := (tin7 (List.mem_of_getElem? (i := 217) rfl))
theorem ml_RX10_174 : mL RX10 174 KX10_comes := (tin7 (List.mem_of_getElem? (i := 11) rfl))
theorem ml_RX10_193 : mL RX10 193 KX10_product := (tin7 (List.mem_of_getElem? (i := 229) rfl))
theorem ml_RX10_196 : mL RX10 196 KX10_takesSign := (tin8 (List.mem_of_getElem? (i := 13) rfl))
theorem ml_RX10_199 : mL RX10 199 KX10_notes := (tin8 (List.mem_of_getElem? (i := 1) rfl))
theorem ml_RX10_202 : mL RX10 202 KX10_one := (tin7 (List.mem_of_getElem? (i := 233) rfl))
theorem ml_RX10_205 : mL RX10 205 KX10_takes := (tin8 (List.mem_of_getElem? (i := 9) rfl))
theorem ml_RX10_208 : mL RX10 208 KX10_opens := (tin7 (List.mem_of_getElem? (i := 237) rfl))
theorem ml_RX10_212 : mL RX10 212 KX10_sum := (tin7 (List.mem_of_getElem? (i := 225) rfl))
theorem ml_RX10_215 : mL RX10 215 KX10_knownHere := (tin8 (List.mem_of_getElem? (i := 5) rfl))
theorem ml_RX10_218 : mL RX10 218 KX10_by := (tin8 (List.mem_of_getElem? (i := 94) rfl))
theorem ml_RX10_222 : mL RX10 222 KX10_of := (tin8 (List.mem_of_getElem? (i := 50) rfl))
theorem ml_RX10_226 : mL RX10 226 KX10_isLying := (tin8 (List.mem_of_getElem? (i := 53) rfl))
theorem ml_RX10_230 : mL RX10 230 KX10_cellOf := (tin8 (List.mem_of_getElem? (i := 56) rfl))
theorem ml_RX10_234 : mL RX10 234 KX10_lyingIn := (tin8 (List.mem_of_getElem? (i := 84) rfl))
theorem ml_RX10_237 : mL RX10 237 KX10_lying := (tin8 (List.mem_of_getElem? (i := 87) rfl))
theorem ml_RX10_241 : mL RX10 241 KX10_knows := (tin8 (List.mem_of_getElem? (i := 80) rfl))
theorem ml_RX10_245 : mL RX10 245 KX10_byLaw := (tin8 (List.mem_of_getElem? (i := 90) rfl))
theorem ml_RX10_248 : mL RX10 248 KX10_less := (tin8 (List.mem_of_getElem? (i := 97) rfl))
theorem ml_RX10_251 : mL RX10 251 KX10_more := (tin8 (List.mem_of_getElem? (i := 100) rfl))
theorem ml_RX10_254 : mL RX10 254 KX10_stepHere := (tin8 (List.mem_of_getElem? (i := 25) rfl))
theorem ml_RX10_260 : mL RX10 260 KX10_readsStep := (tin8 (List.mem_of_getElem? (i := 21) rfl))
theorem ml_RX10_263 : mL RX10 263 KX10_onSledge := (tin8 (List.mem_of_getElem? (i := 47) rfl))
theorem ml_RX10_266 : mL RX10 266 KX10_farOf := (tin8 (List.mem_of_getElem? (i := 40) rfl))
theorem ml_RX10_270 : mL RX10 270 KX10_loadsOf := (tin8 (List.mem_of_getElem? (i := 43) rfl))
theorem ml_RX10_274 : mL RX10 274 KX10_liftMinutes := (tin8 (List.mem_of_getElem? (i := 59) rfl))
theorem ml_RX10_278 : mL RX10 278 KX10_sledges := (tin8 (List.mem_of_getElem? (i := 63) rfl))
theorem ml_RX10_282 : mL RX10 282 KX10_unloads := (tin8 (List.mem_of_getElem? (i := 66) rfl))
theorem ml_RX10_285 : mL RX10 285 KX10_isLost := (tin8 (List.mem_of_getElem? (i := 69) rfl))
theorem ml_RX10_288 : mL RX10 288 KX10_winters := (tin8 (List.mem_of_getElem? (i := 72) rfl))
theorem ml_RX10_292 : mL RX10 292 KX10_isCell := (tin8 (List.mem_of_getElem? (i := 107) rfl))
theorem ml_RX10_296 : mL RX10 296 KX10_damageOf := (tin8 (List.mem_of_getElem? (i := 76) rfl))
theorem ml_RX10_299 : mL RX10 299 KX10_isKept := (tin8 (List.mem_of_getElem? (i := 103) rfl))
theorem ml_RX10_302 : mL RX10 302 KX10_risesIn := (tin8 (List.mem_of_getElem? (i := 111) rfl))
theorem ml_RX10_308 : mL RX10 308 KX10_goes := (tin8 (List.mem_of_getElem? (i := 32) rfl))
theorem ml_RX10_311 : mL RX10 311 KX10_does := (tin8 (List.mem_of_getElem? (i := 36) rfl))
theorem ml_RX10_318 : mL RX10 318 KX10_copies := (tin8 (List.mem_of_getElem? (i := 29) rfl))
theorem ml_RX10_322 : mL RX10 322 KX10_whereMany := (tin8 (List.mem_of_getElem? (i := 131) rfl))
theorem ml_RX10_325 : mL RX10 325 KX10_isStone := (tin8 (List.mem_of_getElem? (i := 138) rfl))
theorem ml_RX10_328 : mL RX10 328 KX10_sizesIn := (tin8 (List.mem_of_getElem? (i := 146) rfl))
theorem ml_RX10_331 : mL RX10 331 KX10_clearOf := (tin8 (List.mem_of_getElem? (i := 169) rfl))
theorem ml_RX10_334 : mL RX10 334 KX10_ones := (tin8 (List.mem_of_getElem? (i := 181) rfl))
theorem ml_RX10_337 : mL RX10 337 KX10_isThere := (tin8 (List.mem_of_getElem? (i := 184) rfl))
theorem ml_RX10_340 : mL RX10 340 KX10_stopsBy := (tin8 (List.mem_of_getElem? (i := 177) rfl))
theorem ml_RX10_352 : mL RX10 352 KX10_ways := (tin8 (List.mem_of_getElem? (i := 191) rfl))
theorem ml_RX10_356 : mL RX10 356 KX10_heapsBy := (tin8 (List.mem_of_getElem? (i := 200) rfl))
theorem ml_RX10_359 : mL RX10 359 KX10_lineBy := (tin8 (List.mem_of_getElem? (i := 208) rfl))
theorem ml_RX10_362 : mL RX10 362 KX10_clearsIn := (tin8 (List.mem_of_getElem? (i := 216) rfl))
theorem ml_RX10_365 : mL RX10 365 KX10_clearsAll := (tin8 (List.mem_of_getElem? (i := 224) rfl))
theorem ml_RX10_368 : mL RX10 368 KX10_clears := (tin8 (List.mem_of_getElem? (i := 232) rfl))
theorem ml_RX10_372 : mL RX10 372 KX10_thereMany := (tin8 (List.mem_of_getElem? (i := 236) rfl))
theorem ml_RX10_380 : mL RX10 380 KX10_frosts := (tin9 (List.mem_of_getElem? (i := 11) rfl))
theorem ml_RX10_384 : mL RX10 384 KX10_farNow := (tin9 (List.mem_of_getElem? (i := 24) rfl))
theorem ml_RX10_390 : mL RX10 390 KX10_puts := (tin9 (List.mem_of_getElem? (i := 52) rfl))
theorem ml_RX10_394 : mL RX10 394 KX10_putsAll := (tin9 (List.mem_of_getElem? (i := 48) rfl))
theorem ml_RJ0_335 : mL RJ0 335 KJ0_coder_7d493 := (tin3 (List.mem_of_getElem? (i := 204) rfl))
theorem ml_RJ0_492 : mL RJ0 492 KJ0_isLatin1_aae02 := (tin3 (List.mem_of_getElem? (i := 214) rfl))
theorem ml_RJ0_495 : mL RJ0 495 KJ1_charAt_3b067 := (tin3 (List.mem_of_getElem? (i := 218) rfl))
theorem ml_RJ0_1059 : mL RJ0 1059 KJ3_checkIndex_8e157 := (tin3 (List.mem_of_getElem? (i := 226) rfl))
theorem ml_RJ1_9 : mL RJ1 9 KJ0_checkIndex_df160 := (tin3 (List.mem_of_getElem? (i := 221) rfl))
theorem ml_RJ2_414 : mL RJ2 414 KJ0_checkIndex_df160 := (tin3 (List.mem_of_getElem? (i := 238) rfl))
theorem ml_RX9_3 : Cond.methodLink RX9 3 Lib.objectInit ∈ lw_tbl := (tin1 (List.mem_of_getElem? (i := 32) rfl))
theorem ml_RX0_3 : Cond.methodLink RX0 3 Lib.objectInit ∈ lw_tbl := (tin1 (List.mem_of_getElem? (i := 132) rfl))
theorem ml_RX1_3 : Cond.methodLink RX1 3 Lib.objectInit ∈ lw_tbl := (tin2 (List.mem_of_getElem? (i := 103) rfl))
theorem ml_RX2_3 : Cond.methodLink RX2 3 Lib.objectInit ∈ lw_tbl := (tin1 (List.mem_of_getElem? (i := 158) rfl))
theorem ml_RX3_3 : Cond.methodLink RX3 3 Lib.objectInit ∈ lw_tbl := (tin2 (List.mem_of_getElem? (i := 2) rfl))
theorem ml_RX4_5 : Cond.methodLink RX4 5 Lib.objectInit ∈ lw_tbl := (tin2 (List.mem_of_getElem? (i := 8) rfl))
theorem ml_RX5_5 : Cond.methodLink RX5 5 Lib.objectInit ∈ lw_tbl := (tin1 (List.mem_of_getElem? (i := 108) rfl))
theorem ml_RX5_39 : Cond.methodLink RX5 39 arraycopyName ∈ lw_tbl := (tin3 (List.mem_of_getElem? (i := 54) rfl))
theorem ml_RX6_5 : Cond.methodLink RX6 5 Lib.objectInit ∈ lw_tbl := (tin1 (List.mem_of_getElem? (i := 77) rfl))
theorem ml_RX7_3 : Cond.methodLink RX7 3 Lib.objectInit ∈ lw_tbl := (tin1 (List.mem_of_getElem? (i := 40) rfl))
theorem ml_RX8_3 : Cond.methodLink RX8 3 Lib.objectInit ∈ lw_tbl := (tin1 (List.mem_of_getElem? (i := 164) rfl))
theorem ml_RX8_67 : Cond.methodLink RX8 67 arraycopyName ∈ lw_tbl := (tin2 (List.mem_of_getElem? (i := 197) rfl))
theorem ml_RX10_3 : Cond.methodLink RX10 3 Lib.objectInit ∈ lw_tbl := (tin7 (List.mem_of_getElem? (i := 0) rfl))
theorem ac_nat : Cond.native arraycopyName ∈ lw_tbl := (tin2 (List.mem_of_getElem? (i := 199) rfl))
theorem ac_sta : Cond.static arraycopyName ∈ lw_tbl := (tin2 (List.mem_of_getElem? (i := 198) rfl))
theorem ac_ini : Cond.initialized "java/lang/System" ∈ lw_tbl := (tin1 (List.mem_of_getElem? (i := 22) rfl))
theorem oi_ins : Cond.instanceMethod Lib.objectInit ∈ lw_tbl := (tin1 (List.mem_of_getElem? (i := 33) rfl))
theorem oi_cod : Cond.code Lib.objectInit ⟨#[0xb1]⟩ 1 none ∈ lw_tbl := (tin1 (List.mem_of_getElem? (i := 34) rfl))
theorem ct_RX0_103 : Cond.constantLong RX0 103 (10) ∈ lw_tbl := (tin6 (List.mem_of_getElem? (i := 16) rfl))
theorem ct_RX0_145 : Cond.constantLong RX0 145 (-1) ∈ lw_tbl := (tin6 (List.mem_of_getElem? (i := 66) rfl))
theorem ct_RX2_92 : Cond.constant RX2 92 (1103515245) ∈ lw_tbl := (tin6 (List.mem_of_getElem? (i := 179) rfl))
theorem ct_RX7_64 : Cond.constant RX7 64 (100000) ∈ lw_tbl := (tin4 (List.mem_of_getElem? (i := 28) rfl))
theorem ct_RX10_121 : Cond.constant RX10 121 (100000) ∈ lw_tbl := (tin7 (List.mem_of_getElem? (i := 208) rfl))
theorem ct_RX10_350 : Cond.constantLong RX10 350 (10) ∈ lw_tbl := (tin8 (List.mem_of_getElem? (i := 195) rfl))
theorem ct_RX10_379 : Cond.constant RX10 379 (1103515245) ∈ lw_tbl := (tin9 (List.mem_of_getElem? (i := 15) rfl))
theorem ct_RJ6_265 : Cond.constant RJ6 265 (1431655765) ∈ lw_tbl := (tin5 (List.mem_of_getElem? (i := 226) rfl))
theorem ct_RJ6_266 : Cond.constant RJ6 266 (858993459) ∈ lw_tbl := (tin5 (List.mem_of_getElem? (i := 227) rfl))
theorem ct_RJ6_267 : Cond.constant RJ6 267 (252645135) ∈ lw_tbl := (tin5 (List.mem_of_getElem? (i := 228) rfl))
theorem ct_RJ13_314 : Cond.constantLong RJ13 314 (6148914691236517205) ∈ lw_tbl := (tin4 (List.mem_of_getElem? (i := 196) rfl))
theorem ct_RJ13_316 : Cond.constantLong RJ13 316 (3689348814741910323) ∈ lw_tbl := (tin4 (List.mem_of_getElem? (i := 197) rfl))
theorem ct_RJ13_318 : Cond.constantLong RJ13 318 (1085102592571150095) ∈ lw_tbl := (tin4 (List.mem_of_getElem? (i := 198) rfl))
theorem si_RX3_96 : strIn RX3 96 0 := ⟨by decide, rfl, rfl⟩
theorem si_RX4_79 : strIn RX4 79 1 := ⟨by decide, rfl, rfl⟩
theorem si_RX6_49 : strIn RX6 49 2 := ⟨by decide, rfl, rfl⟩
theorem si_RX9_361 : strIn RX9 361 3 := ⟨by decide, rfl, rfl⟩
theorem si_RX9_368 : strIn RX9 368 4 := ⟨by decide, rfl, rfl⟩
theorem si_RX9_373 : strIn RX9 373 5 := ⟨by decide, rfl, rfl⟩
