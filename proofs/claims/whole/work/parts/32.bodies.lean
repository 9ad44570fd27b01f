/-! every instruction of every method is as the data say -/
set_option maxRecDepth 100000 in
theorem boX8_init : bOk mT 0 qX8_init := bOk_of (by decide +kernel)
set_option maxRecDepth 100000 in
theorem boX6_init : bOk mT 1 qX6_init := bOk_of (by decide +kernel)
set_option maxRecDepth 100000 in
theorem boX9_init : bOk mT 2 qX9_init := bOk_of (by decide +kernel)
set_option maxRecDepth 100000 in
theorem boX1_init : bOk mT 3 qX1_init := bOk_of (by decide +kernel)
set_option maxRecDepth 100000 in
theorem boX5_init : bOk mT 4 qX5_init := bOk_of (by decide +kernel)
set_option maxRecDepth 100000 in
theorem boX10_init : bOk mT 5 qX10_init := bOk_of (by decide +kernel)
set_option maxRecDepth 100000 in
theorem boX11_init : bOk mT 6 qX11_init := bOk_of (by decide +kernel)
set_option maxRecDepth 100000 in
theorem boX10_isWithin : bOk mT 7 qX10_isWithin := bOk_of (by decide +kernel)
set_option maxRecDepth 100000 in
theorem boX2_init : bOk mT 8 qX2_init := bOk_of (by decide +kernel)
set_option maxRecDepth 100000 in
theorem boX8_append : bOk mT 9 qX8_append := bOk_of (by decide +kernel)
set_option maxRecDepth 100000 in
theorem boX4_init : bOk mT 10 qX4_init := bOk_of (by decide +kernel)
set_option maxRecDepth 100000 in
theorem boX0_init : bOk mT 11 qX0_init := bOk_of (by decide +kernel)
set_option maxRecDepth 100000 in
theorem boX10_function : bOk mT 12 qX10_function := bOk_of (by decide +kernel)
set_option maxRecDepth 100000 in
theorem boX11_within : bOk mT 13 qX11_within := bOk_of (by decide +kernel)
set_option maxRecDepth 100000 in
theorem boX11_begin : bOk mT 14 qX11_begin := bOk_of (by decide +kernel)
set_option maxRecDepth 100000 in
theorem boX11_function : bOk mT 15 qX11_function := bOk_of (by decide +kernel)
set_option maxRecDepth 100000 in
theorem boX10_instructionsInAll : bOk mT 16 qX10_instructionsInAll := bOk_of (by decide +kernel)
set_option maxRecDepth 100000 in
theorem boX3_init : bOk mT 17 qX3_init := bOk_of (by decide +kernel)
set_option maxRecDepth 100000 in
theorem boX0_append : bOk mT 18 qX0_append := bOk_of (by decide +kernel)
set_option maxRecDepth 100000 in
theorem boX0_die : bOk mT 19 qX0_die := bOk_of (by decide +kernel)
set_option maxRecDepth 100000 in
theorem boX0_writeTrap : bOk mT 20 qX0_writeTrap := bOk_of (by decide +kernel)
set_option maxRecDepth 100000 in
theorem boX0_ownOperands : bOk mT 21 qX0_ownOperands := bOk_of (by decide +kernel)
set_option maxRecDepth 100000 in
theorem boX0_has : bOk mT 22 qX0_has := bOk_of (by decide +kernel)
set_option maxRecDepth 100000 in
theorem boX0_take : bOk mT 23 qX0_take := bOk_of (by decide +kernel)
set_option maxRecDepth 100000 in
theorem boX0_put : bOk mT 24 qX0_put := bOk_of (by decide +kernel)
set_option maxRecDepth 100000 in
theorem boX0_writeStart : bOk mT 25 qX0_writeStart := bOk_of (by decide +kernel)
set_option maxRecDepth 100000 in
theorem boX4_mayTurn : bOk mT 26 qX4_mayTurn := bOk_of (by decide +kernel)
set_option maxRecDepth 100000 in
theorem boX0_hasJustResults : bOk mT 27 qX0_hasJustResults := bOk_of (by decide +kernel)
set_option maxRecDepth 100000 in
theorem boX0_writeElse : bOk mT 28 qX0_writeElse := bOk_of (by decide +kernel)
set_option maxRecDepth 100000 in
theorem boX0_labelAt : bOk mT 29 qX0_labelAt := bOk_of (by decide +kernel)
set_option maxRecDepth 100000 in
theorem boX4_wanted : bOk mT 30 qX4_wanted := bOk_of (by decide +kernel)
set_option maxRecDepth 100000 in
theorem boX0_writeEntry : bOk mT 31 qX0_writeEntry := bOk_of (by decide +kernel)
set_option maxRecDepth 100000 in
theorem boX4_stepBehind : bOk mT 32 qX4_stepBehind := bOk_of (by decide +kernel)
set_option maxRecDepth 100000 in
theorem boX3_settled : bOk mT 33 qX3_settled := bOk_of (by decide +kernel)
set_option maxRecDepth 100000 in
theorem boX4_stepOtherwise : bOk mT 34 qX4_stepOtherwise := bOk_of (by decide +kernel)
set_option maxRecDepth 100000 in
theorem boX4_stepOfBranch : bOk mT 35 qX4_stepOfBranch := bOk_of (by decide +kernel)
set_option maxRecDepth 100000 in
theorem boX3_aim : bOk mT 36 qX3_aim := bOk_of (by decide +kernel)
set_option maxRecDepth 100000 in
theorem boX0_flatten : bOk mT 37 qX0_flatten := bOk_of (by decide +kernel)
set_option maxRecDepth 100000 in
theorem boX0_writeEnd : bOk mT 38 qX0_writeEnd := bOk_of (by decide +kernel)
set_option maxRecDepth 100000 in
theorem boX0_writeBranch : bOk mT 39 qX0_writeBranch := bOk_of (by decide +kernel)
set_option maxRecDepth 100000 in
theorem boX0_writeBranchIf : bOk mT 40 qX0_writeBranchIf := bOk_of (by decide +kernel)
set_option maxRecDepth 100000 in
theorem boX0_writeTable : bOk mT 41 qX0_writeTable := bOk_of (by decide +kernel)
set_option maxRecDepth 100000 in
theorem boX8_find : bOk mT 42 qX8_find := bOk_of (by decide +kernel)
set_option maxRecDepth 100000 in
theorem boX0_writeCall : bOk mT 43 qX0_writeCall := bOk_of (by decide +kernel)
set_option maxRecDepth 100000 in
theorem boX0_writeCallByTable : bOk mT 44 qX0_writeCallByTable := bOk_of (by decide +kernel)
set_option maxRecDepth 100000 in
theorem boX7_takenBy : bOk mT 45 qX7_takenBy := bOk_of (by decide +kernel)
set_option maxRecDepth 100000 in
theorem boX0_isInPlace : bOk mT 46 qX0_isInPlace := bOk_of (by decide +kernel)
set_option maxRecDepth 100000 in
theorem boX7_putBy : bOk mT 47 qX7_putBy := bOk_of (by decide +kernel)
set_option maxRecDepth 100000 in
theorem boX0_writePlain : bOk mT 48 qX0_writePlain := bOk_of (by decide +kernel)
set_option maxRecDepth 100000 in
theorem boX0_write : bOk mT 49 qX0_write := bOk_of (by decide +kernel)
set_option maxRecDepth 100000 in
theorem boX0_isFinished : bOk mT 50 qX0_isFinished := bOk_of (by decide +kernel)
set_option maxRecDepth 100000 in
theorem boX10_keepDraft : bOk mT 51 qX10_keepDraft := bOk_of (by decide +kernel)
set_option maxRecDepth 100000 in
theorem boX10_code : bOk mT 52 qX10_code := bOk_of (by decide +kernel)
set_option maxRecDepth 100000 in
theorem boX11_isLabel : bOk mT 53 qX11_isLabel := bOk_of (by decide +kernel)
set_option maxRecDepth 100000 in
theorem boX11_inner : bOk mT 54 qX11_inner := bOk_of (by decide +kernel)
set_option maxRecDepth 100000 in
theorem boX11_wants : bOk mT 55 qX11_wants := bOk_of (by decide +kernel)
set_option maxRecDepth 100000 in
theorem boX11_has : bOk mT 56 qX11_has := bOk_of (by decide +kernel)
set_option maxRecDepth 100000 in
theorem boX11_die : bOk mT 57 qX11_die := bOk_of (by decide +kernel)
set_option maxRecDepth 100000 in
theorem boX11_entryTo : bOk mT 58 qX11_entryTo := bOk_of (by decide +kernel)
set_option maxRecDepth 100000 in
theorem boX11_ends : bOk mT 59 qX11_ends := bOk_of (by decide +kernel)
set_option maxRecDepth 100000 in
theorem boX11_take : bOk mT 60 qX11_take := bOk_of (by decide +kernel)
set_option maxRecDepth 100000 in
theorem boX11_block : bOk mT 61 qX11_block := bOk_of (by decide +kernel)
set_option maxRecDepth 100000 in
theorem boX11_isDone : bOk mT 62 qX11_isDone := bOk_of (by decide +kernel)
set_option maxRecDepth 100000 in
theorem boX11_otherwise : bOk mT 63 qX11_otherwise := bOk_of (by decide +kernel)
set_option maxRecDepth 100000 in
theorem boX11_end : bOk mT 64 qX11_end := bOk_of (by decide +kernel)
set_option maxRecDepth 100000 in
theorem boX11_turn : bOk mT 65 qX11_turn := bOk_of (by decide +kernel)
set_option maxRecDepth 100000 in
theorem boX11_entries : bOk mT 66 qX11_entries := bOk_of (by decide +kernel)
set_option maxRecDepth 100000 in
theorem boX11_control : bOk mT 67 qX11_control := bOk_of (by decide +kernel)
set_option maxRecDepth 100000 in
theorem boX11_plain : bOk mT 68 qX11_plain := bOk_of (by decide +kernel)
set_option maxRecDepth 100000 in
theorem boX11_code : bOk mT 69 qX11_code := bOk_of (by decide +kernel)
set_option maxRecDepth 100000 in
theorem boX8_removeLast : bOk mT 70 qX8_removeLast := bOk_of (by decide +kernel)
set_option maxRecDepth 100000 in
theorem boX10_drop : bOk mT 71 qX10_drop := bOk_of (by decide +kernel)
set_option maxRecDepth 100000 in
theorem boX11_drop : bOk mT 72 qX11_drop := bOk_of (by decide +kernel)
set_option maxRecDepth 100000 in
theorem boX5_setTable : bOk mT 73 qX5_setTable := bOk_of (by decide +kernel)
set_option maxRecDepth 100000 in
theorem boX8_findWhole : bOk mT 74 qX8_findWhole := bOk_of (by decide +kernel)
set_option maxRecDepth 100000 in
theorem boX10_entry : bOk mT 75 qX10_entry := bOk_of (by decide +kernel)
set_option maxRecDepth 100000 in
theorem boX11_isWhole : bOk mT 76 qX11_isWhole := bOk_of (by decide +kernel)
set_option maxRecDepth 100000 in
theorem boX11_entry : bOk mT 77 qX11_entry := bOk_of (by decide +kernel)
set_option maxRecDepth 100000 in
theorem boX10_argument : bOk mT 78 qX10_argument := bOk_of (by decide +kernel)
set_option maxRecDepth 100000 in
theorem boX11_argument : bOk mT 79 qX11_argument := bOk_of (by decide +kernel)
set_option maxRecDepth 100000 in
theorem boX9_push : bOk mT 80 qX9_push := bOk_of (by decide +kernel)
set_option maxRecDepth 100000 in
theorem boX2_room : bOk mT 81 qX2_room := bOk_of (by decide +kernel)
set_option maxRecDepth 100000 in
theorem boX1_enter : bOk mT 82 qX1_enter := bOk_of (by decide +kernel)
set_option maxRecDepth 100000 in
theorem boX5_enter : bOk mT 83 qX5_enter := bOk_of (by decide +kernel)
set_option maxRecDepth 100000 in
theorem boX5_isGoing : bOk mT 84 qX5_isGoing := bOk_of (by decide +kernel)
set_option maxRecDepth 100000 in
theorem boX5_innermost : bOk mT 85 qX5_innermost := bOk_of (by decide +kernel)
set_option maxRecDepth 100000 in
theorem boX9_at : bOk mT 86 qX9_at := bOk_of (by decide +kernel)
set_option maxRecDepth 100000 in
theorem boX9_set : bOk mT 87 qX9_set := bOk_of (by decide +kernel)
set_option maxRecDepth 100000 in
theorem boX9_keep : bOk mT 88 qX9_keep := bOk_of (by decide +kernel)
set_option maxRecDepth 100000 in
theorem boX5_leaveWhatIsOver : bOk mT 89 qX5_leaveWhatIsOver := bOk_of (by decide +kernel)
set_option maxRecDepth 100000 in
theorem boX5_begin : bOk mT 90 qX5_begin := bOk_of (by decide +kernel)
set_option maxRecDepth 100000 in
theorem boX10_call : bOk mT 91 qX10_call := bOk_of (by decide +kernel)
set_option maxRecDepth 100000 in
theorem boX11_push : bOk mT 92 qX11_push := bOk_of (by decide +kernel)
set_option maxRecDepth 100000 in
theorem boX11_namesOf : bOk mT 93 qX11_namesOf := bOk_of (by decide +kernel)
set_option maxRecDepth 100000 in
theorem boX11_asks : bOk mT 94 qX11_asks := bOk_of (by decide +kernel)
set_option maxRecDepth 100000 in
theorem boX11_enter : bOk mT 95 qX11_enter := bOk_of (by decide +kernel)
set_option maxRecDepth 100000 in
theorem boX11_begins : bOk mT 96 qX11_begins := bOk_of (by decide +kernel)
set_option maxRecDepth 100000 in
theorem boX11_endOf : bOk mT 97 qX11_endOf := bOk_of (by decide +kernel)
set_option maxRecDepth 100000 in
theorem boX11_keep : bOk mT 98 qX11_keep := bOk_of (by decide +kernel)
set_option maxRecDepth 100000 in
theorem boX11_back : bOk mT 99 qX11_back := bOk_of (by decide +kernel)
set_option maxRecDepth 100000 in
theorem boX11_pass : bOk mT 100 qX11_pass := bOk_of (by decide +kernel)
set_option maxRecDepth 100000 in
theorem boX11_call : bOk mT 101 qX11_call := bOk_of (by decide +kernel)
set_option maxRecDepth 100000 in
theorem boX5_trap : bOk mT 102 qX5_trap := bOk_of (by decide +kernel)
set_option maxRecDepth 100000 in
theorem boX9_pop : bOk mT 103 qX9_pop := bOk_of (by decide +kernel)
set_option maxRecDepth 100000 in
theorem boX7_isTrue : bOk mT 104 qX7_isTrue := bOk_of (by decide +kernel)
set_option maxRecDepth 100000 in
theorem boX1_operandsFrom : bOk mT 105 qX1_operandsFrom := bOk_of (by decide +kernel)
set_option maxRecDepth 100000 in
theorem boX5_branch : bOk mT 106 qX5_branch := bOk_of (by decide +kernel)
set_option maxRecDepth 100000 in
theorem boX5_chosenEntry : bOk mT 107 qX5_chosenEntry := bOk_of (by decide +kernel)
set_option maxRecDepth 100000 in
theorem boX2_hasSignature : bOk mT 108 qX2_hasSignature := bOk_of (by decide +kernel)
set_option maxRecDepth 100000 in
theorem boX5_enterByTable : bOk mT 109 qX5_enterByTable := bOk_of (by decide +kernel)
set_option maxRecDepth 100000 in
theorem boX5_control : bOk mT 110 qX5_control := bOk_of (by decide +kernel)
set_option maxRecDepth 100000 in
theorem boX5_select : bOk mT 111 qX5_select := bOk_of (by decide +kernel)
set_option maxRecDepth 100000 in
theorem boX5_globalAt : bOk mT 112 qX5_globalAt := bOk_of (by decide +kernel)
set_option maxRecDepth 100000 in
theorem boX5_setGlobal : bOk mT 113 qX5_setGlobal := bOk_of (by decide +kernel)
set_option maxRecDepth 100000 in
theorem boX5_move : bOk mT 114 qX5_move := bOk_of (by decide +kernel)
set_option maxRecDepth 100000 in
theorem boX7_sizeOf : bOk mT 115 qX7_sizeOf := bOk_of (by decide +kernel)
set_option maxRecDepth 100000 in
theorem boX6_holds : bOk mT 116 qX6_holds := bOk_of (by decide +kernel)
set_option maxRecDepth 100000 in
theorem boX6_load : bOk mT 117 qX6_load := bOk_of (by decide +kernel)
set_option maxRecDepth 100000 in
theorem boX7_widened : bOk mT 118 qX7_widened := bOk_of (by decide +kernel)
set_option maxRecDepth 100000 in
theorem boX5_load : bOk mT 119 qX5_load := bOk_of (by decide +kernel)
set_option maxRecDepth 100000 in
theorem boX6_store : bOk mT 120 qX6_store := bOk_of (by decide +kernel)
set_option maxRecDepth 100000 in
theorem boX5_store : bOk mT 121 qX5_store := bOk_of (by decide +kernel)
set_option maxRecDepth 100000 in
theorem boX6_grow : bOk mT 122 qX6_grow := bOk_of (by decide +kernel)
set_option maxRecDepth 100000 in
theorem boX5_provide : bOk mT 123 qX5_provide := bOk_of (by decide +kernel)
set_option maxRecDepth 100000 in
theorem boX5_divide : bOk mT 124 qX5_divide := bOk_of (by decide +kernel)
set_option maxRecDepth 100000 in
theorem boX7_isOf64 : bOk mT 125 qX7_isOf64 := bOk_of (by decide +kernel)
set_option maxRecDepth 100000 in
theorem boX7_of64 : bOk mT 126 qX7_of64 := bOk_of (by decide +kernel)
set_option maxRecDepth 100000 in
theorem boX7_of32 : bOk mT 127 qX7_of32 := bOk_of (by decide +kernel)
set_option maxRecDepth 100000 in
theorem boX5_computeOfTwo : bOk mT 128 qX5_computeOfTwo := bOk_of (by decide +kernel)
set_option maxRecDepth 100000 in
theorem boX5_computeOfOne : bOk mT 129 qX5_computeOfOne := bOk_of (by decide +kernel)
set_option maxRecDepth 100000 in
theorem boX5_step : bOk mT 130 qX5_step := bOk_of (by decide +kernel)
set_option maxRecDepth 100000 in
theorem boX5_advance : bOk mT 131 qX5_advance := bOk_of (by decide +kernel)
set_option maxRecDepth 100000 in
theorem boX10_run : bOk mT 132 qX10_run := bOk_of (by decide +kernel)
set_option maxRecDepth 100000 in
theorem boX11_traps : bOk mT 133 qX11_traps := bOk_of (by decide +kernel)
set_option maxRecDepth 100000 in
theorem boX11_pop : bOk mT 134 qX11_pop := bOk_of (by decide +kernel)
set_option maxRecDepth 100000 in
theorem boX11_isTrue : bOk mT 135 qX11_isTrue := bOk_of (by decide +kernel)
set_option maxRecDepth 100000 in
theorem boX11_condition : bOk mT 136 qX11_condition := bOk_of (by decide +kernel)
set_option maxRecDepth 100000 in
theorem boX11_beginOf : bOk mT 137 qX11_beginOf := bOk_of (by decide +kernel)
set_option maxRecDepth 100000 in
theorem boX11_base : bOk mT 138 qX11_base := bOk_of (by decide +kernel)
set_option maxRecDepth 100000 in
theorem boX11_branch : bOk mT 139 qX11_branch := bOk_of (by decide +kernel)
set_option maxRecDepth 100000 in
theorem boX11_outermost : bOk mT 140 qX11_outermost := bOk_of (by decide +kernel)
set_option maxRecDepth 100000 in
theorem boX11_callTable : bOk mT 141 qX11_callTable := bOk_of (by decide +kernel)
set_option maxRecDepth 100000 in
theorem boX11_choose : bOk mT 142 qX11_choose := bOk_of (by decide +kernel)
set_option maxRecDepth 100000 in
theorem boX11_variable : bOk mT 143 qX11_variable := bOk_of (by decide +kernel)
set_option maxRecDepth 100000 in
theorem boX11_size : bOk mT 144 qX11_size := bOk_of (by decide +kernel)
set_option maxRecDepth 100000 in
theorem boX11_move : bOk mT 145 qX11_move := bOk_of (by decide +kernel)
set_option maxRecDepth 100000 in
theorem boX11_grow : bOk mT 146 qX11_grow := bOk_of (by decide +kernel)
set_option maxRecDepth 100000 in
theorem boX11_truth : bOk mT 147 qX11_truth := bOk_of (by decide +kernel)
set_option maxRecDepth 100000 in
theorem boX11_work : bOk mT 148 qX11_work := bOk_of (by decide +kernel)
set_option maxRecDepth 100000 in
theorem boX11_simple : bOk mT 149 qX11_simple := bOk_of (by decide +kernel)
set_option maxRecDepth 100000 in
theorem boX11_step : bOk mT 150 qX11_step := bOk_of (by decide +kernel)
set_option maxRecDepth 100000 in
theorem boX11_run : bOk mT 151 qX11_run := bOk_of (by decide +kernel)
set_option maxRecDepth 100000 in
theorem boX0_isDead : bOk mT 152 qX0_isDead := bOk_of (by decide +kernel)
set_option maxRecDepth 100000 in
theorem boX10_state : bOk mT 153 qX10_state := bOk_of (by decide +kernel)
set_option maxRecDepth 100000 in
theorem boX11_state : bOk mT 154 qX11_state := bOk_of (by decide +kernel)
set_option maxRecDepth 100000 in
theorem boX5_resultAt : bOk mT 155 qX5_resultAt := bOk_of (by decide +kernel)
set_option maxRecDepth 100000 in
theorem boX10_result : bOk mT 156 qX10_result := bOk_of (by decide +kernel)
set_option maxRecDepth 100000 in
theorem boX11_result : bOk mT 157 qX11_result := bOk_of (by decide +kernel)
set_option maxRecDepth 100000 in
theorem boX10_global : bOk mT 158 qX10_global := bOk_of (by decide +kernel)
set_option maxRecDepth 100000 in
theorem boX11_global : bOk mT 159 qX11_global := bOk_of (by decide +kernel)
set_option maxRecDepth 100000 in
theorem boX6_byteAt : bOk mT 160 qX6_byteAt := bOk_of (by decide +kernel)
set_option maxRecDepth 100000 in
theorem boX10_memory : bOk mT 161 qX10_memory := bOk_of (by decide +kernel)
set_option maxRecDepth 100000 in
theorem boX11_memory : bOk mT 162 qX11_memory := bOk_of (by decide +kernel)
set_option maxRecDepth 100000 in
theorem boX10_look : bOk mT 163 qX10_look := bOk_of (by decide +kernel)
set_option maxRecDepth 100000 in
theorem boX11_look : bOk mT 164 qX11_look := bOk_of (by decide +kernel)
set_option maxRecDepth 100000 in
theorem boL_law : bOk mT 165 qL_law := bOk_of (by decide +kernel)
