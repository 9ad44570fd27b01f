/-! names of the methods and of their joins, as T speaks of them -/
theorem gX8_init : mT[0]? = some qX8_init := rfl
theorem gX6_init : mT[1]? = some qX6_init := rfl
theorem gX9_init : mT[2]? = some qX9_init := rfl
theorem gX1_init : mT[3]? = some qX1_init := rfl
theorem gX5_init : mT[4]? = some qX5_init := rfl
theorem gX10_init : mT[5]? = some qX10_init := rfl
theorem gX11_init : mT[6]? = some qX11_init := rfl
theorem gX10_isWithin : mT[7]? = some qX10_isWithin := rfl
theorem gX2_init : mT[8]? = some qX2_init := rfl
theorem gX8_append : mT[9]? = some qX8_append := rfl
theorem gX4_init : mT[10]? = some qX4_init := rfl
theorem gX0_init : mT[11]? = some qX0_init := rfl
theorem gX10_function : mT[12]? = some qX10_function := rfl
theorem gX11_within : mT[13]? = some qX11_within := rfl
theorem gX11_begin : mT[14]? = some qX11_begin := rfl
theorem gX11_function : mT[15]? = some qX11_function := rfl
theorem gX10_instructionsInAll : mT[16]? = some qX10_instructionsInAll := rfl
theorem gX3_init : mT[17]? = some qX3_init := rfl
theorem gX0_append : mT[18]? = some qX0_append := rfl
theorem gX0_die : mT[19]? = some qX0_die := rfl
theorem gX0_writeTrap : mT[20]? = some qX0_writeTrap := rfl
theorem gX0_ownOperands : mT[21]? = some qX0_ownOperands := rfl
theorem gX0_has : mT[22]? = some qX0_has := rfl
theorem gX0_take : mT[23]? = some qX0_take := rfl
theorem gX0_put : mT[24]? = some qX0_put := rfl
theorem gX0_writeStart : mT[25]? = some qX0_writeStart := rfl
theorem gX4_mayTurn : mT[26]? = some qX4_mayTurn := rfl
theorem gX0_hasJustResults : mT[27]? = some qX0_hasJustResults := rfl
theorem gX0_writeElse : mT[28]? = some qX0_writeElse := rfl
theorem gX0_labelAt : mT[29]? = some qX0_labelAt := rfl
theorem gX4_wanted : mT[30]? = some qX4_wanted := rfl
theorem gX0_writeEntry : mT[31]? = some qX0_writeEntry := rfl
theorem gX4_stepBehind : mT[32]? = some qX4_stepBehind := rfl
theorem gX3_settled : mT[33]? = some qX3_settled := rfl
theorem gX4_stepOtherwise : mT[34]? = some qX4_stepOtherwise := rfl
theorem gX4_stepOfBranch : mT[35]? = some qX4_stepOfBranch := rfl
theorem gX3_aim : mT[36]? = some qX3_aim := rfl
theorem gX0_flatten : mT[37]? = some qX0_flatten := rfl
theorem gX0_writeEnd : mT[38]? = some qX0_writeEnd := rfl
theorem gX0_writeBranch : mT[39]? = some qX0_writeBranch := rfl
theorem gX0_writeBranchIf : mT[40]? = some qX0_writeBranchIf := rfl
theorem gX0_writeTable : mT[41]? = some qX0_writeTable := rfl
theorem gX8_find : mT[42]? = some qX8_find := rfl
theorem gX0_writeCall : mT[43]? = some qX0_writeCall := rfl
theorem gX0_writeCallByTable : mT[44]? = some qX0_writeCallByTable := rfl
theorem gX7_takenBy : mT[45]? = some qX7_takenBy := rfl
theorem gX0_isInPlace : mT[46]? = some qX0_isInPlace := rfl
theorem gX7_putBy : mT[47]? = some qX7_putBy := rfl
theorem gX0_writePlain : mT[48]? = some qX0_writePlain := rfl
theorem gX0_write : mT[49]? = some qX0_write := rfl
theorem gX0_isFinished : mT[50]? = some qX0_isFinished := rfl
theorem gX10_keepDraft : mT[51]? = some qX10_keepDraft := rfl
theorem gX10_code : mT[52]? = some qX10_code := rfl
theorem gX11_isLabel : mT[53]? = some qX11_isLabel := rfl
theorem gX11_inner : mT[54]? = some qX11_inner := rfl
theorem gX11_wants : mT[55]? = some qX11_wants := rfl
theorem gX11_has : mT[56]? = some qX11_has := rfl
theorem gX11_die : mT[57]? = some qX11_die := rfl
theorem gX11_entryTo : mT[58]? = some qX11_entryTo := rfl
theorem gX11_ends : mT[59]? = some qX11_ends := rfl
theorem gX11_take : mT[60]? = some qX11_take := rfl
theorem gX11_block : mT[61]? = some qX11_block := rfl
theorem gX11_isDone : mT[62]? = some qX11_isDone := rfl
theorem gX11_otherwise : mT[63]? = some qX11_otherwise := rfl
theorem gX11_end : mT[64]? = some qX11_end := rfl
theorem gX11_turn : mT[65]? = some qX11_turn := rfl
theorem gX11_entries : mT[66]? = some qX11_entries := rfl
theorem gX11_control : mT[67]? = some qX11_control := rfl
theorem gX11_plain : mT[68]? = some qX11_plain := rfl
theorem gX11_code : mT[69]? = some qX11_code := rfl
theorem gX8_removeLast : mT[70]? = some qX8_removeLast := rfl
theorem gX10_drop : mT[71]? = some qX10_drop := rfl
theorem gX11_drop : mT[72]? = some qX11_drop := rfl
theorem gX5_setTable : mT[73]? = some qX5_setTable := rfl
theorem gX8_findWhole : mT[74]? = some qX8_findWhole := rfl
theorem gX10_entry : mT[75]? = some qX10_entry := rfl
theorem gX11_isWhole : mT[76]? = some qX11_isWhole := rfl
theorem gX11_entry : mT[77]? = some qX11_entry := rfl
theorem gX10_argument : mT[78]? = some qX10_argument := rfl
theorem gX11_argument : mT[79]? = some qX11_argument := rfl
theorem gX9_push : mT[80]? = some qX9_push := rfl
theorem gX2_room : mT[81]? = some qX2_room := rfl
theorem gX1_enter : mT[82]? = some qX1_enter := rfl
theorem gX5_enter : mT[83]? = some qX5_enter := rfl
theorem gX5_isGoing : mT[84]? = some qX5_isGoing := rfl
theorem gX5_innermost : mT[85]? = some qX5_innermost := rfl
theorem gX9_at : mT[86]? = some qX9_at := rfl
theorem gX9_set : mT[87]? = some qX9_set := rfl
theorem gX9_keep : mT[88]? = some qX9_keep := rfl
theorem gX5_leaveWhatIsOver : mT[89]? = some qX5_leaveWhatIsOver := rfl
theorem gX5_begin : mT[90]? = some qX5_begin := rfl
theorem gX10_call : mT[91]? = some qX10_call := rfl
theorem gX11_push : mT[92]? = some qX11_push := rfl
theorem gX11_namesOf : mT[93]? = some qX11_namesOf := rfl
theorem gX11_asks : mT[94]? = some qX11_asks := rfl
theorem gX11_enter : mT[95]? = some qX11_enter := rfl
theorem gX11_begins : mT[96]? = some qX11_begins := rfl
theorem gX11_endOf : mT[97]? = some qX11_endOf := rfl
theorem gX11_keep : mT[98]? = some qX11_keep := rfl
theorem gX11_back : mT[99]? = some qX11_back := rfl
theorem gX11_pass : mT[100]? = some qX11_pass := rfl
theorem gX11_call : mT[101]? = some qX11_call := rfl
theorem gX5_trap : mT[102]? = some qX5_trap := rfl
theorem gX9_pop : mT[103]? = some qX9_pop := rfl
theorem gX7_isTrue : mT[104]? = some qX7_isTrue := rfl
theorem gX1_operandsFrom : mT[105]? = some qX1_operandsFrom := rfl
theorem gX5_branch : mT[106]? = some qX5_branch := rfl
theorem gX5_chosenEntry : mT[107]? = some qX5_chosenEntry := rfl
theorem gX2_hasSignature : mT[108]? = some qX2_hasSignature := rfl
theorem gX5_enterByTable : mT[109]? = some qX5_enterByTable := rfl
theorem gX5_control : mT[110]? = some qX5_control := rfl
theorem gX5_select : mT[111]? = some qX5_select := rfl
theorem gX5_globalAt : mT[112]? = some qX5_globalAt := rfl
theorem gX5_setGlobal : mT[113]? = some qX5_setGlobal := rfl
theorem gX5_move : mT[114]? = some qX5_move := rfl
theorem gX7_sizeOf : mT[115]? = some qX7_sizeOf := rfl
theorem gX6_holds : mT[116]? = some qX6_holds := rfl
theorem gX6_load : mT[117]? = some qX6_load := rfl
theorem gX7_widened : mT[118]? = some qX7_widened := rfl
theorem gX5_load : mT[119]? = some qX5_load := rfl
theorem gX6_store : mT[120]? = some qX6_store := rfl
theorem gX5_store : mT[121]? = some qX5_store := rfl
theorem gX6_grow : mT[122]? = some qX6_grow := rfl
theorem gX5_provide : mT[123]? = some qX5_provide := rfl
theorem gX5_divide : mT[124]? = some qX5_divide := rfl
theorem gX7_isOf64 : mT[125]? = some qX7_isOf64 := rfl
theorem gX7_of64 : mT[126]? = some qX7_of64 := rfl
theorem gX7_of32 : mT[127]? = some qX7_of32 := rfl
theorem gX5_computeOfTwo : mT[128]? = some qX5_computeOfTwo := rfl
theorem gX5_computeOfOne : mT[129]? = some qX5_computeOfOne := rfl
theorem gX5_step : mT[130]? = some qX5_step := rfl
theorem gX5_advance : mT[131]? = some qX5_advance := rfl
theorem gX10_run : mT[132]? = some qX10_run := rfl
theorem gX11_traps : mT[133]? = some qX11_traps := rfl
theorem gX11_pop : mT[134]? = some qX11_pop := rfl
theorem gX11_isTrue : mT[135]? = some qX11_isTrue := rfl
theorem gX11_condition : mT[136]? = some qX11_condition := rfl
theorem gX11_beginOf : mT[137]? = some qX11_beginOf := rfl
theorem gX11_base : mT[138]? = some qX11_base := rfl
theorem gX11_branch : mT[139]? = some qX11_branch := rfl
theorem gX11_outermost : mT[140]? = some qX11_outermost := rfl
theorem gX11_callTable : mT[141]? = some qX11_callTable := rfl
theorem gX11_choose : mT[142]? = some qX11_choose := rfl
theorem gX11_variable : mT[143]? = some qX11_variable := rfl
theorem gX11_size : mT[144]? = some qX11_size := rfl
theorem gX11_move : mT[145]? = some qX11_move := rfl
theorem gX11_grow : mT[146]? = some qX11_grow := rfl
theorem gX11_truth : mT[147]? = some qX11_truth := rfl
theorem gX11_work : mT[148]? = some qX11_work := rfl
theorem gX11_simple : mT[149]? = some qX11_simple := rfl
theorem gX11_step : mT[150]? = some qX11_step := rfl
theorem gX11_run : mT[151]? = some qX11_run := rfl
theorem gX0_isDead : mT[152]? = some qX0_isDead := rfl
theorem gX10_state : mT[153]? = some qX10_state := rfl
theorem gX11_state : mT[154]? = some qX11_state := rfl
theorem gX5_resultAt : mT[155]? = some qX5_resultAt := rfl
theorem gX10_result : mT[156]? = some qX10_result := rfl
theorem gX11_result : mT[157]? = some qX11_result := rfl
theorem gX10_global : mT[158]? = some qX10_global := rfl
theorem gX11_global : mT[159]? = some qX11_global := rfl
theorem gX6_byteAt : mT[160]? = some qX6_byteAt := rfl
theorem gX10_memory : mT[161]? = some qX10_memory := rfl
theorem gX11_memory : mT[162]? = some qX11_memory := rfl
theorem gX10_look : mT[163]? = some qX10_look := rfl
theorem gX11_look : mT[164]? = some qX11_look := rfl
theorem gL_law : mT[165]? = some qL_law := rfl
abbrev tX8_init (a0 : Nat) (h : Hp) (Q : Option TV → Hp → Prop) : Prop := T 0 0 [some (tR (some a0))] [] h Q
abbrev tX6_init (a0 : Nat) (h : Hp) (Q : Option TV → Hp → Prop) : Prop := T 1 0 [some (tR (some a0))] [] h Q
abbrev tX9_init (a0 : Nat) (h : Hp) (Q : Option TV → Hp → Prop) : Prop := T 2 0 [some (tR (some a0))] [] h Q
abbrev tX1_init (a0 : Nat) (h : Hp) (Q : Option TV → Hp → Prop) : Prop := T 3 0 [some (tR (some a0))] [] h Q
abbrev tX5_init (a0 : Nat) (h : Hp) (Q : Option TV → Hp → Prop) : Prop := T 4 0 [some (tR (some a0)), none] [] h Q
abbrev tX5_init_59 (a0 : Nat) (x1 : Int32) (h : Hp) (Q : Option TV → Hp → Prop) : Prop := T 4 59 [some (tR (some a0)), some (tI x1)] [] h Q
abbrev tX10_init (a0 : Nat) (h : Hp) (Q : Option TV → Hp → Prop) : Prop := T 5 0 [some (tR (some a0))] [] h Q
abbrev tX11_init (a0 : Nat) (h : Hp) (Q : Option TV → Hp → Prop) : Prop := T 6 0 [some (tR (some a0)), none] [] h Q
abbrev tX11_init_223 (a0 : Nat) (x1 : Int32) (h : Hp) (Q : Option TV → Hp → Prop) : Prop := T 6 223 [some (tR (some a0)), some (tI x1)] [] h Q
abbrev tX10_isWithin (x0 : Int32) (x1 : Int32) (h : Hp) (Q : Option TV → Hp → Prop) : Prop := T 7 0 [some (tI x0), some (tI x1)] [] h Q
abbrev tX2_init (a0 : Nat) (x1 : Int32) (x2 : Int32) (x3 : Int32) (h : Hp) (Q : Option TV → Hp → Prop) : Prop := T 8 0 [some (tR (some a0)), some (tI x1), some (tI x2), some (tI x3)] [] h Q
abbrev tX8_append (a0 : Nat) (r1 : Option Nat) (h : Hp) (Q : Option TV → Hp → Prop) : Prop := T 9 0 [some (tR (some a0)), some (tR r1)] [] h Q
abbrev tX4_init (a0 : Nat) (x1 : Int32) (x2 : Int32) (x3 : Int32) (x4 : Int32) (r5 : Option Nat) (h : Hp) (Q : Option TV → Hp → Prop) : Prop := T 10 0 [some (tR (some a0)), some (tI x1), some (tI x2), some (tI x3), some (tI x4), some (tR r5)] [] h Q
abbrev tX0_init (a0 : Nat) (r1 : Option Nat) (r2 : Option Nat) (h : Hp) (Q : Option TV → Hp → Prop) : Prop := T 11 0 [some (tR (some a0)), some (tR r1), some (tR r2)] [] h Q
abbrev tX10_function (a0 : Nat) (x1 : Int32) (x2 : Int32) (x3 : Int32) (h : Hp) (Q : Option TV → Hp → Prop) : Prop := T 12 0 [some (tR (some a0)), some (tI x1), some (tI x2), some (tI x3), none, none] [] h Q
abbrev tX10_function_31 (a0 : Nat) (x1 : Int32) (x2 : Int32) (x3 : Int32) (h : Hp) (Q : Option TV → Hp → Prop) : Prop := T 12 31 [some (tR (some a0)), some (tI x1), some (tI x2), some (tI x3), none, none] [] h Q
abbrev tX10_function_32 (a0 : Nat) (x1 : Int32) (x2 : Int32) (x3 : Int32) (s0 : Int32) (h : Hp) (Q : Option TV → Hp → Prop) : Prop := T 12 32 [some (tR (some a0)), some (tI x1), some (tI x2), some (tI x3), none, none] [tI s0] h Q
abbrev tX11_within (x0 : Int32) (x1 : Int32) (h : Hp) (Q : Option TV → Hp → Prop) : Prop := T 13 0 [some (tI x0), some (tI x1)] [] h Q
abbrev tX11_begin (a0 : Nat) (x1 : Int32) (x2 : Int32) (x3 : Int32) (h : Hp) (Q : Option TV → Hp → Prop) : Prop := T 14 0 [some (tR (some a0)), some (tI x1), some (tI x2), some (tI x3), none] [] h Q
abbrev tX11_begin_34 (a0 : Nat) (x1 : Int32) (x2 : Int32) (x3 : Int32) (s0 : Int32) (h : Hp) (Q : Option TV → Hp → Prop) : Prop := T 14 34 [some (tR (some a0)), some (tI x1), some (tI x2), some (tI x3), none] [tI s0] h Q
abbrev tX11_function (a0 : Nat) (x1 : Int32) (x2 : Int32) (x3 : Int32) (h : Hp) (Q : Option TV → Hp → Prop) : Prop := T 15 0 [some (tR (some a0)), some (tI x1), some (tI x2), some (tI x3)] [] h Q
abbrev tX10_instructionsInAll (a0 : Nat) (h : Hp) (Q : Option TV → Hp → Prop) : Prop := T 16 0 [some (tR (some a0))] [] h Q
abbrev tX3_init (a0 : Nat) (x1 : Int32) (x2 : Int32) (x3 : Int32) (r4 : Option Nat) (h : Hp) (Q : Option TV → Hp → Prop) : Prop := T 17 0 [some (tR (some a0)), some (tI x1), some (tI x2), some (tI x3), some (tR r4)] [] h Q
abbrev tX0_append (a0 : Nat) (x1 : Int32) (x2 : Int32) (x3 : Int32) (h : Hp) (Q : Option TV → Hp → Prop) : Prop := T 18 0 [some (tR (some a0)), some (tI x1), some (tI x2), some (tI x3)] [] h Q
abbrev tX0_die (a0 : Nat) (h : Hp) (Q : Option TV → Hp → Prop) : Prop := T 19 0 [some (tR (some a0))] [] h Q
abbrev tX0_writeTrap (a0 : Nat) (x1 : Int32) (x2 : Int32) (h : Hp) (Q : Option TV → Hp → Prop) : Prop := T 20 0 [some (tR (some a0)), some (tI x1), some (tI x2)] [] h Q
abbrev tX0_ownOperands (a0 : Nat) (h : Hp) (Q : Option TV → Hp → Prop) : Prop := T 21 0 [some (tR (some a0))] [] h Q
abbrev tX0_has (a0 : Nat) (x1 : Int32) (h : Hp) (Q : Option TV → Hp → Prop) : Prop := T 22 0 [some (tR (some a0)), some (tI x1)] [] h Q
abbrev tX0_take (a0 : Nat) (x1 : Int32) (h : Hp) (Q : Option TV → Hp → Prop) : Prop := T 23 0 [some (tR (some a0)), some (tI x1)] [] h Q
abbrev tX0_put (a0 : Nat) (x1 : Int32) (h : Hp) (Q : Option TV → Hp → Prop) : Prop := T 24 0 [some (tR (some a0)), some (tI x1)] [] h Q
abbrev tX0_writeStart (a0 : Nat) (x1 : Int32) (x2 : Int32) (x3 : Int32) (h : Hp) (Q : Option TV → Hp → Prop) : Prop := T 25 0 [some (tR (some a0)), some (tI x1), some (tI x2), some (tI x3), none, none] [] h Q
abbrev tX0_writeStart_30 (a0 : Nat) (x1 : Int32) (x2 : Int32) (x3 : Int32) (s0 : Int32) (h : Hp) (Q : Option TV → Hp → Prop) : Prop := T 25 30 [some (tR (some a0)), some (tI x1), some (tI x2), some (tI x3), none, none] [tI s0] h Q
abbrev tX4_mayTurn (a0 : Nat) (h : Hp) (Q : Option TV → Hp → Prop) : Prop := T 26 0 [some (tR (some a0))] [] h Q
abbrev tX0_hasJustResults (a0 : Nat) (h : Hp) (Q : Option TV → Hp → Prop) : Prop := T 27 0 [some (tR (some a0)), none] [] h Q
abbrev tX0_writeElse (a0 : Nat) (x1 : Int32) (x2 : Int32) (h : Hp) (Q : Option TV → Hp → Prop) : Prop := T 28 0 [some (tR (some a0)), some (tI x1), some (tI x2)] [] h Q
abbrev tX0_labelAt (a0 : Nat) (x1 : Int32) (h : Hp) (Q : Option TV → Hp → Prop) : Prop := T 29 0 [some (tR (some a0)), some (tI x1), none, none] [] h Q
abbrev tX0_labelAt_21 (a0 : Nat) (x1 : Int32) (r2 : Option Nat) (x3 : Int32) (h : Hp) (Q : Option TV → Hp → Prop) : Prop := T 29 21 [some (tR (some a0)), some (tI x1), some (tR r2), some (tI x3)] [] h Q
abbrev tX4_wanted (a0 : Nat) (h : Hp) (Q : Option TV → Hp → Prop) : Prop := T 30 0 [some (tR (some a0))] [] h Q
abbrev tX0_writeEntry (a0 : Nat) (x1 : Int32) (x2 : Int32) (h : Hp) (Q : Option TV → Hp → Prop) : Prop := T 31 0 [some (tR (some a0)), some (tI x1), some (tI x2), none] [] h Q
abbrev tX0_writeEntry_50 (a0 : Nat) (x1 : Int32) (x2 : Int32) (r3 : Option Nat) (h : Hp) (Q : Option TV → Hp → Prop) : Prop := T 31 50 [some (tR (some a0)), some (tI x1), some (tI x2), some (tR r3)] [] h Q
abbrev tX4_stepBehind (a0 : Nat) (h : Hp) (Q : Option TV → Hp → Prop) : Prop := T 32 0 [some (tR (some a0))] [] h Q
abbrev tX3_settled (a0 : Nat) (h : Hp) (Q : Option TV → Hp → Prop) : Prop := T 33 0 [some (tR (some a0))] [] h Q
abbrev tX4_stepOtherwise (a0 : Nat) (h : Hp) (Q : Option TV → Hp → Prop) : Prop := T 34 0 [some (tR (some a0))] [] h Q
abbrev tX4_stepOfBranch (a0 : Nat) (h : Hp) (Q : Option TV → Hp → Prop) : Prop := T 35 0 [some (tR (some a0))] [] h Q
abbrev tX4_stepOfBranch_25 (a0 : Nat) (h : Hp) (Q : Option TV → Hp → Prop) : Prop := T 35 25 [some (tR (some a0))] [] h Q
abbrev tX3_aim (a0 : Nat) (h : Hp) (Q : Option TV → Hp → Prop) : Prop := T 36 0 [some (tR (some a0))] [] h Q
abbrev tX3_aim_34 (a0 : Nat) (s0 : Option Nat) (s1 : Option Nat) (h : Hp) (Q : Option TV → Hp → Prop) : Prop := T 36 34 [some (tR (some a0))] [tR s0, tR s1] h Q
abbrev tX0_flatten (a0 : Nat) (h : Hp) (Q : Option TV → Hp → Prop) : Prop := T 37 0 [some (tR (some a0)), none, none] [] h Q
abbrev tX0_flatten_7 (a0 : Nat) (r1 : Option Nat) (r2 : Option Nat) (h : Hp) (Q : Option TV → Hp → Prop) : Prop := T 37 7 [some (tR (some a0)), some (tR r1), some (tR r2)] [] h Q
abbrev tX0_flatten_24 (a0 : Nat) (r2 : Option Nat) (s0 : Option Nat) (s1 : Option Nat) (h : Hp) (Q : Option TV → Hp → Prop) : Prop := T 37 24 [some (tR (some a0)), none, some (tR r2)] [tR s0, tR s1] h Q
abbrev tX0_flatten_42 (a0 : Nat) (r1 : Option Nat) (r2 : Option Nat) (h : Hp) (Q : Option TV → Hp → Prop) : Prop := T 37 42 [some (tR (some a0)), some (tR r1), some (tR r2)] [] h Q
abbrev tX0_writeEnd (a0 : Nat) (x1 : Int32) (x2 : Int32) (h : Hp) (Q : Option TV → Hp → Prop) : Prop := T 38 0 [some (tR (some a0)), some (tI x1), some (tI x2), none] [] h Q
abbrev tX0_writeEnd_38 (a0 : Nat) (x1 : Int32) (x2 : Int32) (h : Hp) (Q : Option TV → Hp → Prop) : Prop := T 38 38 [some (tR (some a0)), some (tI x1), some (tI x2), none] [] h Q
abbrev tX0_writeBranch (a0 : Nat) (x1 : Int32) (x2 : Int32) (x3 : Int32) (r4 : Option Nat) (h : Hp) (Q : Option TV → Hp → Prop) : Prop := T 39 0 [some (tR (some a0)), some (tI x1), some (tI x2), some (tI x3), some (tR r4)] [] h Q
abbrev tX0_writeBranchIf (a0 : Nat) (x1 : Int32) (x2 : Int32) (h : Hp) (Q : Option TV → Hp → Prop) : Prop := T 40 0 [some (tR (some a0)), some (tI x1), some (tI x2), none] [] h Q
abbrev tX0_writeTable (a0 : Nat) (x1 : Int32) (x2 : Int32) (h : Hp) (Q : Option TV → Hp → Prop) : Prop := T 41 0 [some (tR (some a0)), some (tI x1), some (tI x2)] [] h Q
abbrev tX8_find (a0 : Nat) (x1 : Int32) (h : Hp) (Q : Option TV → Hp → Prop) : Prop := T 42 0 [some (tR (some a0)), some (tI x1)] [] h Q
abbrev tX0_writeCall (a0 : Nat) (x1 : Int32) (x2 : Int32) (h : Hp) (Q : Option TV → Hp → Prop) : Prop := T 43 0 [some (tR (some a0)), some (tI x1), some (tI x2), none] [] h Q
abbrev tX0_writeCallByTable (a0 : Nat) (x1 : Int32) (x2 : Int32) (h : Hp) (Q : Option TV → Hp → Prop) : Prop := T 44 0 [some (tR (some a0)), some (tI x1), some (tI x2)] [] h Q
abbrev tX7_takenBy (x0 : Int32) (h : Hp) (Q : Option TV → Hp → Prop) : Prop := T 45 0 [some (tI x0)] [] h Q
abbrev tX7_takenBy_14 (x0 : Int32) (h : Hp) (Q : Option TV → Hp → Prop) : Prop := T 45 14 [some (tI x0)] [] h Q
abbrev tX7_takenBy_28 (x0 : Int32) (h : Hp) (Q : Option TV → Hp → Prop) : Prop := T 45 28 [some (tI x0)] [] h Q
abbrev tX0_isInPlace (a0 : Nat) (x1 : Int32) (x2 : Int32) (h : Hp) (Q : Option TV → Hp → Prop) : Prop := T 46 0 [some (tR (some a0)), some (tI x1), some (tI x2)] [] h Q
abbrev tX7_putBy (x0 : Int32) (h : Hp) (Q : Option TV → Hp → Prop) : Prop := T 47 0 [some (tI x0)] [] h Q
abbrev tX7_putBy_14 (x0 : Int32) (h : Hp) (Q : Option TV → Hp → Prop) : Prop := T 47 14 [some (tI x0)] [] h Q
abbrev tX0_writePlain (a0 : Nat) (x1 : Int32) (x2 : Int32) (x3 : Int32) (h : Hp) (Q : Option TV → Hp → Prop) : Prop := T 48 0 [some (tR (some a0)), some (tI x1), some (tI x2), some (tI x3), none] [] h Q
abbrev tX0_write (a0 : Nat) (x1 : Int32) (x2 : Int32) (x3 : Int32) (h : Hp) (Q : Option TV → Hp → Prop) : Prop := T 49 0 [some (tR (some a0)), some (tI x1), some (tI x2), some (tI x3)] [] h Q
abbrev tX0_write_22 (a0 : Nat) (x1 : Int32) (x2 : Int32) (x3 : Int32) (h : Hp) (Q : Option TV → Hp → Prop) : Prop := T 49 22 [some (tR (some a0)), some (tI x1), some (tI x2), some (tI x3)] [] h Q
abbrev tX0_isFinished (a0 : Nat) (h : Hp) (Q : Option TV → Hp → Prop) : Prop := T 50 0 [some (tR (some a0))] [] h Q
abbrev tX10_keepDraft (a0 : Nat) (h : Hp) (Q : Option TV → Hp → Prop) : Prop := T 51 0 [some (tR (some a0))] [] h Q
abbrev tX10_code (a0 : Nat) (x1 : Int32) (x2 : Int32) (x3 : Int32) (h : Hp) (Q : Option TV → Hp → Prop) : Prop := T 52 0 [some (tR (some a0)), some (tI x1), some (tI x2), some (tI x3)] [] h Q
abbrev tX10_code_48 (a0 : Nat) (h : Hp) (Q : Option TV → Hp → Prop) : Prop := T 52 48 [some (tR (some a0)), none, none, none] [] h Q
abbrev tX11_isLabel (a0 : Nat) (x1 : Int32) (h : Hp) (Q : Option TV → Hp → Prop) : Prop := T 53 0 [some (tR (some a0)), some (tI x1)] [] h Q
abbrev tX11_inner (a0 : Nat) (h : Hp) (Q : Option TV → Hp → Prop) : Prop := T 54 0 [some (tR (some a0))] [] h Q
abbrev tX11_wants (a0 : Nat) (x1 : Int32) (h : Hp) (Q : Option TV → Hp → Prop) : Prop := T 55 0 [some (tR (some a0)), some (tI x1)] [] h Q
abbrev tX11_has (a0 : Nat) (x1 : Int32) (h : Hp) (Q : Option TV → Hp → Prop) : Prop := T 56 0 [some (tR (some a0)), some (tI x1)] [] h Q
abbrev tX11_die (a0 : Nat) (h : Hp) (Q : Option TV → Hp → Prop) : Prop := T 57 0 [some (tR (some a0))] [] h Q
abbrev tX11_entryTo (a0 : Nat) (x1 : Int32) (h : Hp) (Q : Option TV → Hp → Prop) : Prop := T 58 0 [some (tR (some a0)), some (tI x1)] [] h Q
abbrev tX11_entryTo_53 (a0 : Nat) (x1 : Int32) (h : Hp) (Q : Option TV → Hp → Prop) : Prop := T 58 53 [some (tR (some a0)), some (tI x1)] [] h Q
abbrev tX11_ends (a0 : Nat) (x1 : Int32) (h : Hp) (Q : Option TV → Hp → Prop) : Prop := T 59 0 [some (tR (some a0)), some (tI x1)] [] h Q
abbrev tX11_take (a0 : Nat) (x1 : Int32) (h : Hp) (Q : Option TV → Hp → Prop) : Prop := T 60 0 [some (tR (some a0)), some (tI x1)] [] h Q
abbrev tX11_block (a0 : Nat) (x1 : Int32) (x2 : Int32) (x3 : Int32) (h : Hp) (Q : Option TV → Hp → Prop) : Prop := T 61 0 [some (tR (some a0)), some (tI x1), some (tI x2), some (tI x3), none] [] h Q
abbrev tX11_block_12 (a0 : Nat) (x1 : Int32) (x2 : Int32) (x3 : Int32) (s0 : Int32) (h : Hp) (Q : Option TV → Hp → Prop) : Prop := T 61 12 [some (tR (some a0)), some (tI x1), some (tI x2), some (tI x3), none] [tI s0] h Q
abbrev tX11_isDone (a0 : Nat) (h : Hp) (Q : Option TV → Hp → Prop) : Prop := T 62 0 [some (tR (some a0))] [] h Q
abbrev tX11_otherwise (a0 : Nat) (h : Hp) (Q : Option TV → Hp → Prop) : Prop := T 63 0 [some (tR (some a0))] [] h Q
abbrev tX11_end (a0 : Nat) (h : Hp) (Q : Option TV → Hp → Prop) : Prop := T 64 0 [some (tR (some a0)), none] [] h Q
abbrev tX11_end_43 (a0 : Nat) (h : Hp) (Q : Option TV → Hp → Prop) : Prop := T 64 43 [some (tR (some a0)), none] [] h Q
abbrev tX11_turn (a0 : Nat) (x1 : Int32) (x2 : Int32) (h : Hp) (Q : Option TV → Hp → Prop) : Prop := T 65 0 [some (tR (some a0)), some (tI x1), some (tI x2)] [] h Q
abbrev tX11_entries (a0 : Nat) (x1 : Int32) (h : Hp) (Q : Option TV → Hp → Prop) : Prop := T 66 0 [some (tR (some a0)), some (tI x1)] [] h Q
abbrev tX11_control (a0 : Nat) (x1 : Int32) (x2 : Int32) (x3 : Int32) (h : Hp) (Q : Option TV → Hp → Prop) : Prop := T 67 0 [some (tR (some a0)), some (tI x1), some (tI x2), some (tI x3)] [] h Q
abbrev tX11_plain (a0 : Nat) (x1 : Int32) (x2 : Int32) (h : Hp) (Q : Option TV → Hp → Prop) : Prop := T 68 0 [some (tR (some a0)), some (tI x1), some (tI x2), none] [] h Q
abbrev tX11_code (a0 : Nat) (x1 : Int32) (x2 : Int32) (x3 : Int32) (h : Hp) (Q : Option TV → Hp → Prop) : Prop := T 69 0 [some (tR (some a0)), some (tI x1), some (tI x2), some (tI x3), none, none, none] [] h Q
abbrev tX11_code_43 (a0 : Nat) (x1 : Int32) (x2 : Int32) (x3 : Int32) (h : Hp) (Q : Option TV → Hp → Prop) : Prop := T 69 43 [some (tR (some a0)), some (tI x1), some (tI x2), some (tI x3), none, none, none] [] h Q
abbrev tX11_code_80 (a0 : Nat) (x1 : Int32) (x2 : Int32) (x3 : Int32) (h : Hp) (Q : Option TV → Hp → Prop) : Prop := T 69 80 [some (tR (some a0)), some (tI x1), some (tI x2), some (tI x3), none, none, none] [] h Q
abbrev tX11_code_98 (a0 : Nat) (x1 : Int32) (x2 : Int32) (x3 : Int32) (h : Hp) (Q : Option TV → Hp → Prop) : Prop := T 69 98 [some (tR (some a0)), some (tI x1), some (tI x2), some (tI x3), none, none, none] [] h Q
abbrev tX11_code_108 (a0 : Nat) (x1 : Int32) (x2 : Int32) (x3 : Int32) (s0 : Int32) (h : Hp) (Q : Option TV → Hp → Prop) : Prop := T 69 108 [some (tR (some a0)), some (tI x1), some (tI x2), some (tI x3), none, none, none] [tI s0] h Q
abbrev tX8_removeLast (a0 : Nat) (h : Hp) (Q : Option TV → Hp → Prop) : Prop := T 70 0 [some (tR (some a0))] [] h Q
abbrev tX10_drop (a0 : Nat) (h : Hp) (Q : Option TV → Hp → Prop) : Prop := T 71 0 [some (tR (some a0))] [] h Q
abbrev tX11_drop (a0 : Nat) (h : Hp) (Q : Option TV → Hp → Prop) : Prop := T 72 0 [some (tR (some a0))] [] h Q
abbrev tX5_setTable (a0 : Nat) (x1 : Int32) (r2 : Option Nat) (h : Hp) (Q : Option TV → Hp → Prop) : Prop := T 73 0 [some (tR (some a0)), some (tI x1), some (tR r2)] [] h Q
abbrev tX8_findWhole (a0 : Nat) (x1 : Int32) (h : Hp) (Q : Option TV → Hp → Prop) : Prop := T 74 0 [some (tR (some a0)), some (tI x1), none] [] h Q
abbrev tX10_entry (a0 : Nat) (x1 : Int32) (x2 : Int32) (h : Hp) (Q : Option TV → Hp → Prop) : Prop := T 75 0 [some (tR (some a0)), some (tI x1), some (tI x2), none] [] h Q
abbrev tX11_isWhole (a0 : Nat) (x1 : Int32) (h : Hp) (Q : Option TV → Hp → Prop) : Prop := T 76 0 [some (tR (some a0)), some (tI x1)] [] h Q
abbrev tX11_isWhole_25 (a0 : Nat) (s0 : Int32) (s1 : Int32) (h : Hp) (Q : Option TV → Hp → Prop) : Prop := T 76 25 [some (tR (some a0)), none] [tI s0, tI s1] h Q
abbrev tX11_entry (a0 : Nat) (x1 : Int32) (x2 : Int32) (h : Hp) (Q : Option TV → Hp → Prop) : Prop := T 77 0 [some (tR (some a0)), some (tI x1), some (tI x2)] [] h Q
abbrev tX10_argument (a0 : Nat) (y1 : Int64) (h : Hp) (Q : Option TV → Hp → Prop) : Prop := T 78 0 [some (tR (some a0)), some (tL y1), none] [] h Q
abbrev tX11_argument (a0 : Nat) (y1 : Int64) (h : Hp) (Q : Option TV → Hp → Prop) : Prop := T 79 0 [some (tR (some a0)), some (tL y1), none] [] h Q
abbrev tX9_push (a0 : Nat) (y1 : Int64) (h : Hp) (Q : Option TV → Hp → Prop) : Prop := T 80 0 [some (tR (some a0)), some (tL y1), none] [] h Q
abbrev tX2_room (a0 : Nat) (h : Hp) (Q : Option TV → Hp → Prop) : Prop := T 81 0 [some (tR (some a0))] [] h Q
abbrev tX1_enter (a0 : Nat) (r1 : Option Nat) (x2 : Int32) (h : Hp) (Q : Option TV → Hp → Prop) : Prop := T 82 0 [some (tR (some a0)), some (tR r1), some (tI x2)] [] h Q
abbrev tX5_enter (a0 : Nat) (r1 : Option Nat) (h : Hp) (Q : Option TV → Hp → Prop) : Prop := T 83 0 [some (tR (some a0)), some (tR r1), none, none] [] h Q
abbrev tX5_enter_42 (a0 : Nat) (r1 : Option Nat) (h : Hp) (Q : Option TV → Hp → Prop) : Prop := T 83 42 [some (tR (some a0)), some (tR r1), none, none] [] h Q
abbrev tX5_enter_43 (a0 : Nat) (r1 : Option Nat) (s0 : Int32) (h : Hp) (Q : Option TV → Hp → Prop) : Prop := T 83 43 [some (tR (some a0)), some (tR r1), none, none] [tI s0] h Q
abbrev tX5_enter_81 (a0 : Nat) (r1 : Option Nat) (x3 : Int32) (h : Hp) (Q : Option TV → Hp → Prop) : Prop := T 83 81 [some (tR (some a0)), some (tR r1), none, some (tI x3)] [] h Q
abbrev tX5_isGoing (a0 : Nat) (h : Hp) (Q : Option TV → Hp → Prop) : Prop := T 84 0 [some (tR (some a0))] [] h Q
abbrev tX5_innermost (a0 : Nat) (h : Hp) (Q : Option TV → Hp → Prop) : Prop := T 85 0 [some (tR (some a0))] [] h Q
abbrev tX9_at (a0 : Nat) (x1 : Int32) (h : Hp) (Q : Option TV → Hp → Prop) : Prop := T 86 0 [some (tR (some a0)), some (tI x1)] [] h Q
abbrev tX9_set (a0 : Nat) (x1 : Int32) (y2 : Int64) (h : Hp) (Q : Option TV → Hp → Prop) : Prop := T 87 0 [some (tR (some a0)), some (tI x1), some (tL y2), none] [] h Q
abbrev tX9_keep (a0 : Nat) (x1 : Int32) (x2 : Int32) (h : Hp) (Q : Option TV → Hp → Prop) : Prop := T 88 0 [some (tR (some a0)), some (tI x1), some (tI x2), none, none] [] h Q
abbrev tX9_keep_10 (a0 : Nat) (x1 : Int32) (x2 : Int32) (x3 : Int32) (x4 : Int32) (h : Hp) (Q : Option TV → Hp → Prop) : Prop := T 88 10 [some (tR (some a0)), some (tI x1), some (tI x2), some (tI x3), some (tI x4)] [] h Q
abbrev tX5_leaveWhatIsOver (a0 : Nat) (h : Hp) (Q : Option TV → Hp → Prop) : Prop := T 89 0 [some (tR (some a0)), none, none] [] h Q
abbrev tX5_leaveWhatIsOver_2 (a0 : Nat) (x1 : Int32) (h : Hp) (Q : Option TV → Hp → Prop) : Prop := T 89 2 [some (tR (some a0)), some (tI x1), none] [] h Q
abbrev tX5_leaveWhatIsOver_95 (a0 : Nat) (x1 : Int32) (h : Hp) (Q : Option TV → Hp → Prop) : Prop := T 89 95 [some (tR (some a0)), some (tI x1), none] [] h Q
abbrev tX5_begin (a0 : Nat) (r1 : Option Nat) (r2 : Option Nat) (h : Hp) (Q : Option TV → Hp → Prop) : Prop := T 90 0 [some (tR (some a0)), some (tR r1), some (tR r2), none, none] [] h Q
abbrev tX5_begin_41 (a0 : Nat) (r1 : Option Nat) (r2 : Option Nat) (x3 : Int32) (x4 : Int32) (h : Hp) (Q : Option TV → Hp → Prop) : Prop := T 90 41 [some (tR (some a0)), some (tR r1), some (tR r2), some (tI x3), some (tI x4)] [] h Q
abbrev tX10_call (a0 : Nat) (x1 : Int32) (h : Hp) (Q : Option TV → Hp → Prop) : Prop := T 91 0 [some (tR (some a0)), some (tI x1), none] [] h Q
abbrev tX11_push (a0 : Nat) (y1 : Int64) (h : Hp) (Q : Option TV → Hp → Prop) : Prop := T 92 0 [some (tR (some a0)), some (tL y1), none] [] h Q
abbrev tX11_namesOf (a0 : Nat) (x1 : Int32) (h : Hp) (Q : Option TV → Hp → Prop) : Prop := T 93 0 [some (tR (some a0)), some (tI x1)] [] h Q
abbrev tX11_asks (a0 : Nat) (x1 : Int32) (h : Hp) (Q : Option TV → Hp → Prop) : Prop := T 94 0 [some (tR (some a0)), some (tI x1)] [] h Q
abbrev tX11_enter (a0 : Nat) (x1 : Int32) (h : Hp) (Q : Option TV → Hp → Prop) : Prop := T 95 0 [some (tR (some a0)), some (tI x1), none] [] h Q
abbrev tX11_enter_102 (a0 : Nat) (x1 : Int32) (x2 : Int32) (h : Hp) (Q : Option TV → Hp → Prop) : Prop := T 95 102 [some (tR (some a0)), some (tI x1), some (tI x2)] [] h Q
abbrev tX11_begins (x0 : Int32) (h : Hp) (Q : Option TV → Hp → Prop) : Prop := T 96 0 [some (tI x0)] [] h Q
abbrev tX11_endOf (a0 : Nat) (x1 : Int32) (x2 : Int32) (h : Hp) (Q : Option TV → Hp → Prop) : Prop := T 97 0 [some (tR (some a0)), some (tI x1), some (tI x2), none, none] [] h Q
abbrev tX11_endOf_5 (a0 : Nat) (x2 : Int32) (x3 : Int32) (x4 : Int32) (h : Hp) (Q : Option TV → Hp → Prop) : Prop := T 97 5 [some (tR (some a0)), none, some (tI x2), some (tI x3), some (tI x4)] [] h Q
abbrev tX11_endOf_36 (a0 : Nat) (x2 : Int32) (x3 : Int32) (x4 : Int32) (h : Hp) (Q : Option TV → Hp → Prop) : Prop := T 97 36 [some (tR (some a0)), none, some (tI x2), some (tI x3), some (tI x4)] [] h Q
abbrev tX11_endOf_71 (a0 : Nat) (x2 : Int32) (x4 : Int32) (s0 : Int32) (s1 : Int32) (h : Hp) (Q : Option TV → Hp → Prop) : Prop := T 97 71 [some (tR (some a0)), none, some (tI x2), none, some (tI x4)] [tI s0, tI s1] h Q
abbrev tX11_keep (a0 : Nat) (x1 : Int32) (x2 : Int32) (h : Hp) (Q : Option TV → Hp → Prop) : Prop := T 98 0 [some (tR (some a0)), some (tI x1), some (tI x2), none] [] h Q
abbrev tX11_keep_2 (a0 : Nat) (x1 : Int32) (x2 : Int32) (x3 : Int32) (h : Hp) (Q : Option TV → Hp → Prop) : Prop := T 98 2 [some (tR (some a0)), some (tI x1), some (tI x2), some (tI x3)] [] h Q
abbrev tX11_back (a0 : Nat) (h : Hp) (Q : Option TV → Hp → Prop) : Prop := T 99 0 [some (tR (some a0)), none, none] [] h Q
abbrev tX11_back_95 (a0 : Nat) (x2 : Int32) (h : Hp) (Q : Option TV → Hp → Prop) : Prop := T 99 95 [some (tR (some a0)), none, some (tI x2)] [] h Q
abbrev tX11_pass (a0 : Nat) (h : Hp) (Q : Option TV → Hp → Prop) : Prop := T 100 0 [some (tR (some a0)), none] [] h Q
abbrev tX11_pass_61 (a0 : Nat) (h : Hp) (Q : Option TV → Hp → Prop) : Prop := T 100 61 [some (tR (some a0)), none] [] h Q
abbrev tX11_pass_147 (a0 : Nat) (h : Hp) (Q : Option TV → Hp → Prop) : Prop := T 100 147 [some (tR (some a0)), none] [] h Q
abbrev tX11_pass_157 (a0 : Nat) (h : Hp) (Q : Option TV → Hp → Prop) : Prop := T 100 157 [some (tR (some a0)), none] [] h Q
abbrev tX11_call (a0 : Nat) (x1 : Int32) (h : Hp) (Q : Option TV → Hp → Prop) : Prop := T 101 0 [some (tR (some a0)), some (tI x1), none] [] h Q
abbrev tX11_call_55 (a0 : Nat) (x1 : Int32) (x2 : Int32) (h : Hp) (Q : Option TV → Hp → Prop) : Prop := T 101 55 [some (tR (some a0)), some (tI x1), some (tI x2)] [] h Q
abbrev tX5_trap (a0 : Nat) (x1 : Int32) (h : Hp) (Q : Option TV → Hp → Prop) : Prop := T 102 0 [some (tR (some a0)), some (tI x1)] [] h Q
abbrev tX9_pop (a0 : Nat) (h : Hp) (Q : Option TV → Hp → Prop) : Prop := T 103 0 [some (tR (some a0))] [] h Q
abbrev tX7_isTrue (y0 : Int64) (h : Hp) (Q : Option TV → Hp → Prop) : Prop := T 104 0 [some (tL y0), none] [] h Q
abbrev tX1_operandsFrom (a0 : Nat) (h : Hp) (Q : Option TV → Hp → Prop) : Prop := T 105 0 [some (tR (some a0))] [] h Q
abbrev tX5_branch (a0 : Nat) (r1 : Option Nat) (r2 : Option Nat) (h : Hp) (Q : Option TV → Hp → Prop) : Prop := T 106 0 [some (tR (some a0)), some (tR r1), some (tR r2)] [] h Q
abbrev tX5_chosenEntry (a0 : Nat) (r1 : Option Nat) (h : Hp) (Q : Option TV → Hp → Prop) : Prop := T 107 0 [some (tR (some a0)), some (tR r1), none, none, none, none] [] h Q
abbrev tX5_chosenEntry_27 (a0 : Nat) (r1 : Option Nat) (y2 : Int64) (s0 : Option Nat) (h : Hp) (Q : Option TV → Hp → Prop) : Prop := T 107 27 [some (tR (some a0)), some (tR r1), some (tL y2), none, none, none] [tR s0] h Q
abbrev tX5_chosenEntry_32 (a0 : Nat) (r1 : Option Nat) (y2 : Int64) (r4 : Option Nat) (x5 : Int32) (h : Hp) (Q : Option TV → Hp → Prop) : Prop := T 107 32 [some (tR (some a0)), some (tR r1), some (tL y2), none, some (tR r4), some (tI x5)] [] h Q
abbrev tX2_hasSignature (a0 : Nat) (x1 : Int32) (x2 : Int32) (h : Hp) (Q : Option TV → Hp → Prop) : Prop := T 108 0 [some (tR (some a0)), some (tI x1), some (tI x2)] [] h Q
abbrev tX5_enterByTable (a0 : Nat) (r1 : Option Nat) (h : Hp) (Q : Option TV → Hp → Prop) : Prop := T 109 0 [some (tR (some a0)), some (tR r1), none, none, none] [] h Q
abbrev tX5_control (a0 : Nat) (r1 : Option Nat) (r2 : Option Nat) (h : Hp) (Q : Option TV → Hp → Prop) : Prop := T 110 0 [some (tR (some a0)), some (tR r1), some (tR r2)] [] h Q
abbrev tX5_select (a0 : Nat) (h : Hp) (Q : Option TV → Hp → Prop) : Prop := T 111 0 [some (tR (some a0)), none, none, none, none, none] [] h Q
abbrev tX5_select_42 (a0 : Nat) (s0 : Int64) (s1 : Option Nat) (h : Hp) (Q : Option TV → Hp → Prop) : Prop := T 111 42 [some (tR (some a0)), none, none, none, none, none] [tL s0, tR s1] h Q
abbrev tX5_globalAt (a0 : Nat) (x1 : Int32) (h : Hp) (Q : Option TV → Hp → Prop) : Prop := T 112 0 [some (tR (some a0)), some (tI x1)] [] h Q
abbrev tX5_setGlobal (a0 : Nat) (x1 : Int32) (y2 : Int64) (h : Hp) (Q : Option TV → Hp → Prop) : Prop := T 113 0 [some (tR (some a0)), some (tI x1), some (tL y2), none] [] h Q
abbrev tX5_move (a0 : Nat) (r1 : Option Nat) (r2 : Option Nat) (h : Hp) (Q : Option TV → Hp → Prop) : Prop := T 114 0 [some (tR (some a0)), some (tR r1), some (tR r2)] [] h Q
abbrev tX7_sizeOf (x0 : Int32) (h : Hp) (Q : Option TV → Hp → Prop) : Prop := T 115 0 [some (tI x0)] [] h Q
abbrev tX6_holds (a0 : Nat) (y1 : Int64) (x3 : Int32) (h : Hp) (Q : Option TV → Hp → Prop) : Prop := T 116 0 [some (tR (some a0)), some (tL y1), none, some (tI x3), none, none] [] h Q
abbrev tX6_load (a0 : Nat) (y1 : Int64) (x3 : Int32) (h : Hp) (Q : Option TV → Hp → Prop) : Prop := T 117 0 [some (tR (some a0)), some (tL y1), none, some (tI x3), none, none, none, none] [] h Q
abbrev tX6_load_23 (a0 : Nat) (x4 : Int32) (y5 : Int64) (x7 : Int32) (h : Hp) (Q : Option TV → Hp → Prop) : Prop := T 117 23 [some (tR (some a0)), none, none, none, some (tI x4), some (tL y5), none, some (tI x7)] [] h Q
abbrev tX7_widened (x0 : Int32) (y1 : Int64) (h : Hp) (Q : Option TV → Hp → Prop) : Prop := T 118 0 [some (tI x0), some (tL y1), none] [] h Q
abbrev tX5_load (a0 : Nat) (r1 : Option Nat) (h : Hp) (Q : Option TV → Hp → Prop) : Prop := T 119 0 [some (tR (some a0)), some (tR r1), none, none, none] [] h Q
abbrev tX6_store (a0 : Nat) (y1 : Int64) (x3 : Int32) (y4 : Int64) (h : Hp) (Q : Option TV → Hp → Prop) : Prop := T 120 0 [some (tR (some a0)), some (tL y1), none, some (tI x3), some (tL y4), none, none, none] [] h Q
abbrev tX6_store_17 (a0 : Nat) (x3 : Int32) (y4 : Int64) (x6 : Int32) (x7 : Int32) (h : Hp) (Q : Option TV → Hp → Prop) : Prop := T 120 17 [some (tR (some a0)), none, none, some (tI x3), some (tL y4), none, some (tI x6), some (tI x7)] [] h Q
abbrev tX5_store (a0 : Nat) (r1 : Option Nat) (h : Hp) (Q : Option TV → Hp → Prop) : Prop := T 121 0 [some (tR (some a0)), some (tR r1), none, none, none, none, none] [] h Q
abbrev tX6_grow (a0 : Nat) (y1 : Int64) (h : Hp) (Q : Option TV → Hp → Prop) : Prop := T 122 0 [some (tR (some a0)), some (tL y1), none, none] [] h Q
abbrev tX5_provide (a0 : Nat) (r1 : Option Nat) (h : Hp) (Q : Option TV → Hp → Prop) : Prop := T 123 0 [some (tR (some a0)), some (tR r1)] [] h Q
abbrev tX5_divide (a0 : Nat) (y1 : Int64) (y3 : Int64) (h : Hp) (Q : Option TV → Hp → Prop) : Prop := T 124 0 [some (tR (some a0)), some (tL y1), none, some (tL y3), none] [] h Q
abbrev tX7_isOf64 (x0 : Int32) (h : Hp) (Q : Option TV → Hp → Prop) : Prop := T 125 0 [some (tI x0)] [] h Q
abbrev tX7_of64 (x0 : Int32) (y1 : Int64) (y3 : Int64) (h : Hp) (Q : Option TV → Hp → Prop) : Prop := T 126 0 [some (tI x0), some (tL y1), none, some (tL y3), none] [] h Q
abbrev tX7_of32 (x0 : Int32) (x1 : Int32) (x2 : Int32) (h : Hp) (Q : Option TV → Hp → Prop) : Prop := T 127 0 [some (tI x0), some (tI x1), some (tI x2)] [] h Q
abbrev tX5_computeOfTwo (a0 : Nat) (x1 : Int32) (h : Hp) (Q : Option TV → Hp → Prop) : Prop := T 128 0 [some (tR (some a0)), some (tI x1), none, none, none, none] [] h Q
abbrev tX5_computeOfOne (a0 : Nat) (x1 : Int32) (h : Hp) (Q : Option TV → Hp → Prop) : Prop := T 129 0 [some (tR (some a0)), some (tI x1), none, none] [] h Q
abbrev tX5_computeOfOne_68 (a0 : Nat) (s0 : Int64) (s1 : Option Nat) (h : Hp) (Q : Option TV → Hp → Prop) : Prop := T 129 68 [some (tR (some a0)), none, none, none] [tL s0, tR s1] h Q
abbrev tX5_computeOfOne_89 (a0 : Nat) (s0 : Int64) (s1 : Option Nat) (h : Hp) (Q : Option TV → Hp → Prop) : Prop := T 129 89 [some (tR (some a0)), none, none, none] [tL s0, tR s1] h Q
abbrev tX5_step (a0 : Nat) (h : Hp) (Q : Option TV → Hp → Prop) : Prop := T 130 0 [some (tR (some a0)), none, none] [] h Q
abbrev tX5_step_147 (a0 : Nat) (h : Hp) (Q : Option TV → Hp → Prop) : Prop := T 130 147 [some (tR (some a0)), none, none] [] h Q
abbrev tX5_advance (a0 : Nat) (x1 : Int32) (h : Hp) (Q : Option TV → Hp → Prop) : Prop := T 131 0 [some (tR (some a0)), some (tI x1), none, none] [] h Q
abbrev tX5_advance_4 (a0 : Nat) (x1 : Int32) (x2 : Int32) (x3 : Int32) (h : Hp) (Q : Option TV → Hp → Prop) : Prop := T 131 4 [some (tR (some a0)), some (tI x1), some (tI x2), some (tI x3)] [] h Q
abbrev tX10_run (a0 : Nat) (x1 : Int32) (h : Hp) (Q : Option TV → Hp → Prop) : Prop := T 132 0 [some (tR (some a0)), some (tI x1)] [] h Q
abbrev tX11_traps (a0 : Nat) (x1 : Int32) (h : Hp) (Q : Option TV → Hp → Prop) : Prop := T 133 0 [some (tR (some a0)), some (tI x1)] [] h Q
abbrev tX11_pop (a0 : Nat) (h : Hp) (Q : Option TV → Hp → Prop) : Prop := T 134 0 [some (tR (some a0))] [] h Q
abbrev tX11_isTrue (y0 : Int64) (h : Hp) (Q : Option TV → Hp → Prop) : Prop := T 135 0 [some (tL y0), none] [] h Q
abbrev tX11_condition (a0 : Nat) (x1 : Int32) (h : Hp) (Q : Option TV → Hp → Prop) : Prop := T 136 0 [some (tR (some a0)), some (tI x1), none, none] [] h Q
abbrev tX11_beginOf (a0 : Nat) (x1 : Int32) (x2 : Int32) (h : Hp) (Q : Option TV → Hp → Prop) : Prop := T 137 0 [some (tR (some a0)), some (tI x1), some (tI x2), none, none, none] [] h Q
abbrev tX11_beginOf_10 (a0 : Nat) (x3 : Int32) (x4 : Int32) (x5 : Int32) (h : Hp) (Q : Option TV → Hp → Prop) : Prop := T 137 10 [some (tR (some a0)), none, none, some (tI x3), some (tI x4), some (tI x5)] [] h Q
abbrev tX11_beginOf_46 (a0 : Nat) (x3 : Int32) (x4 : Int32) (x5 : Int32) (h : Hp) (Q : Option TV → Hp → Prop) : Prop := T 137 46 [some (tR (some a0)), none, none, some (tI x3), some (tI x4), some (tI x5)] [] h Q
abbrev tX11_beginOf_71 (a0 : Nat) (x3 : Int32) (x4 : Int32) (x5 : Int32) (h : Hp) (Q : Option TV → Hp → Prop) : Prop := T 137 71 [some (tR (some a0)), none, none, some (tI x3), some (tI x4), some (tI x5)] [] h Q
abbrev tX11_beginOf_82 (a0 : Nat) (x3 : Int32) (x5 : Int32) (s0 : Int32) (s1 : Int32) (h : Hp) (Q : Option TV → Hp → Prop) : Prop := T 137 82 [some (tR (some a0)), none, none, some (tI x3), none, some (tI x5)] [tI s0, tI s1] h Q
abbrev tX11_beginOf_95 (a0 : Nat) (x4 : Int32) (x5 : Int32) (s0 : Int32) (s1 : Int32) (h : Hp) (Q : Option TV → Hp → Prop) : Prop := T 137 95 [some (tR (some a0)), none, none, none, some (tI x4), some (tI x5)] [tI s0, tI s1] h Q
abbrev tX11_beginOf_97 (a0 : Nat) (x3 : Int32) (x4 : Int32) (x5 : Int32) (h : Hp) (Q : Option TV → Hp → Prop) : Prop := T 137 97 [some (tR (some a0)), none, none, some (tI x3), some (tI x4), some (tI x5)] [] h Q
abbrev tX11_base (a0 : Nat) (h : Hp) (Q : Option TV → Hp → Prop) : Prop := T 138 0 [some (tR (some a0))] [] h Q
abbrev tX11_branch (a0 : Nat) (x1 : Int32) (h : Hp) (Q : Option TV → Hp → Prop) : Prop := T 139 0 [some (tR (some a0)), some (tI x1), none] [] h Q
abbrev tX11_branch_45 (a0 : Nat) (x2 : Int32) (s0 : Int32) (s1 : Option Nat) (h : Hp) (Q : Option TV → Hp → Prop) : Prop := T 139 45 [some (tR (some a0)), none, some (tI x2)] [tI s0, tR s1] h Q
abbrev tX11_outermost (a0 : Nat) (h : Hp) (Q : Option TV → Hp → Prop) : Prop := T 140 0 [some (tR (some a0)), none] [] h Q
abbrev tX11_outermost_2 (a0 : Nat) (x1 : Int32) (h : Hp) (Q : Option TV → Hp → Prop) : Prop := T 140 2 [some (tR (some a0)), some (tI x1)] [] h Q
abbrev tX11_callTable (a0 : Nat) (x1 : Int32) (x2 : Int32) (h : Hp) (Q : Option TV → Hp → Prop) : Prop := T 141 0 [some (tR (some a0)), some (tI x1), some (tI x2), none, none, none] [] h Q
abbrev tX11_callTable_28 (a0 : Nat) (x1 : Int32) (x2 : Int32) (y3 : Int64) (s0 : Int32) (h : Hp) (Q : Option TV → Hp → Prop) : Prop := T 141 28 [some (tR (some a0)), some (tI x1), some (tI x2), some (tL y3), none, none] [tI s0] h Q
abbrev tX11_callTable_83 (a0 : Nat) (h : Hp) (Q : Option TV → Hp → Prop) : Prop := T 141 83 [some (tR (some a0)), none, none, none, none, none] [] h Q
abbrev tX11_choose (a0 : Nat) (h : Hp) (Q : Option TV → Hp → Prop) : Prop := T 142 0 [some (tR (some a0)), none, none, none, none, none] [] h Q
abbrev tX11_choose_30 (a0 : Nat) (s0 : Int64) (s1 : Option Nat) (h : Hp) (Q : Option TV → Hp → Prop) : Prop := T 142 30 [some (tR (some a0)), none, none, none, none, none] [tL s0, tR s1] h Q
abbrev tX11_variable (a0 : Nat) (x1 : Int32) (x2 : Int32) (h : Hp) (Q : Option TV → Hp → Prop) : Prop := T 143 0 [some (tR (some a0)), some (tI x1), some (tI x2), none] [] h Q
abbrev tX11_size (x0 : Int32) (h : Hp) (Q : Option TV → Hp → Prop) : Prop := T 144 0 [some (tI x0)] [] h Q
abbrev tX11_move (a0 : Nat) (x1 : Int32) (x2 : Int32) (h : Hp) (Q : Option TV → Hp → Prop) : Prop := T 145 0 [some (tR (some a0)), some (tI x1), some (tI x2), none, none, none, none, none, none, none, none, none] [] h Q
abbrev tX11_move_16 (a0 : Nat) (x1 : Int32) (x2 : Int32) (x3 : Int32) (s0 : Int32) (h : Hp) (Q : Option TV → Hp → Prop) : Prop := T 145 16 [some (tR (some a0)), some (tI x1), some (tI x2), some (tI x3), none, none, none, none, none, none, none, none] [tI s0] h Q
abbrev tX11_move_31 (a0 : Nat) (x1 : Int32) (x2 : Int32) (x3 : Int32) (x4 : Int32) (s0 : Int64) (h : Hp) (Q : Option TV → Hp → Prop) : Prop := T 145 31 [some (tR (some a0)), some (tI x1), some (tI x2), some (tI x3), some (tI x4), none, none, none, none, none, none, none] [tL s0] h Q
abbrev tX11_move_87 (a0 : Nat) (x3 : Int32) (y5 : Int64) (x9 : Int32) (x10 : Int32) (h : Hp) (Q : Option TV → Hp → Prop) : Prop := T 145 87 [some (tR (some a0)), none, none, some (tI x3), none, some (tL y5), none, none, none, some (tI x9), some (tI x10), none] [] h Q
abbrev tX11_move_128 (a0 : Nat) (x1 : Int32) (x3 : Int32) (y5 : Int64) (x9 : Int32) (x10 : Int32) (h : Hp) (Q : Option TV → Hp → Prop) : Prop := T 145 128 [some (tR (some a0)), some (tI x1), none, some (tI x3), none, some (tL y5), none, none, none, some (tI x9), some (tI x10), none] [] h Q
abbrev tX11_move_183 (a0 : Nat) (x1 : Int32) (y5 : Int64) (x10 : Int32) (h : Hp) (Q : Option TV → Hp → Prop) : Prop := T 145 183 [some (tR (some a0)), some (tI x1), none, none, none, some (tL y5), none, none, none, none, some (tI x10), none] [] h Q
abbrev tX11_move_184 (a0 : Nat) (x1 : Int32) (y5 : Int64) (x10 : Int32) (s0 : Int32) (h : Hp) (Q : Option TV → Hp → Prop) : Prop := T 145 184 [some (tR (some a0)), some (tI x1), none, none, none, some (tL y5), none, none, none, none, some (tI x10), none] [tI s0] h Q
abbrev tX11_move_204 (a0 : Nat) (x1 : Int32) (s0 : Int64) (h : Hp) (Q : Option TV → Hp → Prop) : Prop := T 145 204 [some (tR (some a0)), some (tI x1), none, none, none, none, none, none, none, none, none, none] [tL s0] h Q
abbrev tX11_move_219 (a0 : Nat) (y5 : Int64) (s0 : Option Nat) (h : Hp) (Q : Option TV → Hp → Prop) : Prop := T 145 219 [some (tR (some a0)), none, none, none, none, some (tL y5), none, none, none, none, none, none] [tR s0] h Q
abbrev tX11_move_230 (a0 : Nat) (s0 : Int64) (s1 : Option Nat) (h : Hp) (Q : Option TV → Hp → Prop) : Prop := T 145 230 [some (tR (some a0)), none, none, none, none, none, none, none, none, none, none, none] [tL s0, tR s1] h Q
abbrev tX11_grow (a0 : Nat) (h : Hp) (Q : Option TV → Hp → Prop) : Prop := T 146 0 [some (tR (some a0)), none, none, none] [] h Q
abbrev tX11_grow_28 (a0 : Nat) (y1 : Int64) (s0 : Int32) (h : Hp) (Q : Option TV → Hp → Prop) : Prop := T 146 28 [some (tR (some a0)), some (tL y1), none, none] [tI s0] h Q
abbrev tX11_grow_45 (a0 : Nat) (y1 : Int64) (x3 : Int32) (s0 : Int64) (s1 : Option Nat) (h : Hp) (Q : Option TV → Hp → Prop) : Prop := T 146 45 [some (tR (some a0)), some (tL y1), none, some (tI x3)] [tL s0, tR s1] h Q
abbrev tX11_truth (x0 : Int32) (h : Hp) (Q : Option TV → Hp → Prop) : Prop := T 147 0 [some (tI x0)] [] h Q
abbrev tX11_work (a0 : Nat) (x1 : Int32) (h : Hp) (Q : Option TV → Hp → Prop) : Prop := T 148 0 [some (tR (some a0)), some (tI x1), none, none, none, none, none, none, none, none] [] h Q
abbrev tX11_work_12 (a0 : Nat) (x1 : Int32) (h : Hp) (Q : Option TV → Hp → Prop) : Prop := T 148 12 [some (tR (some a0)), some (tI x1), none, none, none, none, none, none, none, none] [] h Q
abbrev tX11_work_33 (a0 : Nat) (s0 : Int64) (s1 : Option Nat) (h : Hp) (Q : Option TV → Hp → Prop) : Prop := T 148 33 [some (tR (some a0)), none, none, none, none, none, none, none, none, none] [tL s0, tR s1] h Q
abbrev tX11_work_43 (a0 : Nat) (s0 : Int32) (s1 : Option Nat) (h : Hp) (Q : Option TV → Hp → Prop) : Prop := T 148 43 [some (tR (some a0)), none, none, none, none, none, none, none, none, none] [tI s0, tR s1] h Q
abbrev tX11_work_64 (a0 : Nat) (h : Hp) (Q : Option TV → Hp → Prop) : Prop := T 148 64 [some (tR (some a0)), none, none, none, none, none, none, none, none, none] [] h Q
abbrev tX11_work_358 (a0 : Nat) (s0 : Int32) (s1 : Option Nat) (h : Hp) (Q : Option TV → Hp → Prop) : Prop := T 148 358 [some (tR (some a0)), none, none, none, none, none, none, none, none, none] [tI s0, tR s1] h Q
abbrev tX11_work_381 (a0 : Nat) (s0 : Int32) (s1 : Option Nat) (h : Hp) (Q : Option TV → Hp → Prop) : Prop := T 148 381 [some (tR (some a0)), none, none, none, none, none, none, none, none, none] [tI s0, tR s1] h Q
abbrev tX11_work_404 (a0 : Nat) (s0 : Int32) (s1 : Option Nat) (h : Hp) (Q : Option TV → Hp → Prop) : Prop := T 148 404 [some (tR (some a0)), none, none, none, none, none, none, none, none, none] [tI s0, tR s1] h Q
abbrev tX11_work_427 (a0 : Nat) (s0 : Int32) (s1 : Option Nat) (h : Hp) (Q : Option TV → Hp → Prop) : Prop := T 148 427 [some (tR (some a0)), none, none, none, none, none, none, none, none, none] [tI s0, tR s1] h Q
abbrev tX11_work_449 (a0 : Nat) (s0 : Int32) (s1 : Option Nat) (h : Hp) (Q : Option TV → Hp → Prop) : Prop := T 148 449 [some (tR (some a0)), none, none, none, none, none, none, none, none, none] [tI s0, tR s1] h Q
abbrev tX11_work_471 (a0 : Nat) (s0 : Int32) (s1 : Option Nat) (h : Hp) (Q : Option TV → Hp → Prop) : Prop := T 148 471 [some (tR (some a0)), none, none, none, none, none, none, none, none, none] [tI s0, tR s1] h Q
abbrev tX11_simple (a0 : Nat) (x1 : Int32) (x2 : Int32) (x3 : Int32) (h : Hp) (Q : Option TV → Hp → Prop) : Prop := T 149 0 [some (tR (some a0)), some (tI x1), some (tI x2), some (tI x3)] [] h Q
abbrev tX11_simple_48 (a0 : Nat) (x1 : Int32) (x2 : Int32) (x3 : Int32) (h : Hp) (Q : Option TV → Hp → Prop) : Prop := T 149 48 [some (tR (some a0)), some (tI x1), some (tI x2), some (tI x3)] [] h Q
abbrev tX11_simple_69 (a0 : Nat) (x1 : Int32) (x2 : Int32) (x3 : Int32) (h : Hp) (Q : Option TV → Hp → Prop) : Prop := T 149 69 [some (tR (some a0)), some (tI x1), some (tI x2), some (tI x3)] [] h Q
abbrev tX11_step (a0 : Nat) (h : Hp) (Q : Option TV → Hp → Prop) : Prop := T 150 0 [some (tR (some a0)), none, none, none, none, none] [] h Q
abbrev tX11_step_219 (a0 : Nat) (s0 : Int32) (s1 : Int32) (s2 : Option Nat) (s3 : Option Nat) (h : Hp) (Q : Option TV → Hp → Prop) : Prop := T 150 219 [some (tR (some a0)), none, none, none, none, none] [tI s0, tI s1, tR s2, tR s3] h Q
abbrev tX11_step_262 (a0 : Nat) (h : Hp) (Q : Option TV → Hp → Prop) : Prop := T 150 262 [some (tR (some a0)), none, none, none, none, none] [] h Q
abbrev tX11_run (a0 : Nat) (x1 : Int32) (h : Hp) (Q : Option TV → Hp → Prop) : Prop := T 151 0 [some (tR (some a0)), some (tI x1), none] [] h Q
abbrev tX11_run_14 (a0 : Nat) (x1 : Int32) (x2 : Int32) (h : Hp) (Q : Option TV → Hp → Prop) : Prop := T 151 14 [some (tR (some a0)), some (tI x1), some (tI x2)] [] h Q
abbrev tX0_isDead (a0 : Nat) (h : Hp) (Q : Option TV → Hp → Prop) : Prop := T 152 0 [some (tR (some a0))] [] h Q
abbrev tX10_state (a0 : Nat) (x1 : Int32) (h : Hp) (Q : Option TV → Hp → Prop) : Prop := T 153 0 [some (tR (some a0)), some (tI x1)] [] h Q
abbrev tX11_state (a0 : Nat) (x1 : Int32) (h : Hp) (Q : Option TV → Hp → Prop) : Prop := T 154 0 [some (tR (some a0)), some (tI x1)] [] h Q
abbrev tX5_resultAt (a0 : Nat) (x1 : Int32) (h : Hp) (Q : Option TV → Hp → Prop) : Prop := T 155 0 [some (tR (some a0)), some (tI x1)] [] h Q
abbrev tX10_result (a0 : Nat) (x1 : Int32) (h : Hp) (Q : Option TV → Hp → Prop) : Prop := T 156 0 [some (tR (some a0)), some (tI x1)] [] h Q
abbrev tX11_result (a0 : Nat) (x1 : Int32) (h : Hp) (Q : Option TV → Hp → Prop) : Prop := T 157 0 [some (tR (some a0)), some (tI x1)] [] h Q
abbrev tX10_global (a0 : Nat) (x1 : Int32) (h : Hp) (Q : Option TV → Hp → Prop) : Prop := T 158 0 [some (tR (some a0)), some (tI x1)] [] h Q
abbrev tX11_global (a0 : Nat) (x1 : Int32) (h : Hp) (Q : Option TV → Hp → Prop) : Prop := T 159 0 [some (tR (some a0)), some (tI x1)] [] h Q
abbrev tX6_byteAt (a0 : Nat) (x1 : Int32) (h : Hp) (Q : Option TV → Hp → Prop) : Prop := T 160 0 [some (tR (some a0)), some (tI x1)] [] h Q
abbrev tX10_memory (a0 : Nat) (x1 : Int32) (h : Hp) (Q : Option TV → Hp → Prop) : Prop := T 161 0 [some (tR (some a0)), some (tI x1)] [] h Q
abbrev tX11_memory (a0 : Nat) (x1 : Int32) (h : Hp) (Q : Option TV → Hp → Prop) : Prop := T 162 0 [some (tR (some a0)), some (tI x1)] [] h Q
abbrev tX10_look (a0 : Nat) (x1 : Int32) (x2 : Int32) (h : Hp) (Q : Option TV → Hp → Prop) : Prop := T 163 0 [some (tR (some a0)), some (tI x1), some (tI x2), none] [] h Q
abbrev tX11_look (a0 : Nat) (x1 : Int32) (x2 : Int32) (h : Hp) (Q : Option TV → Hp → Prop) : Prop := T 164 0 [some (tR (some a0)), some (tI x1), some (tI x2)] [] h Q
abbrev tL_law (r0 : Option Nat) (h : Hp) (Q : Option TV → Hp → Prop) : Prop := T 165 0 [some (tR r0), none, none, none] [] h Q
abbrev tL_law_18 (r0 : Option Nat) (r1 : Option Nat) (r2 : Option Nat) (x3 : Int32) (h : Hp) (Q : Option TV → Hp → Prop) : Prop := T 165 18 [some (tR r0), some (tR r1), some (tR r2), some (tI x3)] [] h Q
abbrev tL_law_454 (r0 : Option Nat) (r1 : Option Nat) (r2 : Option Nat) (x3 : Int32) (h : Hp) (Q : Option TV → Hp → Prop) : Prop := T 165 454 [some (tR r0), some (tR r1), some (tR r2), some (tI x3)] [] h Q
