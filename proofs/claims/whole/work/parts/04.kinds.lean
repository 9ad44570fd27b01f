/-! kinds of arrays; the words of private members of nest mates; the classes that arrays are made of -/
def akT (t : Nat) : Option FieldType := match t with
  | 0 => some .int
  | 1 => some .long
  | 2 => some .byte
  | 3 => some .boolean
  | 11 => some (.object RX1)
  | 12 => some (.object RX2)
  | _ => none
def nwL : List Cond := [.methodLinkNest RX10 9 yX8_init "StackMachine", .methodLinkNest RX5 29 yX6_init "StackMachine", .methodLinkNest RX5 36 yX9_init "StackMachine", .methodLinkNest RX5 45 yX1_init "StackMachine", .methodLinkNest RX0 97 yX10_isWithin "StackMachine"]
def aoL : List String := [RX1, RX2]
def wlC : List (List Cond) := [wsL_law_r1, wsL_law_r2, wsL_law_r3, wsL_law_r4, wsL_law_r5, wsL_law_r6, wsL_law_r7, wsL_law_r8, wsL_law_r9, wsL_law_r10, wsL_law_r11, wsL_law_r12, wsL_law_r13, wsL_law_r14, wsL_law_r15, wsL_law_r16, wsL_law_r17, wsL_law_r18, wsL_law_r19, wsL_law_r20, wsL_law_r21, wsL_law_r22, wsL_law_r23, wsL_law_r24, wsL_law_r25, wsL_law_r26, wsL_law_r27, wsL_law_r28, wsL_law_r29, wsL_law_r30, wsL_law_r31, wsL_law_r32, wsL_law_r33, wsL_law_r34, wsL_law_r35, wsL_law_r36, wsL_law_r37]
