def tbC : List (List Cond) := [k2_sels lw_privs, tables_1_1, tables_1_2, tables_1_3, tables_1_4, tables_1_5]
def tbk (c i : Nat) : Option Cond := match tbC[c]? with
  | some l => l[i]?
  | none => none
theorem tbk_in {c i : Nat} {w : Cond} (h : tbk c i = some w) : w ∈ lw_tbl := by
  unfold tbk at h
  split at h
  · rename_i l hl
    have h2 := List.mem_of_getElem? h
    have h1 : l ∈ tbC := List.mem_of_getElem? hl
    have h3 : w ∈ tbC.flatten := List.mem_flatten.mpr ⟨l, h1, h2⟩
    have h4 : tbC.flatten = k2_sels lw_privs ++ (tables_1_1 ++ (tables_1_2 ++ (tables_1_3 ++ (tables_1_4 ++ (tables_1_5 ++ []))))) := rfl
    rw [h4, List.append_nil] at h3
    exact h3
  · cases h
theorem goodIn_t (ws : List Cond) (ps : List (Nat × Nat)) (hp : ws = ps.filterMap (fun q => tbk q.1 q.2)) (h : ws.all goodWord = true) : GoodIn lw_tbl ws := by
  intro w hw
  have h1 := List.all_eq_true.mp h w hw
  rw [hp] at hw
  obtain ⟨q, -, hq⟩ := List.mem_filterMap.mp hw
  exact ⟨tbk_in hq, good_of_word h1⟩
set_option maxRecDepth 20000 in
theorem gr_1 : GoodIn lw_tbl wsL_law_r1 := goodIn_t _ [(1, 14), (1, 15), (1, 1), (4, 1), (4, 2), (1, 7), (5, 129), (1, 16), (1, 17), (1, 18), (1, 19), (1, 20), (1, 21), (1, 22), (1, 23), (1, 2), (1, 137), (1, 41), (1, 42), (1, 3), (1, 138), (1, 65), (1, 139), (1, 25)] rfl (by decide +kernel)
set_option maxRecDepth 20000 in
theorem gr_2 : GoodIn lw_tbl wsL_law_r2 := goodIn_t _ [(1, 26), (1, 27), (1, 28), (1, 30), (1, 43), (1, 44), (1, 45), (1, 46), (1, 47), (1, 100), (1, 101), (1, 48), (1, 102), (1, 50), (1, 51), (1, 4), (1, 103), (1, 67), (1, 68), (1, 5), (1, 105), (1, 110), (1, 82), (1, 6)] rfl (by decide +kernel)
set_option maxRecDepth 20000 in
theorem gr_3 : GoodIn lw_tbl wsL_law_r3 := goodIn_t _ [(1, 53), (1, 54), (1, 55), (1, 66), (1, 56), (1, 57), (1, 70), (1, 71), (1, 72), (1, 73), (1, 84), (1, 85), (1, 86), (4, 3), (4, 4), (4, 5), (4, 6), (4, 134), (4, 10), (4, 11), (4, 12), (4, 13), (4, 14), (4, 15)] rfl (by decide +kernel)
set_option maxRecDepth 20000 in
theorem gr_4 : GoodIn lw_tbl wsL_law_r4 := goodIn_t _ [(4, 16), (4, 17), (4, 18), (4, 19), (4, 24), (4, 25), (4, 26), (4, 27), (4, 28), (4, 135), (4, 29), (4, 30), (4, 31), (4, 32), (4, 33), (4, 42), (4, 43), (4, 44), (4, 45), (4, 46), (4, 48), (1, 153), (1, 154), (1, 155)] rfl (by decide +kernel)
set_option maxRecDepth 20000 in
theorem gr_5 : GoodIn lw_tbl wsL_law_r5 := goodIn_t _ [(1, 156), (1, 141), (1, 160), (1, 161), (1, 8), (1, 206), (1, 207), (1, 9), (1, 32), (1, 157), (1, 158), (1, 159), (1, 162), (1, 163), (1, 164), (1, 165), (1, 166), (1, 170), (1, 174), (1, 177), (1, 202), (1, 203), (1, 204), (1, 205)] rfl (by decide +kernel)
set_option maxRecDepth 20000 in
theorem gr_6 : GoodIn lw_tbl wsL_law_r6 := goodIn_t _ [(1, 31), (1, 208), (1, 209), (1, 210), (1, 211), (2, 14), (2, 15), (1, 212), (1, 213), (1, 10), (1, 171), (2, 17), (2, 23), (1, 214), (1, 215), (1, 216), (1, 217), (1, 218), (1, 219), (1, 221), (1, 223), (1, 226), (4, 136), (4, 137)] rfl (by decide +kernel)
set_option maxRecDepth 20000 in
theorem gr_7 : GoodIn lw_tbl wsL_law_r7 := goodIn_t _ [(4, 138), (4, 139), (4, 9), (4, 7), (4, 8), (4, 20), (4, 21), (4, 140), (4, 141), (4, 142), (4, 143), (4, 145), (0, 40), (4, 146), (2, 44), (2, 45), (2, 46), (2, 47), (2, 48), (2, 50), (0, 0), (2, 51), (1, 33), (2, 21)] rfl (by decide +kernel)
set_option maxRecDepth 20000 in
theorem gr_8 : GoodIn lw_tbl wsL_law_r8 := goodIn_t _ [(2, 52), (2, 53), (2, 54), (2, 55), (2, 19), (2, 56), (2, 58), (0, 1), (2, 59), (2, 60), (2, 62), (0, 2), (2, 63), (2, 64), (2, 65), (1, 11), (2, 16), (2, 22), (2, 66), (2, 67), (2, 68), (2, 69), (2, 70), (2, 72)] rfl (by decide +kernel)
set_option maxRecDepth 20000 in
theorem gr_9 : GoodIn lw_tbl wsL_law_r9 := goodIn_t _ [(2, 74), (2, 76), (2, 113), (2, 115), (0, 3), (2, 116), (1, 225), (2, 18), (1, 228), (2, 117), (2, 119), (0, 4), (2, 120), (1, 230), (2, 79), (2, 122), (2, 124), (0, 5), (2, 125), (2, 126), (2, 127), (2, 128), (2, 129), (2, 130)] rfl (by decide +kernel)
set_option maxRecDepth 20000 in
theorem gr_10 : GoodIn lw_tbl wsL_law_r10 := goodIn_t _ [(2, 132), (0, 6), (2, 133), (2, 134), (2, 135), (1, 12), (2, 136), (2, 137), (2, 139), (0, 7), (2, 140), (1, 184), (2, 141), (2, 143), (0, 8), (2, 144), (1, 232), (1, 220), (2, 145), (2, 146), (2, 147), (2, 148), (1, 231), (2, 149)] rfl (by decide +kernel)
set_option maxRecDepth 20000 in
theorem gr_11 : GoodIn lw_tbl wsL_law_r11 := goodIn_t _ [(2, 151), (0, 9), (2, 152), (1, 222), (2, 153), (2, 155), (0, 10), (2, 156), (2, 20), (2, 157), (2, 159), (0, 11), (2, 160), (1, 227), (2, 161), (2, 162), (2, 163), (2, 164), (2, 165), (2, 167), (0, 12), (2, 168), (1, 234), (2, 169)] rfl (by decide +kernel)
set_option maxRecDepth 20000 in
theorem gr_12 : GoodIn lw_tbl wsL_law_r12 := goodIn_t _ [(2, 171), (0, 13), (2, 172), (2, 85), (2, 77), (1, 186), (1, 181), (2, 173), (2, 174), (2, 175), (2, 176), (2, 82), (2, 78), (2, 177), (2, 178), (2, 179), (2, 180), (1, 233), (2, 83), (2, 181), (2, 182), (2, 183), (2, 184), (2, 86)] rfl (by decide +kernel)
set_option maxRecDepth 20000 in
theorem gr_13 : GoodIn lw_tbl wsL_law_r13 := goodIn_t _ [(2, 88), (1, 224), (2, 90), (2, 185), (2, 186), (2, 187), (2, 188), (2, 189), (2, 190), (2, 191), (2, 192), (2, 193), (1, 229), (2, 194), (2, 195), (2, 197), (0, 14), (2, 198), (2, 199), (2, 201), (0, 15), (2, 202), (2, 203), (2, 205)] rfl (by decide +kernel)
set_option maxRecDepth 20000 in
theorem gr_14 : GoodIn lw_tbl wsL_law_r14 := goodIn_t _ [(0, 16), (2, 206), (2, 207), (2, 209), (0, 17), (2, 210), (1, 169), (2, 81), (2, 211), (2, 212), (2, 213), (2, 214), (2, 215), (2, 217), (0, 18), (2, 218), (2, 219), (2, 221), (0, 19), (2, 222), (2, 223), (2, 224), (1, 13), (2, 225)] rfl (by decide +kernel)
set_option maxRecDepth 20000 in
theorem gr_15 : GoodIn lw_tbl wsL_law_r15 := goodIn_t _ [(2, 226), (2, 228), (0, 20), (2, 229), (1, 179), (2, 230), (2, 231), (2, 232), (2, 233), (2, 234), (2, 235), (2, 236), (2, 237), (2, 239), (0, 21), (3, 0), (4, 147), (4, 148), (4, 149), (4, 150), (4, 151), (4, 153), (0, 41), (4, 154)] rfl (by decide +kernel)
set_option maxRecDepth 20000 in
theorem gr_16 : GoodIn lw_tbl wsL_law_r16 := goodIn_t _ [(4, 23), (4, 22), (4, 155), (4, 157), (0, 42), (4, 158), (4, 159), (4, 161), (0, 43), (4, 162), (4, 163), (4, 165), (0, 44), (4, 166), (4, 167), (4, 169), (0, 45), (4, 170), (4, 171), (4, 173), (0, 46), (4, 174), (4, 175), (4, 177)] rfl (by decide +kernel)
set_option maxRecDepth 20000 in
theorem gr_17 : GoodIn lw_tbl wsL_law_r17 := goodIn_t _ [(0, 47), (4, 178), (4, 179), (4, 181), (0, 48), (4, 182), (4, 183), (4, 185), (0, 49), (4, 186), (4, 187), (4, 189), (0, 50), (4, 190), (4, 191), (4, 193), (0, 51), (4, 194), (4, 195), (4, 197), (0, 52), (4, 198), (4, 199), (4, 201)] rfl (by decide +kernel)
set_option maxRecDepth 20000 in
theorem gr_18 : GoodIn lw_tbl wsL_law_r18 := goodIn_t _ [(0, 53), (4, 202), (4, 203), (4, 205), (0, 54), (4, 206), (4, 207), (4, 209), (0, 55), (4, 210), (4, 211), (4, 213), (0, 56), (4, 214), (3, 1), (3, 2), (3, 3), (3, 4), (3, 5), (3, 6), (3, 7), (3, 8), (4, 215), (4, 216)] rfl (by decide +kernel)
set_option maxRecDepth 20000 in
theorem gr_19 : GoodIn lw_tbl wsL_law_r19 := goodIn_t _ [(4, 217), (4, 218), (3, 9), (3, 10), (3, 11), (3, 12), (3, 13), (3, 14), (3, 15), (3, 16), (3, 17), (3, 18), (3, 19), (3, 20), (1, 180), (3, 21), (4, 219), (4, 220), (4, 221), (4, 222), (4, 223), (4, 225), (0, 57), (4, 226)] rfl (by decide +kernel)
set_option maxRecDepth 20000 in
theorem gr_20 : GoodIn lw_tbl wsL_law_r20 := goodIn_t _ [(3, 22), (3, 23), (3, 24), (3, 25), (1, 140), (4, 227), (4, 228), (4, 229), (4, 230), (4, 34), (3, 26), (3, 27), (3, 28), (3, 29), (1, 168), (3, 30), (3, 31), (3, 32), (3, 33), (1, 108), (1, 107), (1, 114), (1, 75), (1, 167)] rfl (by decide +kernel)
set_option maxRecDepth 20000 in
theorem gr_21 : GoodIn lw_tbl wsL_law_r21 := goodIn_t _ [(3, 34), (3, 35), (3, 36), (3, 37), (3, 38), (3, 39), (3, 40), (1, 74), (3, 41), (3, 43), (0, 22), (3, 44), (1, 175), (3, 45), (3, 46), (3, 47), (3, 48), (1, 182), (3, 49), (3, 50), (3, 51), (3, 52), (1, 87), (1, 89)] rfl (by decide +kernel)
set_option maxRecDepth 20000 in
theorem gr_22 : GoodIn lw_tbl wsL_law_r22 := goodIn_t _ [(1, 185), (1, 91), (3, 53), (3, 55), (0, 23), (3, 56), (1, 92), (1, 88), (1, 172), (1, 90), (3, 57), (3, 58), (3, 59), (3, 60), (3, 61), (3, 63), (0, 24), (3, 64), (3, 65), (3, 66), (3, 67), (3, 68), (3, 69), (3, 70)] rfl (by decide +kernel)
set_option maxRecDepth 20000 in
theorem gr_23 : GoodIn lw_tbl wsL_law_r23 := goodIn_t _ [(3, 71), (3, 72), (3, 73), (3, 74), (3, 75), (3, 76), (4, 231), (4, 232), (4, 233), (4, 234), (4, 35), (4, 37), (4, 38), (4, 39), (4, 40), (4, 47), (4, 41), (4, 235), (4, 237), (0, 58), (4, 238), (4, 239), (5, 1), (0, 59)] rfl (by decide +kernel)
set_option maxRecDepth 20000 in
theorem gr_24 : GoodIn lw_tbl wsL_law_r24 := goodIn_t _ [(5, 2), (5, 3), (5, 5), (0, 60), (5, 6), (5, 7), (5, 9), (0, 61), (5, 10), (5, 11), (5, 13), (0, 62), (5, 14), (5, 15), (5, 17), (0, 63), (5, 18), (5, 19), (5, 20), (5, 21), (5, 22), (5, 24), (0, 64), (5, 25)] rfl (by decide +kernel)
set_option maxRecDepth 20000 in
theorem gr_25 : GoodIn lw_tbl wsL_law_r25 := goodIn_t _ [(5, 26), (5, 28), (0, 65), (5, 29), (3, 77), (3, 78), (3, 79), (3, 80), (3, 81), (3, 82), (3, 83), (3, 84), (3, 85), (3, 87), (0, 25), (3, 88), (2, 84), (2, 71), (3, 89), (3, 91), (0, 26), (3, 92), (2, 87), (2, 80)] rfl (by decide +kernel)
set_option maxRecDepth 20000 in
theorem gr_26 : GoodIn lw_tbl wsL_law_r26 := goodIn_t _ [(3, 93), (3, 95), (0, 27), (3, 96), (1, 113), (3, 97), (3, 98), (3, 99), (3, 100), (3, 101), (3, 102), (3, 103), (3, 104), (3, 106), (0, 28), (3, 107), (2, 89), (2, 91), (3, 108), (3, 109), (3, 110), (3, 111), (1, 178), (3, 112)] rfl (by decide +kernel)
set_option maxRecDepth 20000 in
theorem gr_27 : GoodIn lw_tbl wsL_law_r27 := goodIn_t _ [(3, 114), (0, 29), (3, 115), (3, 116), (2, 73), (3, 117), (3, 119), (0, 30), (3, 120), (2, 75), (3, 121), (3, 122), (3, 123), (3, 124), (3, 125), (3, 127), (0, 31), (3, 128), (3, 129), (3, 131), (0, 32), (3, 132), (3, 133), (3, 134)] rfl (by decide +kernel)
set_option maxRecDepth 20000 in
theorem gr_28 : GoodIn lw_tbl wsL_law_r28 := goodIn_t _ [(3, 135), (3, 136), (3, 137), (3, 138), (3, 139), (3, 141), (0, 33), (3, 142), (3, 143), (3, 145), (0, 34), (3, 146), (3, 147), (3, 148), (3, 149), (3, 150), (3, 151), (3, 152), (3, 153), (3, 154), (3, 155), (3, 156), (3, 157), (3, 158)] rfl (by decide +kernel)
set_option maxRecDepth 20000 in
theorem gr_29 : GoodIn lw_tbl wsL_law_r29 := goodIn_t _ [(3, 159), (3, 160), (3, 161), (3, 162), (3, 163), (3, 164), (3, 165), (3, 166), (3, 167), (3, 169), (0, 35), (3, 170), (3, 171), (3, 172), (3, 173), (3, 174), (3, 175), (3, 177), (0, 36), (3, 178), (1, 59), (3, 179), (3, 180), (3, 181)] rfl (by decide +kernel)
set_option maxRecDepth 20000 in
theorem gr_30 : GoodIn lw_tbl wsL_law_r30 := goodIn_t _ [(3, 182), (3, 183), (3, 184), (3, 185), (3, 187), (0, 37), (3, 188), (3, 189), (3, 191), (0, 38), (3, 192), (3, 193), (3, 194), (3, 195), (3, 196), (3, 197), (3, 198), (3, 199), (3, 200), (3, 201), (3, 202), (3, 204), (0, 39), (3, 205)] rfl (by decide +kernel)
set_option maxRecDepth 20000 in
theorem gr_31 : GoodIn lw_tbl wsL_law_r31 := goodIn_t _ [(5, 30), (5, 31), (5, 32), (5, 33), (5, 34), (5, 36), (0, 66), (5, 37), (5, 53), (5, 38), (5, 40), (0, 67), (5, 41), (4, 36), (5, 42), (5, 44), (0, 68), (5, 45), (5, 46), (5, 48), (0, 69), (5, 49), (5, 50), (5, 51)] rfl (by decide +kernel)
set_option maxRecDepth 20000 in
theorem gr_32 : GoodIn lw_tbl wsL_law_r32 := goodIn_t _ [(5, 52), (5, 54), (5, 56), (0, 70), (5, 57), (5, 58), (5, 60), (0, 71), (5, 61), (5, 62), (5, 64), (0, 72), (5, 65), (5, 66), (5, 68), (0, 73), (5, 69), (5, 70), (5, 72), (0, 74), (5, 73), (5, 74), (5, 75), (5, 77)] rfl (by decide +kernel)
set_option maxRecDepth 20000 in
theorem gr_33 : GoodIn lw_tbl wsL_law_r33 := goodIn_t _ [(0, 75), (5, 78), (5, 79), (5, 81), (0, 76), (5, 82), (5, 83), (5, 85), (0, 77), (5, 86), (5, 87), (5, 89), (0, 78), (5, 90), (5, 94), (5, 95), (5, 91), (5, 92), (5, 93), (5, 96), (5, 98), (0, 79), (5, 99), (5, 100)] rfl (by decide +kernel)
set_option maxRecDepth 20000 in
theorem gr_34 : GoodIn lw_tbl wsL_law_r34 := goodIn_t _ [(5, 101), (5, 103), (0, 80), (5, 104), (5, 108), (5, 105), (5, 106), (5, 107), (3, 206), (3, 207), (3, 208), (3, 209), (1, 111), (1, 112), (1, 109), (1, 106), (1, 76), (1, 115), (2, 24), (1, 104), (1, 58), (3, 210), (3, 211), (3, 212)] rfl (by decide +kernel)
set_option maxRecDepth 20000 in
theorem gr_35 : GoodIn lw_tbl wsL_law_r35 := goodIn_t _ [(3, 213), (3, 214), (3, 215), (5, 109), (5, 110), (5, 111), (5, 112), (3, 216), (3, 217), (3, 218), (3, 219), (3, 220), (3, 221), (3, 222), (3, 223), (5, 113), (5, 114), (5, 115), (5, 116), (3, 224), (3, 225), (3, 226), (3, 227), (3, 228)] rfl (by decide +kernel)
set_option maxRecDepth 20000 in
theorem gr_36 : GoodIn lw_tbl wsL_law_r36 := goodIn_t _ [(5, 117), (5, 118), (5, 119), (5, 120), (3, 229), (3, 230), (3, 231), (3, 232), (3, 233), (3, 234), (3, 235), (3, 236), (5, 121), (5, 122), (5, 123), (5, 124), (3, 237), (3, 238), (3, 239), (4, 0), (1, 173), (1, 176), (1, 183), (5, 125)] rfl (by decide +kernel)
set_option maxRecDepth 20000 in
theorem gr_37 : GoodIn lw_tbl wsL_law_r37 := goodIn_t _ [(5, 126), (5, 127), (5, 128)] rfl (by decide +kernel)
set_option maxRecDepth 20000 in
theorem gc_X10 : GoodIn lw_tbl wsX100 := goodIn_t _ [(1, 142), (1, 144), (1, 146), (1, 148), (1, 150)] rfl (by decide +kernel)
set_option maxRecDepth 20000 in
theorem gc_X11 : GoodIn lw_tbl wsX110 := goodIn_t _ [(4, 49), (4, 51), (4, 53), (4, 55), (4, 57), (4, 59), (4, 61), (4, 63), (4, 65), (4, 67), (4, 69), (4, 71), (4, 73), (4, 75), (4, 77), (4, 79), (4, 81), (4, 83), (4, 85), (4, 87), (4, 89), (4, 91), (4, 93), (4, 95), (4, 97), (4, 99), (4, 101), (4, 103), (4, 105), (4, 107), (4, 109), (4, 111), (4, 113), (4, 115), (4, 117), (4, 119), (4, 121), (4, 123), (4, 125), (4, 127), (4, 129), (4, 131)] rfl (by decide +kernel)
set_option maxRecDepth 20000 in
theorem gc_X8 : GoodIn lw_tbl wsX80 := goodIn_t _ [(1, 34), (1, 36), (1, 38)] rfl (by decide +kernel)
set_option maxRecDepth 20000 in
theorem gc_X5 : GoodIn lw_tbl wsX50 := goodIn_t _ [(1, 116), (1, 118), (1, 120), (1, 122), (1, 124), (1, 126), (1, 128), (1, 130), (1, 132), (1, 134)] rfl (by decide +kernel)
set_option maxRecDepth 20000 in
theorem gc_X6 : GoodIn lw_tbl wsX60 := goodIn_t _ [(1, 60), (1, 62)] rfl (by decide +kernel)
set_option maxRecDepth 20000 in
theorem gc_X9 : GoodIn lw_tbl wsX90 := goodIn_t _ [(1, 77), (1, 79)] rfl (by decide +kernel)
set_option maxRecDepth 20000 in
theorem gc_X1 : GoodIn lw_tbl wsX10 := goodIn_t _ [(1, 93), (1, 95), (1, 97)] rfl (by decide +kernel)
set_option maxRecDepth 20000 in
theorem gc_X2 : GoodIn lw_tbl wsX20 := goodIn_t _ [(1, 187), (1, 189), (1, 191), (1, 193), (1, 195), (1, 197), (1, 199)] rfl (by decide +kernel)
set_option maxRecDepth 20000 in
theorem gc_X0 : GoodIn lw_tbl wsX00 := goodIn_t _ [(2, 25), (2, 27), (2, 29), (2, 31), (2, 33), (2, 35), (2, 37), (2, 39), (2, 41)] rfl (by decide +kernel)
set_option maxRecDepth 20000 in
theorem gc_X4 : GoodIn lw_tbl wsX40 := goodIn_t _ [(1, 235), (1, 237), (1, 239), (2, 1), (2, 3), (2, 5), (2, 7), (2, 9), (2, 11)] rfl (by decide +kernel)
set_option maxRecDepth 20000 in
theorem gc_X3 : GoodIn lw_tbl wsX30 := goodIn_t _ [(2, 92), (2, 94), (2, 96), (2, 98), (2, 100), (2, 102), (2, 104), (2, 106), (2, 108), (2, 110)] rfl (by decide +kernel)
theorem wsL_good : GoodIn lw_tbl wsL_law := goodIn_app (goodIn_app (goodIn_app (goodIn_app (goodIn_app (goodIn_app (goodIn_app (goodIn_app (goodIn_app (goodIn_app (goodIn_app (goodIn_app (goodIn_app gr_1 (goodIn_app gr_2 (goodIn_app gr_3 (goodIn_app gr_4 (goodIn_app gr_5 (goodIn_app gr_6 (goodIn_app gr_7 (goodIn_app gr_8 (goodIn_app gr_9 (goodIn_app gr_10 (goodIn_app gr_11 (goodIn_app gr_12 (goodIn_app gr_13 (goodIn_app gr_14 (goodIn_app gr_15 (goodIn_app gr_16 (goodIn_app gr_17 (goodIn_app gr_18 (goodIn_app gr_19 (goodIn_app gr_20 (goodIn_app gr_21 (goodIn_app gr_22 (goodIn_app gr_23 (goodIn_app gr_24 (goodIn_app gr_25 (goodIn_app gr_26 (goodIn_app gr_27 (goodIn_app gr_28 (goodIn_app gr_29 (goodIn_app gr_30 (goodIn_app gr_31 (goodIn_app gr_32 (goodIn_app gr_33 (goodIn_app gr_34 (goodIn_app gr_35 (goodIn_app gr_36 (gr_37))))))))))))))))))))))))))))))))))))) gc_X10) gc_X11) gc_X8) gc_X5) gc_X6) gc_X9) gc_X1) gc_X2) gc_X0) gc_X4) gc_X3) (fun _ h => absurd h List.not_mem_nil)
