/-! ===== the program as a whole ===== -/
def q_law : Nat := 199
def q_tab (β : Bool) (xs : Nat → Int32) (L : Nat) : List (List (Nat × am_F)) := [t_X0_init, t_X0_known, t_X0_inForce, t_X0_having, t_X1_init, t_X1_clear, t_X1_putAct, t_X1_putFact, t_X1_put, t_X1_dayAt, t_X1_factAt, t_X1_actAt, t_X2_init, t_X2_find, t_X2_pick, t_X2_dayIn, t_X2_firstLike, t_X3_init, t_X3_isKnown, t_X3_couldBeOn, t_X4_init, t_X5_init, t_X5_clear, t_X5_gain, t_X5_linksFrom, t_X5_tell, t_X6_init, t_X6_read, t_X6_readClause, t_X6_readStrike, t_X6_readBond, t_X6_readEither, t_X6_readBoth, t_X6_readTest, t_X6_readSum, t_X6_readProduct, t_X6_readPart, t_X6_isWord, t_X6_isSign, t_X6_isNumberHere, t_X6_expect, t_X6_fail, t_X6_put, t_X6_next, t_X6_readDigits, t_X6_wordNumber, t_X6_isLetter, t_X6_isDigit, t_X7_init, t_X7_isChildOf, t_X8_init, t_X9_init, t_X9_live, t_X9_holders, t_X9_begin, t_X9_putHappenings, t_X9_beginAct, t_X9_happen, t_X9_bear, t_X9_wed, t_X9_countAsked, t_X9_askedAt, t_X9_ask, t_X9_choose, t_X9_evaluate, t_X9_join, t_X9_valueOf, t_X9_change, t_X9_leansOn, t_X10_init, t_X10_land, t_X10_place, t_X10_person, t_X10_fact, t_X10_also, t_X10_back, t_X10_evenings, t_X10_feed, t_X10_act, t_X10_fault, t_X10_force, t_X10_landOf, t_X10_ways, t_X10_belongs, t_X10_says, t_X10_settles, t_X10_lands, t_X10_chain, t_X10_times, t_X10_ifStruck, t_X10_count, t_X10_needNumber, t_X10_needDay, t_X10_needEvening, t_X10_needBond, t_X10_isDay, t_X10_isParent, t_X10_putBytes, t_X10_forget, t_X10_workOutWays, t_X10_waysWith, t_X10_isSettledBy, t_X11_thrown, t_X11_right, t_X11_land, t_X11_place, t_X11_person, t_X11_isPerson, t_X11_isLand, t_X11_isDay, t_X11_fact, t_X11_also, t_X11_back, t_X11_evenings, t_X11_feed, t_X11_lays, t_X11_byteAt, t_X11_isLetter, t_X11_isDigit, t_X11_goes, t_X11_spelled, t_X11_init, t_X11_knownWord, t_X11_wrong, t_X11_isGood, t_X11_isSign, t_X11_puts, t_X11_strength, t_X11_drops, t_X11_waitsFor, t_X11_part, t_X11_begins, t_X11_operand, t_X11_expression, t_X11_number, t_X11_clause, t_X11_struck, t_X11_change, t_X11_act, t_X11_fault, t_X11_isKnownAct, t_X11_isKnownFact, t_X11_inForce, t_X11_findsDoubts, t_X11_dayIn, t_X11_starts, t_X11_sorts, t_X11_runs, t_X11_actBegins, t_X11_happens, t_X11_one, t_X11_birth, t_X11_wedding, t_X11_border, t_X11_stays, t_X11_bit, t_X11_has, t_X11_sees, t_X11_asks, t_X11_first, t_X11_works, t_X11_worth, t_X11_changes, t_X11_leans, t_X11_gains, t_X11_loses, t_X11_finds, t_X11_isEvening, t_X11_force, t_X11_landOf, t_X11_ways, t_X11_isBond, t_X11_says0, t_X11_belongs, t_X11_says, t_X11_isSettled, t_X11_many, t_X11_settles, t_X11_lands, t_X11_chain, t_X11_times, t_X11_ifStruck, t_X11_count, t_L_fact, t_L_also, t_L_back, t_L_evenings, t_L_act, t_L_force, t_L_landOf, t_L_ways, t_L_belongs, t_L_says, t_L_settles, t_L_lands, t_L_chain, t_L_times, t_L_ifStruck, t_L_count, t_L_law xs L, t_J6_bitCount_0f7a4, t_J7_fill_53178, t_J7_copyOf_59c91, t_J0_length_8abf5, t_J0_coder_7d493, t_J0_charAt_5068e, t_J0_isLatin1_aae02, t_J1_charAt_3b067, t_J0_checkIndex_df160 β, t_J3_checkIndex_8e157, t_J0_indexOf_0f7a4, t_J0_indexOf_7cf53, t_J1_indexOf_4cfef, t_J1_canEncode_9a6ad, t_J1_indexOfChar_4cfef]
def q_P (β : Bool) (xs : Nat → Int32) (L : Nat) (k pc : Nat) : Option am_F := ((q_tab β xs L).getD k []).lookup pc
def q_KIl : List am_I := [(cX0_init, 1, RX0, "<init>", none, []),
  (cX0_known, 4, RX0, "known", (some .int), []),
  (cX0_inForce, 7, RX0, "inForce", (some .int), []),
  (cX0_having, 5, RX0, "having", (some .int), []),
  (cX1_init, 1, RX1, "<init>", none, []),
  (cX1_clear, 1, RX1, "clear", none, []),
  (cX1_putAct, 3, RX1, "putAct", none, []),
  (cX1_putFact, 3, RX1, "putFact", none, []),
  (cX1_put, 3, RX1, "put", none, []),
  (cX1_dayAt, 2, RX1, "dayAt", (some .int), []),
  (cX1_factAt, 2, RX1, "factAt", (some .int), []),
  (cX1_actAt, 2, RX1, "actAt", (some .int), []),
  (cX2_init, 2, RX2, "<init>", none, []),
  (cX2_find, 3, RX2, "find", none, []),
  (cX2_pick, 3, RX2, "pick", (some .int), []),
  (cX2_dayIn, 4, RX2, "dayIn", (some .int), []),
  (cX2_firstLike, 5, RX2, "firstLike", (some .int), []),
  (cX3_init, 1, RX3, "<init>", none, []),
  (cX3_isKnown, 3, RX3, "isKnown", (some .boolean), []),
  (cX3_couldBeOn, 4, RX3, "couldBeOn", (some .boolean), []),
  (cX4_init, 1, RX4, "<init>", none, []),
  (cX5_init, 1, RX5, "<init>", none, []),
  (cX5_clear, 1, RX5, "clear", none, []),
  (cX5_gain, 9, RX5, "gain", (some .int), []),
  (cX5_linksFrom, 4, RX5, "linksFrom", (some .int), []),
  (cX5_tell, 6, RX5, "tell", (some .int), []),
  (cX6_init, 2, RX6, "<init>", none, []),
  (cX6_read, 6, RX6, "read", (some .int), []),
  (cX6_readClause, 4, RX6, "readClause", none, []),
  (cX6_readStrike, 2, RX6, "readStrike", none, []),
  (cX6_readBond, 3, RX6, "readBond", none, []),
  (cX6_readEither, 3, RX6, "readEither", none, []),
  (cX6_readBoth, 3, RX6, "readBoth", none, []),
  (cX6_readTest, 4, RX6, "readTest", none, []),
  (cX6_readSum, 4, RX6, "readSum", none, []),
  (cX6_readProduct, 4, RX6, "readProduct", none, []),
  (cX6_readPart, 2, RX6, "readPart", none, []),
  (cX6_isWord, 2, RX6, "isWord", (some .boolean), []),
  (cX6_isSign, 2, RX6, "isSign", (some .boolean), []),
  (cX6_isNumberHere, 1, RX6, "isNumberHere", (some .boolean), []),
  (cX6_expect, 2, RX6, "expect", none, []),
  (cX6_fail, 2, RX6, "fail", none, []),
  (cX6_put, 2, RX6, "put", none, []),
  (cX6_next, 2, RX6, "next", none, []),
  (cX6_readDigits, 1, RX6, "readDigits", none, []),
  (cX6_wordNumber, 5, RX6, "wordNumber", (some .int), []),
  (cX6_isLetter, 1, RX6, "isLetter", (some .boolean), []),
  (cX6_isDigit, 1, RX6, "isDigit", (some .boolean), []),
  (cX7_init, 1, RX7, "<init>", none, []),
  (cX7_isChildOf, 4, RX7, "isChildOf", (some .boolean), []),
  (cX8_init, 1, RX8, "<init>", none, []),
  (cX9_init, 6, RX9, "<init>", none, []),
  (cX9_live, 9, RX9, "live", none, []),
  (cX9_holders, 4, RX9, "holders", (some .int), []),
  (cX9_begin, 1, RX9, "begin", none, []),
  (cX9_putHappenings, 5, RX9, "putHappenings", none, []),
  (cX9_beginAct, 4, RX9, "beginAct", none, []),
  (cX9_happen, 3, RX9, "happen", none, []),
  (cX9_bear, 2, RX9, "bear", none, []),
  (cX9_wed, 3, RX9, "wed", none, []),
  (cX9_countAsked, 1, RX9, "countAsked", (some .int), []),
  (cX9_askedAt, 2, RX9, "askedAt", (some .int), []),
  (cX9_ask, 3, RX9, "ask", none, []),
  (cX9_choose, 8, RX9, "choose", (some .int), []),
  (cX9_evaluate, 8, RX9, "evaluate", (some .int), []),
  (cX9_join, 3, RX9, "join", (some .int), []),
  (cX9_valueOf, 11, RX9, "valueOf", (some .int), []),
  (cX9_change, 9, RX9, "change", none, []),
  (cX9_leansOn, 7, RX9, "leansOn", (some .int), []),
  (cX10_init, 1, RX10, "<init>", none, []),
  (cX10_land, 1, RX10, "land", (some .int), []),
  (cX10_place, 2, RX10, "place", (some .int), []),
  (cX10_person, 5, RX10, "person", (some .int), []),
  (cX10_fact, 9, RX10, "fact", (some .int), []),
  (cX10_also, 4, RX10, "also", (some .int), []),
  (cX10_back, 4, RX10, "back", (some .boolean), []),
  (cX10_evenings, 2, RX10, "evenings", (some .int), []),
  (cX10_feed, 6, RX10, "feed", (some .int), []),
  (cX10_act, 7, RX10, "act", (some .int), []),
  (cX10_fault, 1, RX10, "fault", (some .int), []),
  (cX10_force, 4, RX10, "force", (some .boolean), []),
  (cX10_landOf, 8, RX10, "landOf", (some .int), []),
  (cX10_ways, 3, RX10, "ways", (some .int), []),
  (cX10_belongs, 6, RX10, "belongs", (some .int), []),
  (cX10_says, 5, RX10, "says", (some .int), []),
  (cX10_settles, 9, RX10, "settles", (some .int), []),
  (cX10_lands, 5, RX10, "lands", (some .int), []),
  (cX10_chain, 10, RX10, "chain", (some .int), []),
  (cX10_times, 7, RX10, "times", (some .int), []),
  (cX10_ifStruck, 7, RX10, "ifStruck", (some .int), []),
  (cX10_count, 2, RX10, "count", (some .int), []),
  (cX10_needNumber, 2, RX10, "needNumber", none, []),
  (cX10_needDay, 1, RX10, "needDay", none, []),
  (cX10_needEvening, 2, RX10, "needEvening", none, []),
  (cX10_needBond, 5, RX10, "needBond", none, []),
  (cX10_isDay, 1, RX10, "isDay", (some .boolean), []),
  (cX10_isParent, 2, RX10, "isParent", (some .boolean), []),
  (cX10_putBytes, 3, RX10, "putBytes", none, []),
  (cX10_forget, 1, RX10, "forget", none, []),
  (cX10_workOutWays, 5, RX10, "workOutWays", none, []),
  (cX10_waysWith, 5, RX10, "waysWith", (some .int), []),
  (cX10_isSettledBy, 7, RX10, "isSettledBy", (some .boolean), []),
  (cX11_thrown, 1, RX11, "thrown", (some .int), []),
  (cX11_right, 3, RX11, "right", (some .boolean), []),
  (cX11_land, 1, RX11, "land", (some .int), []),
  (cX11_place, 2, RX11, "place", (some .int), []),
  (cX11_person, 4, RX11, "person", (some .int), []),
  (cX11_isPerson, 2, RX11, "isPerson", (some .boolean), []),
  (cX11_isLand, 2, RX11, "isLand", (some .boolean), []),
  (cX11_isDay, 1, RX11, "isDay", (some .boolean), []),
  (cX11_fact, 6, RX11, "fact", (some .int), []),
  (cX11_also, 5, RX11, "also", (some .int), []),
  (cX11_back, 3, RX11, "back", (some .boolean), []),
  (cX11_evenings, 2, RX11, "evenings", (some .int), []),
  (cX11_feed, 6, RX11, "feed", (some .int), []),
  (cX11_lays, 3, RX11, "lays", none, []),
  (cX11_byteAt, 2, RX11, "byteAt", (some .int), []),
  (cX11_isLetter, 1, RX11, "isLetter", (some .boolean), []),
  (cX11_isDigit, 1, RX11, "isDigit", (some .boolean), []),
  (cX11_goes, 2, RX11, "goes", none, []),
  (cX11_spelled, 8, RX11, "spelled", (some .long), []),
  (cX11_init, 1, RX11, "<init>", none, []),
  (cX11_knownWord, 2, RX11, "knownWord", (some .int), []),
  (cX11_wrong, 2, RX11, "wrong", none, []),
  (cX11_isGood, 1, RX11, "isGood", (some .boolean), []),
  (cX11_isSign, 2, RX11, "isSign", (some .boolean), []),
  (cX11_puts, 2, RX11, "puts", none, []),
  (cX11_strength, 1, RX11, "strength", (some .int), []),
  (cX11_drops, 2, RX11, "drops", none, []),
  (cX11_waitsFor, 2, RX11, "waitsFor", none, []),
  (cX11_part, 2, RX11, "part", none, []),
  (cX11_begins, 1, RX11, "begins", none, []),
  (cX11_operand, 5, RX11, "operand", none, []),
  (cX11_expression, 4, RX11, "expression", (some .int), []),
  (cX11_number, 2, RX11, "number", (some .int), []),
  (cX11_clause, 4, RX11, "clause", none, []),
  (cX11_struck, 3, RX11, "struck", none, []),
  (cX11_change, 3, RX11, "change", none, []),
  (cX11_act, 6, RX11, "act", (some .int), []),
  (cX11_fault, 1, RX11, "fault", (some .int), []),
  (cX11_isKnownAct, 3, RX11, "isKnownAct", (some .boolean), []),
  (cX11_isKnownFact, 3, RX11, "isKnownFact", (some .boolean), []),
  (cX11_inForce, 7, RX11, "inForce", (some .int), []),
  (cX11_findsDoubts, 3, RX11, "findsDoubts", none, []),
  (cX11_dayIn, 5, RX11, "dayIn", (some .int), []),
  (cX11_starts, 6, RX11, "starts", none, []),
  (cX11_sorts, 5, RX11, "sorts", none, []),
  (cX11_runs, 7, RX11, "runs", none, []),
  (cX11_actBegins, 3, RX11, "actBegins", none, []),
  (cX11_happens, 4, RX11, "happens", none, []),
  (cX11_one, 3, RX11, "one", none, []),
  (cX11_birth, 3, RX11, "birth", none, []),
  (cX11_wedding, 6, RX11, "wedding", none, []),
  (cX11_border, 3, RX11, "border", none, []),
  (cX11_stays, 3, RX11, "stays", none, []),
  (cX11_bit, 1, RX11, "bit", (some .int), []),
  (cX11_has, 3, RX11, "has", (some .boolean), []),
  (cX11_sees, 7, RX11, "sees", none, []),
  (cX11_asks, 7, RX11, "asks", none, []),
  (cX11_first, 5, RX11, "first", (some .int), []),
  (cX11_works, 3, RX11, "works", (some .int), []),
  (cX11_worth, 5, RX11, "worth", (some .int), []),
  (cX11_changes, 7, RX11, "changes", none, []),
  (cX11_leans, 3, RX11, "leans", (some .int), []),
  (cX11_gains, 6, RX11, "gains", none, []),
  (cX11_loses, 3, RX11, "loses", none, []),
  (cX11_finds, 5, RX11, "finds", none, []),
  (cX11_isEvening, 2, RX11, "isEvening", (some .boolean), []),
  (cX11_force, 4, RX11, "force", (some .boolean), []),
  (cX11_landOf, 4, RX11, "landOf", (some .int), []),
  (cX11_ways, 3, RX11, "ways", (some .int), []),
  (cX11_isBond, 5, RX11, "isBond", (some .boolean), []),
  (cX11_says0, 5, RX11, "says0", (some .int), []),
  (cX11_belongs, 6, RX11, "belongs", (some .int), []),
  (cX11_says, 5, RX11, "says", (some .int), []),
  (cX11_isSettled, 8, RX11, "isSettled", (some .boolean), []),
  (cX11_many, 3, RX11, "many", (some .int), []),
  (cX11_settles, 9, RX11, "settles", (some .int), []),
  (cX11_lands, 5, RX11, "lands", (some .int), []),
  (cX11_chain, 10, RX11, "chain", (some .int), []),
  (cX11_times, 6, RX11, "times", (some .int), []),
  (cX11_ifStruck, 9, RX11, "ifStruck", (some .int), []),
  (cX11_count, 2, RX11, "count", (some .int), []),
  (cL_fact, 8, RL, "fact", (some .int), [(0, 16, 19, 13)]),
  (cL_also, 5, RL, "also", (some .int), [(0, 10, 13, 13)]),
  (cL_back, 5, RL, "back", (some .int), [(0, 17, 20, 13)]),
  (cL_evenings, 4, RL, "evenings", (some .int), [(0, 9, 12, 27)]),
  (cL_act, 7, RL, "act", (some .int), [(0, 14, 17, 13), (0, 14, 21, 27)]),
  (cL_force, 6, RL, "force", (some .int), [(0, 19, 22, 13), (0, 19, 26, 27)]),
  (cL_landOf, 6, RL, "landOf", (some .int), [(0, 12, 15, 13), (0, 12, 19, 27)]),
  (cL_ways, 5, RL, "ways", (some .int), [(0, 10, 13, 13), (0, 10, 17, 27)]),
  (cL_belongs, 7, RL, "belongs", (some .int), [(0, 14, 17, 13), (0, 14, 21, 27)]),
  (cL_says, 7, RL, "says", (some .int), [(0, 14, 17, 13), (0, 14, 21, 27)]),
  (cL_settles, 7, RL, "settles", (some .int), [(0, 14, 17, 13), (0, 14, 21, 27)]),
  (cL_lands, 7, RL, "lands", (some .int), [(0, 14, 17, 13), (0, 14, 21, 27)]),
  (cL_chain, 9, RL, "chain", (some .int), [(0, 18, 21, 13), (0, 18, 25, 27)]),
  (cL_times, 8, RL, "times", (some .int), [(0, 16, 19, 13), (0, 16, 23, 27)]),
  (cL_ifStruck, 7, RL, "ifStruck", (some .int), [(0, 14, 17, 13), (0, 14, 21, 27)]),
  (cL_count, 4, RL, "count", (some .int), [(0, 9, 12, 13)]),
  (cL_law, 7, RL, "law", (some .boolean), []),
  (cJ6_bitCount_0f7a4, 1, RJ6, "bitCount", (some .int), []),
  (cJ7_fill_53178, 4, RJ7, "fill", none, []),
  (cJ7_copyOf_59c91, 3, RJ7, "copyOf", (some (.array .int)), []),
  (cJ0_length_8abf5, 1, RJ0, "length", (some .int), []),
  (cJ0_coder_7d493, 1, RJ0, "coder", (some .byte), []),
  (cJ0_charAt_5068e, 2, RJ0, "charAt", (some .char), []),
  (cJ0_isLatin1_aae02, 1, RJ0, "isLatin1", (some .boolean), []),
  (cJ1_charAt_3b067, 2, RJ1, "charAt", (some .char), []),
  (cJ0_checkIndex_df160, 2, RJ0, "checkIndex", none, []),
  (cJ3_checkIndex_8e157, 3, RJ3, "checkIndex", (some .int), []),
  (cJ0_indexOf_0f7a4, 2, RJ0, "indexOf", (some .int), []),
  (cJ0_indexOf_7cf53, 3, RJ0, "indexOf", (some .int), []),
  (cJ1_indexOf_4cfef, 4, RJ1, "indexOf", (some .int), []),
  (cJ1_canEncode_9a6ad, 1, RJ1, "canEncode", (some .boolean), []),
  (cJ1_indexOfChar_4cfef, 6, RJ1, "indexOfChar", (some .int), [])]
def q_KI (k : Nat) : am_I := q_KIl.getD k (cL_law, 7, RL, "law", some .boolean, [])
def q_NT (k : Nat) : Bool := decide (k < 183 ∨ 199 < k)
def q_HDl : List ((Nat × Nat × Nat) × (Nat × Nat)) := [((183, 11, 1), (21, 7)), ((184, 5, 1), (15, 4)), ((185, 5, 1), (22, 4)), ((186, 4, 2), (13, 3)), ((187, 9, 1), (19, 6)), ((187, 9, 2), (23, 6)), ((188, 7, 1), (24, 5)), ((188, 7, 2), (28, 5)), ((189, 7, 1), (17, 5)), ((189, 7, 2), (21, 5)), ((190, 5, 1), (15, 4)), ((190, 5, 2), (19, 4)), ((191, 9, 1), (19, 6)), ((191, 9, 2), (23, 6)), ((192, 9, 1), (19, 6)), ((192, 9, 2), (23, 6)), ((193, 9, 1), (19, 6)), ((193, 9, 2), (23, 6)), ((194, 9, 1), (19, 6)), ((194, 9, 2), (23, 6)), ((195, 13, 1), (23, 8)), ((195, 13, 2), (27, 8)), ((196, 11, 1), (21, 7)), ((196, 11, 2), (25, 7)), ((197, 9, 1), (19, 6)), ((197, 9, 2), (23, 6)), ((198, 4, 1), (13, 3))]
def q_HD (k pc x : Nat) : Option (Nat × Nat) := q_HDl.lookup (k, pc, x)
theorem q_lookup {β : Type} : ∀ {l : List (Nat × β)} {a : Nat} {b : β}, l.lookup a = some b → (a, b) ∈ l
  | [], a, b, h => by cases h
  | (a1, b1) :: l, a, b, h => by
    rw [List.lookup_cons] at h
    split at h
    · rename_i he
      cases h
      rw [eq_of_beq he]
      exact List.mem_cons_self
    · exact List.mem_cons_of_mem _ (q_lookup h)
theorem q_lookup3 {β : Type} : ∀ {l : List ((Nat × Nat × Nat) × β)} {a : Nat × Nat × Nat} {b : β}, l.lookup a = some b → (a, b) ∈ l
  | [], a, b, h => by cases h
  | (a1, b1) :: l, a, b, h => by
    rw [List.lookup_cons] at h
    split at h
    · rename_i he
      cases h
      rw [eq_of_beq he]
      exact List.mem_cons_self
    · exact List.mem_cons_of_mem _ (q_lookup3 h)
section All
variable {ξ : Nat → Nat} {β : Bool} {xs : Nat → Int32} {L : Nat}
theorem q_all0 : ∀ q ∈ ([(t_X0_init, (cX0_init, 1, RX0, "<init>", none, [])), (t_X0_known, (cX0_known, 4, RX0, "known", (some .int), [])), (t_X0_inForce, (cX0_inForce, 7, RX0, "inForce", (some .int), [])), (t_X0_having, (cX0_having, 5, RX0, "having", (some .int), [])), (t_X1_init, (cX1_init, 1, RX1, "<init>", none, [])), (t_X1_clear, (cX1_clear, 1, RX1, "clear", none, [])), (t_X1_putAct, (cX1_putAct, 3, RX1, "putAct", none, [])), (t_X1_putFact, (cX1_putFact, 3, RX1, "putFact", none, [])), (t_X1_put, (cX1_put, 3, RX1, "put", none, [])), (t_X1_dayAt, (cX1_dayAt, 2, RX1, "dayAt", (some .int), [])), (t_X1_factAt, (cX1_factAt, 2, RX1, "factAt", (some .int), [])), (t_X1_actAt, (cX1_actAt, 2, RX1, "actAt", (some .int), [])), (t_X2_init, (cX2_init, 2, RX2, "<init>", none, [])), (t_X2_find, (cX2_find, 3, RX2, "find", none, [])), (t_X2_pick, (cX2_pick, 3, RX2, "pick", (some .int), [])), (t_X2_dayIn, (cX2_dayIn, 4, RX2, "dayIn", (some .int), [])), (t_X2_firstLike, (cX2_firstLike, 5, RX2, "firstLike", (some .int), [])), (t_X3_init, (cX3_init, 1, RX3, "<init>", none, [])), (t_X3_isKnown, (cX3_isKnown, 3, RX3, "isKnown", (some .boolean), [])), (t_X3_couldBeOn, (cX3_couldBeOn, 4, RX3, "couldBeOn", (some .boolean), []))] : List (List (Nat × am_F) × am_I)), ∀ r ∈ q.1, am_ok vwCl q_SH ξ (q_E ξ β xs L) q_EN q_KD q_ML q.2 r.1 r.2 :=
  List.forall_mem_cons.mpr ⟨o_X0_init,
  List.forall_mem_cons.mpr ⟨o_X0_known,
  List.forall_mem_cons.mpr ⟨o_X0_inForce,
  List.forall_mem_cons.mpr ⟨o_X0_having,
  List.forall_mem_cons.mpr ⟨o_X1_init,
  List.forall_mem_cons.mpr ⟨o_X1_clear,
  List.forall_mem_cons.mpr ⟨o_X1_putAct,
  List.forall_mem_cons.mpr ⟨o_X1_putFact,
  List.forall_mem_cons.mpr ⟨o_X1_put,
  List.forall_mem_cons.mpr ⟨o_X1_dayAt,
  List.forall_mem_cons.mpr ⟨o_X1_factAt,
  List.forall_mem_cons.mpr ⟨o_X1_actAt,
  List.forall_mem_cons.mpr ⟨o_X2_init,
  List.forall_mem_cons.mpr ⟨o_X2_find,
  List.forall_mem_cons.mpr ⟨o_X2_pick,
  List.forall_mem_cons.mpr ⟨o_X2_dayIn,
  List.forall_mem_cons.mpr ⟨o_X2_firstLike,
  List.forall_mem_cons.mpr ⟨o_X3_init,
  List.forall_mem_cons.mpr ⟨o_X3_isKnown,
  List.forall_mem_cons.mpr ⟨o_X3_couldBeOn,
  fun _ h => absurd h List.not_mem_nil⟩⟩⟩⟩⟩⟩⟩⟩⟩⟩⟩⟩⟩⟩⟩⟩⟩⟩⟩⟩
theorem q_all1 : ∀ q ∈ ([(t_X4_init, (cX4_init, 1, RX4, "<init>", none, [])), (t_X5_init, (cX5_init, 1, RX5, "<init>", none, [])), (t_X5_clear, (cX5_clear, 1, RX5, "clear", none, [])), (t_X5_gain, (cX5_gain, 9, RX5, "gain", (some .int), [])), (t_X5_linksFrom, (cX5_linksFrom, 4, RX5, "linksFrom", (some .int), [])), (t_X5_tell, (cX5_tell, 6, RX5, "tell", (some .int), [])), (t_X6_init, (cX6_init, 2, RX6, "<init>", none, [])), (t_X6_read, (cX6_read, 6, RX6, "read", (some .int), [])), (t_X6_readClause, (cX6_readClause, 4, RX6, "readClause", none, [])), (t_X6_readStrike, (cX6_readStrike, 2, RX6, "readStrike", none, [])), (t_X6_readBond, (cX6_readBond, 3, RX6, "readBond", none, [])), (t_X6_readEither, (cX6_readEither, 3, RX6, "readEither", none, [])), (t_X6_readBoth, (cX6_readBoth, 3, RX6, "readBoth", none, [])), (t_X6_readTest, (cX6_readTest, 4, RX6, "readTest", none, [])), (t_X6_readSum, (cX6_readSum, 4, RX6, "readSum", none, [])), (t_X6_readProduct, (cX6_readProduct, 4, RX6, "readProduct", none, [])), (t_X6_readPart, (cX6_readPart, 2, RX6, "readPart", none, [])), (t_X6_isWord, (cX6_isWord, 2, RX6, "isWord", (some .boolean), [])), (t_X6_isSign, (cX6_isSign, 2, RX6, "isSign", (some .boolean), [])), (t_X6_isNumberHere, (cX6_isNumberHere, 1, RX6, "isNumberHere", (some .boolean), []))] : List (List (Nat × am_F) × am_I)), ∀ r ∈ q.1, am_ok vwCl q_SH ξ (q_E ξ β xs L) q_EN q_KD q_ML q.2 r.1 r.2 :=
  List.forall_mem_cons.mpr ⟨o_X4_init,
  List.forall_mem_cons.mpr ⟨o_X5_init,
  List.forall_mem_cons.mpr ⟨o_X5_clear,
  List.forall_mem_cons.mpr ⟨o_X5_gain,
  List.forall_mem_cons.mpr ⟨o_X5_linksFrom,
  List.forall_mem_cons.mpr ⟨o_X5_tell,
  List.forall_mem_cons.mpr ⟨o_X6_init,
  List.forall_mem_cons.mpr ⟨o_X6_read,
  List.forall_mem_cons.mpr ⟨o_X6_readClause,
  List.forall_mem_cons.mpr ⟨o_X6_readStrike,
  List.forall_mem_cons.mpr ⟨o_X6_readBond,
  List.forall_mem_cons.mpr ⟨o_X6_readEither,
  List.forall_mem_cons.mpr ⟨o_X6_readBoth,
  List.forall_mem_cons.mpr ⟨o_X6_readTest,
  List.forall_mem_cons.mpr ⟨o_X6_readSum,
  List.forall_mem_cons.mpr ⟨o_X6_readProduct,
  List.forall_mem_cons.mpr ⟨o_X6_readPart,
  List.forall_mem_cons.mpr ⟨o_X6_isWord,
  List.forall_mem_cons.mpr ⟨o_X6_isSign,
  List.forall_mem_cons.mpr ⟨o_X6_isNumberHere,
  fun _ h => absurd h List.not_mem_nil⟩⟩⟩⟩⟩⟩⟩⟩⟩⟩⟩⟩⟩⟩⟩⟩⟩⟩⟩⟩
theorem q_all2 : ∀ q ∈ ([(t_X6_expect, (cX6_expect, 2, RX6, "expect", none, [])), (t_X6_fail, (cX6_fail, 2, RX6, "fail", none, [])), (t_X6_put, (cX6_put, 2, RX6, "put", none, [])), (t_X6_next, (cX6_next, 2, RX6, "next", none, [])), (t_X6_readDigits, (cX6_readDigits, 1, RX6, "readDigits", none, [])), (t_X6_wordNumber, (cX6_wordNumber, 5, RX6, "wordNumber", (some .int), [])), (t_X6_isLetter, (cX6_isLetter, 1, RX6, "isLetter", (some .boolean), [])), (t_X6_isDigit, (cX6_isDigit, 1, RX6, "isDigit", (some .boolean), [])), (t_X7_init, (cX7_init, 1, RX7, "<init>", none, [])), (t_X7_isChildOf, (cX7_isChildOf, 4, RX7, "isChildOf", (some .boolean), [])), (t_X8_init, (cX8_init, 1, RX8, "<init>", none, [])), (t_X9_init, (cX9_init, 6, RX9, "<init>", none, [])), (t_X9_live, (cX9_live, 9, RX9, "live", none, [])), (t_X9_holders, (cX9_holders, 4, RX9, "holders", (some .int), [])), (t_X9_begin, (cX9_begin, 1, RX9, "begin", none, [])), (t_X9_putHappenings, (cX9_putHappenings, 5, RX9, "putHappenings", none, [])), (t_X9_beginAct, (cX9_beginAct, 4, RX9, "beginAct", none, [])), (t_X9_happen, (cX9_happen, 3, RX9, "happen", none, [])), (t_X9_bear, (cX9_bear, 2, RX9, "bear", none, [])), (t_X9_wed, (cX9_wed, 3, RX9, "wed", none, []))] : List (List (Nat × am_F) × am_I)), ∀ r ∈ q.1, am_ok vwCl q_SH ξ (q_E ξ β xs L) q_EN q_KD q_ML q.2 r.1 r.2 :=
  List.forall_mem_cons.mpr ⟨o_X6_expect,
  List.forall_mem_cons.mpr ⟨o_X6_fail,
  List.forall_mem_cons.mpr ⟨o_X6_put,
  List.forall_mem_cons.mpr ⟨o_X6_next,
  List.forall_mem_cons.mpr ⟨o_X6_readDigits,
  List.forall_mem_cons.mpr ⟨o_X6_wordNumber,
  List.forall_mem_cons.mpr ⟨o_X6_isLetter,
  List.forall_mem_cons.mpr ⟨o_X6_isDigit,
  List.forall_mem_cons.mpr ⟨o_X7_init,
  List.forall_mem_cons.mpr ⟨o_X7_isChildOf,
  List.forall_mem_cons.mpr ⟨o_X8_init,
  List.forall_mem_cons.mpr ⟨o_X9_init,
  List.forall_mem_cons.mpr ⟨o_X9_live,
  List.forall_mem_cons.mpr ⟨o_X9_holders,
  List.forall_mem_cons.mpr ⟨o_X9_begin,
  List.forall_mem_cons.mpr ⟨o_X9_putHappenings,
  List.forall_mem_cons.mpr ⟨o_X9_beginAct,
  List.forall_mem_cons.mpr ⟨o_X9_happen,
  List.forall_mem_cons.mpr ⟨o_X9_bear,
  List.forall_mem_cons.mpr ⟨o_X9_wed,
  fun _ h => absurd h List.not_mem_nil⟩⟩⟩⟩⟩⟩⟩⟩⟩⟩⟩⟩⟩⟩⟩⟩⟩⟩⟩⟩
theorem q_all3 : ∀ q ∈ ([(t_X9_countAsked, (cX9_countAsked, 1, RX9, "countAsked", (some .int), [])), (t_X9_askedAt, (cX9_askedAt, 2, RX9, "askedAt", (some .int), [])), (t_X9_ask, (cX9_ask, 3, RX9, "ask", none, [])), (t_X9_choose, (cX9_choose, 8, RX9, "choose", (some .int), [])), (t_X9_evaluate, (cX9_evaluate, 8, RX9, "evaluate", (some .int), [])), (t_X9_join, (cX9_join, 3, RX9, "join", (some .int), [])), (t_X9_valueOf, (cX9_valueOf, 11, RX9, "valueOf", (some .int), [])), (t_X9_change, (cX9_change, 9, RX9, "change", none, [])), (t_X9_leansOn, (cX9_leansOn, 7, RX9, "leansOn", (some .int), [])), (t_X10_init, (cX10_init, 1, RX10, "<init>", none, [])), (t_X10_land, (cX10_land, 1, RX10, "land", (some .int), [])), (t_X10_place, (cX10_place, 2, RX10, "place", (some .int), [])), (t_X10_person, (cX10_person, 5, RX10, "person", (some .int), [])), (t_X10_fact, (cX10_fact, 9, RX10, "fact", (some .int), [])), (t_X10_also, (cX10_also, 4, RX10, "also", (some .int), [])), (t_X10_back, (cX10_back, 4, RX10, "back", (some .boolean), [])), (t_X10_evenings, (cX10_evenings, 2, RX10, "evenings", (some .int), [])), (t_X10_feed, (cX10_feed, 6, RX10, "feed", (some .int), [])), (t_X10_act, (cX10_act, 7, RX10, "act", (some .int), [])), (t_X10_fault, (cX10_fault, 1, RX10, "fault", (some .int), []))] : List (List (Nat × am_F) × am_I)), ∀ r ∈ q.1, am_ok vwCl q_SH ξ (q_E ξ β xs L) q_EN q_KD q_ML q.2 r.1 r.2 :=
  List.forall_mem_cons.mpr ⟨o_X9_countAsked,
  List.forall_mem_cons.mpr ⟨o_X9_askedAt,
  List.forall_mem_cons.mpr ⟨o_X9_ask,
  List.forall_mem_cons.mpr ⟨o_X9_choose,
  List.forall_mem_cons.mpr ⟨o_X9_evaluate,
  List.forall_mem_cons.mpr ⟨o_X9_join,
  List.forall_mem_cons.mpr ⟨o_X9_valueOf,
  List.forall_mem_cons.mpr ⟨o_X9_change,
  List.forall_mem_cons.mpr ⟨o_X9_leansOn,
  List.forall_mem_cons.mpr ⟨o_X10_init,
  List.forall_mem_cons.mpr ⟨o_X10_land,
  List.forall_mem_cons.mpr ⟨o_X10_place,
  List.forall_mem_cons.mpr ⟨o_X10_person,
  List.forall_mem_cons.mpr ⟨o_X10_fact,
  List.forall_mem_cons.mpr ⟨o_X10_also,
  List.forall_mem_cons.mpr ⟨o_X10_back,
  List.forall_mem_cons.mpr ⟨o_X10_evenings,
  List.forall_mem_cons.mpr ⟨o_X10_feed,
  List.forall_mem_cons.mpr ⟨o_X10_act,
  List.forall_mem_cons.mpr ⟨o_X10_fault,
  fun _ h => absurd h List.not_mem_nil⟩⟩⟩⟩⟩⟩⟩⟩⟩⟩⟩⟩⟩⟩⟩⟩⟩⟩⟩⟩
theorem q_all4 : ∀ q ∈ ([(t_X10_force, (cX10_force, 4, RX10, "force", (some .boolean), [])), (t_X10_landOf, (cX10_landOf, 8, RX10, "landOf", (some .int), [])), (t_X10_ways, (cX10_ways, 3, RX10, "ways", (some .int), [])), (t_X10_belongs, (cX10_belongs, 6, RX10, "belongs", (some .int), [])), (t_X10_says, (cX10_says, 5, RX10, "says", (some .int), [])), (t_X10_settles, (cX10_settles, 9, RX10, "settles", (some .int), [])), (t_X10_lands, (cX10_lands, 5, RX10, "lands", (some .int), [])), (t_X10_chain, (cX10_chain, 10, RX10, "chain", (some .int), [])), (t_X10_times, (cX10_times, 7, RX10, "times", (some .int), [])), (t_X10_ifStruck, (cX10_ifStruck, 7, RX10, "ifStruck", (some .int), [])), (t_X10_count, (cX10_count, 2, RX10, "count", (some .int), [])), (t_X10_needNumber, (cX10_needNumber, 2, RX10, "needNumber", none, [])), (t_X10_needDay, (cX10_needDay, 1, RX10, "needDay", none, [])), (t_X10_needEvening, (cX10_needEvening, 2, RX10, "needEvening", none, [])), (t_X10_needBond, (cX10_needBond, 5, RX10, "needBond", none, [])), (t_X10_isDay, (cX10_isDay, 1, RX10, "isDay", (some .boolean), [])), (t_X10_isParent, (cX10_isParent, 2, RX10, "isParent", (some .boolean), [])), (t_X10_putBytes, (cX10_putBytes, 3, RX10, "putBytes", none, [])), (t_X10_forget, (cX10_forget, 1, RX10, "forget", none, [])), (t_X10_workOutWays, (cX10_workOutWays, 5, RX10, "workOutWays", none, []))] : List (List (Nat × am_F) × am_I)), ∀ r ∈ q.1, am_ok vwCl q_SH ξ (q_E ξ β xs L) q_EN q_KD q_ML q.2 r.1 r.2 :=
  List.forall_mem_cons.mpr ⟨o_X10_force,
  List.forall_mem_cons.mpr ⟨o_X10_landOf,
  List.forall_mem_cons.mpr ⟨o_X10_ways,
  List.forall_mem_cons.mpr ⟨o_X10_belongs,
  List.forall_mem_cons.mpr ⟨o_X10_says,
  List.forall_mem_cons.mpr ⟨o_X10_settles,
  List.forall_mem_cons.mpr ⟨o_X10_lands,
  List.forall_mem_cons.mpr ⟨o_X10_chain,
  List.forall_mem_cons.mpr ⟨o_X10_times,
  List.forall_mem_cons.mpr ⟨o_X10_ifStruck,
  List.forall_mem_cons.mpr ⟨o_X10_count,
  List.forall_mem_cons.mpr ⟨o_X10_needNumber,
  List.forall_mem_cons.mpr ⟨o_X10_needDay,
  List.forall_mem_cons.mpr ⟨o_X10_needEvening,
  List.forall_mem_cons.mpr ⟨o_X10_needBond,
  List.forall_mem_cons.mpr ⟨o_X10_isDay,
  List.forall_mem_cons.mpr ⟨o_X10_isParent,
  List.forall_mem_cons.mpr ⟨o_X10_putBytes,
  List.forall_mem_cons.mpr ⟨o_X10_forget,
  List.forall_mem_cons.mpr ⟨o_X10_workOutWays,
  fun _ h => absurd h List.not_mem_nil⟩⟩⟩⟩⟩⟩⟩⟩⟩⟩⟩⟩⟩⟩⟩⟩⟩⟩⟩⟩
theorem q_all5 : ∀ q ∈ ([(t_X10_waysWith, (cX10_waysWith, 5, RX10, "waysWith", (some .int), [])), (t_X10_isSettledBy, (cX10_isSettledBy, 7, RX10, "isSettledBy", (some .boolean), [])), (t_X11_thrown, (cX11_thrown, 1, RX11, "thrown", (some .int), [])), (t_X11_right, (cX11_right, 3, RX11, "right", (some .boolean), [])), (t_X11_land, (cX11_land, 1, RX11, "land", (some .int), [])), (t_X11_place, (cX11_place, 2, RX11, "place", (some .int), [])), (t_X11_person, (cX11_person, 4, RX11, "person", (some .int), [])), (t_X11_isPerson, (cX11_isPerson, 2, RX11, "isPerson", (some .boolean), [])), (t_X11_isLand, (cX11_isLand, 2, RX11, "isLand", (some .boolean), [])), (t_X11_isDay, (cX11_isDay, 1, RX11, "isDay", (some .boolean), [])), (t_X11_fact, (cX11_fact, 6, RX11, "fact", (some .int), [])), (t_X11_also, (cX11_also, 5, RX11, "also", (some .int), [])), (t_X11_back, (cX11_back, 3, RX11, "back", (some .boolean), [])), (t_X11_evenings, (cX11_evenings, 2, RX11, "evenings", (some .int), [])), (t_X11_feed, (cX11_feed, 6, RX11, "feed", (some .int), [])), (t_X11_lays, (cX11_lays, 3, RX11, "lays", none, [])), (t_X11_byteAt, (cX11_byteAt, 2, RX11, "byteAt", (some .int), [])), (t_X11_isLetter, (cX11_isLetter, 1, RX11, "isLetter", (some .boolean), [])), (t_X11_isDigit, (cX11_isDigit, 1, RX11, "isDigit", (some .boolean), [])), (t_X11_goes, (cX11_goes, 2, RX11, "goes", none, []))] : List (List (Nat × am_F) × am_I)), ∀ r ∈ q.1, am_ok vwCl q_SH ξ (q_E ξ β xs L) q_EN q_KD q_ML q.2 r.1 r.2 :=
  List.forall_mem_cons.mpr ⟨o_X10_waysWith,
  List.forall_mem_cons.mpr ⟨o_X10_isSettledBy,
  List.forall_mem_cons.mpr ⟨o_X11_thrown,
  List.forall_mem_cons.mpr ⟨o_X11_right,
  List.forall_mem_cons.mpr ⟨o_X11_land,
  List.forall_mem_cons.mpr ⟨o_X11_place,
  List.forall_mem_cons.mpr ⟨o_X11_person,
  List.forall_mem_cons.mpr ⟨o_X11_isPerson,
  List.forall_mem_cons.mpr ⟨o_X11_isLand,
  List.forall_mem_cons.mpr ⟨o_X11_isDay,
  List.forall_mem_cons.mpr ⟨o_X11_fact,
  List.forall_mem_cons.mpr ⟨o_X11_also,
  List.forall_mem_cons.mpr ⟨o_X11_back,
  List.forall_mem_cons.mpr ⟨o_X11_evenings,
  List.forall_mem_cons.mpr ⟨o_X11_feed,
  List.forall_mem_cons.mpr ⟨o_X11_lays,
  List.forall_mem_cons.mpr ⟨o_X11_byteAt,
  List.forall_mem_cons.mpr ⟨o_X11_isLetter,
  List.forall_mem_cons.mpr ⟨o_X11_isDigit,
  List.forall_mem_cons.mpr ⟨o_X11_goes,
  fun _ h => absurd h List.not_mem_nil⟩⟩⟩⟩⟩⟩⟩⟩⟩⟩⟩⟩⟩⟩⟩⟩⟩⟩⟩⟩
theorem q_all6 : ∀ q ∈ ([(t_X11_spelled, (cX11_spelled, 8, RX11, "spelled", (some .long), [])), (t_X11_init, (cX11_init, 1, RX11, "<init>", none, [])), (t_X11_knownWord, (cX11_knownWord, 2, RX11, "knownWord", (some .int), [])), (t_X11_wrong, (cX11_wrong, 2, RX11, "wrong", none, [])), (t_X11_isGood, (cX11_isGood, 1, RX11, "isGood", (some .boolean), [])), (t_X11_isSign, (cX11_isSign, 2, RX11, "isSign", (some .boolean), [])), (t_X11_puts, (cX11_puts, 2, RX11, "puts", none, [])), (t_X11_strength, (cX11_strength, 1, RX11, "strength", (some .int), [])), (t_X11_drops, (cX11_drops, 2, RX11, "drops", none, [])), (t_X11_waitsFor, (cX11_waitsFor, 2, RX11, "waitsFor", none, [])), (t_X11_part, (cX11_part, 2, RX11, "part", none, [])), (t_X11_begins, (cX11_begins, 1, RX11, "begins", none, [])), (t_X11_operand, (cX11_operand, 5, RX11, "operand", none, [])), (t_X11_expression, (cX11_expression, 4, RX11, "expression", (some .int), [])), (t_X11_number, (cX11_number, 2, RX11, "number", (some .int), [])), (t_X11_clause, (cX11_clause, 4, RX11, "clause", none, [])), (t_X11_struck, (cX11_struck, 3, RX11, "struck", none, [])), (t_X11_change, (cX11_change, 3, RX11, "change", none, [])), (t_X11_act, (cX11_act, 6, RX11, "act", (some .int), [])), (t_X11_fault, (cX11_fault, 1, RX11, "fault", (some .int), []))] : List (List (Nat × am_F) × am_I)), ∀ r ∈ q.1, am_ok vwCl q_SH ξ (q_E ξ β xs L) q_EN q_KD q_ML q.2 r.1 r.2 :=
  List.forall_mem_cons.mpr ⟨o_X11_spelled,
  List.forall_mem_cons.mpr ⟨o_X11_init,
  List.forall_mem_cons.mpr ⟨o_X11_knownWord,
  List.forall_mem_cons.mpr ⟨o_X11_wrong,
  List.forall_mem_cons.mpr ⟨o_X11_isGood,
  List.forall_mem_cons.mpr ⟨o_X11_isSign,
  List.forall_mem_cons.mpr ⟨o_X11_puts,
  List.forall_mem_cons.mpr ⟨o_X11_strength,
  List.forall_mem_cons.mpr ⟨o_X11_drops,
  List.forall_mem_cons.mpr ⟨o_X11_waitsFor,
  List.forall_mem_cons.mpr ⟨o_X11_part,
  List.forall_mem_cons.mpr ⟨o_X11_begins,
  List.forall_mem_cons.mpr ⟨o_X11_operand,
  List.forall_mem_cons.mpr ⟨o_X11_expression,
  List.forall_mem_cons.mpr ⟨o_X11_number,
  List.forall_mem_cons.mpr ⟨o_X11_clause,
  List.forall_mem_cons.mpr ⟨o_X11_struck,
  List.forall_mem_cons.mpr ⟨o_X11_change,
  List.forall_mem_cons.mpr ⟨o_X11_act,
  List.forall_mem_cons.mpr ⟨o_X11_fault,
  fun _ h => absurd h List.not_mem_nil⟩⟩⟩⟩⟩⟩⟩⟩⟩⟩⟩⟩⟩⟩⟩⟩⟩⟩⟩⟩
theorem q_all7 : ∀ q ∈ ([(t_X11_isKnownAct, (cX11_isKnownAct, 3, RX11, "isKnownAct", (some .boolean), [])), (t_X11_isKnownFact, (cX11_isKnownFact, 3, RX11, "isKnownFact", (some .boolean), [])), (t_X11_inForce, (cX11_inForce, 7, RX11, "inForce", (some .int), [])), (t_X11_findsDoubts, (cX11_findsDoubts, 3, RX11, "findsDoubts", none, [])), (t_X11_dayIn, (cX11_dayIn, 5, RX11, "dayIn", (some .int), [])), (t_X11_starts, (cX11_starts, 6, RX11, "starts", none, [])), (t_X11_sorts, (cX11_sorts, 5, RX11, "sorts", none, [])), (t_X11_runs, (cX11_runs, 7, RX11, "runs", none, [])), (t_X11_actBegins, (cX11_actBegins, 3, RX11, "actBegins", none, [])), (t_X11_happens, (cX11_happens, 4, RX11, "happens", none, [])), (t_X11_one, (cX11_one, 3, RX11, "one", none, [])), (t_X11_birth, (cX11_birth, 3, RX11, "birth", none, [])), (t_X11_wedding, (cX11_wedding, 6, RX11, "wedding", none, [])), (t_X11_border, (cX11_border, 3, RX11, "border", none, [])), (t_X11_stays, (cX11_stays, 3, RX11, "stays", none, [])), (t_X11_bit, (cX11_bit, 1, RX11, "bit", (some .int), [])), (t_X11_has, (cX11_has, 3, RX11, "has", (some .boolean), [])), (t_X11_sees, (cX11_sees, 7, RX11, "sees", none, [])), (t_X11_asks, (cX11_asks, 7, RX11, "asks", none, [])), (t_X11_first, (cX11_first, 5, RX11, "first", (some .int), []))] : List (List (Nat × am_F) × am_I)), ∀ r ∈ q.1, am_ok vwCl q_SH ξ (q_E ξ β xs L) q_EN q_KD q_ML q.2 r.1 r.2 :=
  List.forall_mem_cons.mpr ⟨o_X11_isKnownAct,
  List.forall_mem_cons.mpr ⟨o_X11_isKnownFact,
  List.forall_mem_cons.mpr ⟨o_X11_inForce,
  List.forall_mem_cons.mpr ⟨o_X11_findsDoubts,
  List.forall_mem_cons.mpr ⟨o_X11_dayIn,
  List.forall_mem_cons.mpr ⟨o_X11_starts,
  List.forall_mem_cons.mpr ⟨o_X11_sorts,
  List.forall_mem_cons.mpr ⟨o_X11_runs,
  List.forall_mem_cons.mpr ⟨o_X11_actBegins,
  List.forall_mem_cons.mpr ⟨o_X11_happens,
  List.forall_mem_cons.mpr ⟨o_X11_one,
  List.forall_mem_cons.mpr ⟨o_X11_birth,
  List.forall_mem_cons.mpr ⟨o_X11_wedding,
  List.forall_mem_cons.mpr ⟨o_X11_border,
  List.forall_mem_cons.mpr ⟨o_X11_stays,
  List.forall_mem_cons.mpr ⟨o_X11_bit,
  List.forall_mem_cons.mpr ⟨o_X11_has,
  List.forall_mem_cons.mpr ⟨o_X11_sees,
  List.forall_mem_cons.mpr ⟨o_X11_asks,
  List.forall_mem_cons.mpr ⟨o_X11_first,
  fun _ h => absurd h List.not_mem_nil⟩⟩⟩⟩⟩⟩⟩⟩⟩⟩⟩⟩⟩⟩⟩⟩⟩⟩⟩⟩
theorem q_all8 : ∀ q ∈ ([(t_X11_works, (cX11_works, 3, RX11, "works", (some .int), [])), (t_X11_worth, (cX11_worth, 5, RX11, "worth", (some .int), [])), (t_X11_changes, (cX11_changes, 7, RX11, "changes", none, [])), (t_X11_leans, (cX11_leans, 3, RX11, "leans", (some .int), [])), (t_X11_gains, (cX11_gains, 6, RX11, "gains", none, [])), (t_X11_loses, (cX11_loses, 3, RX11, "loses", none, [])), (t_X11_finds, (cX11_finds, 5, RX11, "finds", none, [])), (t_X11_isEvening, (cX11_isEvening, 2, RX11, "isEvening", (some .boolean), [])), (t_X11_force, (cX11_force, 4, RX11, "force", (some .boolean), [])), (t_X11_landOf, (cX11_landOf, 4, RX11, "landOf", (some .int), [])), (t_X11_ways, (cX11_ways, 3, RX11, "ways", (some .int), [])), (t_X11_isBond, (cX11_isBond, 5, RX11, "isBond", (some .boolean), [])), (t_X11_says0, (cX11_says0, 5, RX11, "says0", (some .int), [])), (t_X11_belongs, (cX11_belongs, 6, RX11, "belongs", (some .int), [])), (t_X11_says, (cX11_says, 5, RX11, "says", (some .int), [])), (t_X11_isSettled, (cX11_isSettled, 8, RX11, "isSettled", (some .boolean), [])), (t_X11_many, (cX11_many, 3, RX11, "many", (some .int), [])), (t_X11_settles, (cX11_settles, 9, RX11, "settles", (some .int), [])), (t_X11_lands, (cX11_lands, 5, RX11, "lands", (some .int), [])), (t_X11_chain, (cX11_chain, 10, RX11, "chain", (some .int), []))] : List (List (Nat × am_F) × am_I)), ∀ r ∈ q.1, am_ok vwCl q_SH ξ (q_E ξ β xs L) q_EN q_KD q_ML q.2 r.1 r.2 :=
  List.forall_mem_cons.mpr ⟨o_X11_works,
  List.forall_mem_cons.mpr ⟨o_X11_worth,
  List.forall_mem_cons.mpr ⟨o_X11_changes,
  List.forall_mem_cons.mpr ⟨o_X11_leans,
  List.forall_mem_cons.mpr ⟨o_X11_gains,
  List.forall_mem_cons.mpr ⟨o_X11_loses,
  List.forall_mem_cons.mpr ⟨o_X11_finds,
  List.forall_mem_cons.mpr ⟨o_X11_isEvening,
  List.forall_mem_cons.mpr ⟨o_X11_force,
  List.forall_mem_cons.mpr ⟨o_X11_landOf,
  List.forall_mem_cons.mpr ⟨o_X11_ways,
  List.forall_mem_cons.mpr ⟨o_X11_isBond,
  List.forall_mem_cons.mpr ⟨o_X11_says0,
  List.forall_mem_cons.mpr ⟨o_X11_belongs,
  List.forall_mem_cons.mpr ⟨o_X11_says,
  List.forall_mem_cons.mpr ⟨o_X11_isSettled,
  List.forall_mem_cons.mpr ⟨o_X11_many,
  List.forall_mem_cons.mpr ⟨o_X11_settles,
  List.forall_mem_cons.mpr ⟨o_X11_lands,
  List.forall_mem_cons.mpr ⟨o_X11_chain,
  fun _ h => absurd h List.not_mem_nil⟩⟩⟩⟩⟩⟩⟩⟩⟩⟩⟩⟩⟩⟩⟩⟩⟩⟩⟩⟩
theorem q_all9 : ∀ q ∈ ([(t_X11_times, (cX11_times, 6, RX11, "times", (some .int), [])), (t_X11_ifStruck, (cX11_ifStruck, 9, RX11, "ifStruck", (some .int), [])), (t_X11_count, (cX11_count, 2, RX11, "count", (some .int), [])), (t_L_fact, (cL_fact, 8, RL, "fact", (some .int), [(0, 16, 19, 13)])), (t_L_also, (cL_also, 5, RL, "also", (some .int), [(0, 10, 13, 13)])), (t_L_back, (cL_back, 5, RL, "back", (some .int), [(0, 17, 20, 13)])), (t_L_evenings, (cL_evenings, 4, RL, "evenings", (some .int), [(0, 9, 12, 27)])), (t_L_act, (cL_act, 7, RL, "act", (some .int), [(0, 14, 17, 13), (0, 14, 21, 27)])), (t_L_force, (cL_force, 6, RL, "force", (some .int), [(0, 19, 22, 13), (0, 19, 26, 27)])), (t_L_landOf, (cL_landOf, 6, RL, "landOf", (some .int), [(0, 12, 15, 13), (0, 12, 19, 27)])), (t_L_ways, (cL_ways, 5, RL, "ways", (some .int), [(0, 10, 13, 13), (0, 10, 17, 27)])), (t_L_belongs, (cL_belongs, 7, RL, "belongs", (some .int), [(0, 14, 17, 13), (0, 14, 21, 27)])), (t_L_says, (cL_says, 7, RL, "says", (some .int), [(0, 14, 17, 13), (0, 14, 21, 27)])), (t_L_settles, (cL_settles, 7, RL, "settles", (some .int), [(0, 14, 17, 13), (0, 14, 21, 27)])), (t_L_lands, (cL_lands, 7, RL, "lands", (some .int), [(0, 14, 17, 13), (0, 14, 21, 27)])), (t_L_chain, (cL_chain, 9, RL, "chain", (some .int), [(0, 18, 21, 13), (0, 18, 25, 27)])), (t_L_times, (cL_times, 8, RL, "times", (some .int), [(0, 16, 19, 13), (0, 16, 23, 27)])), (t_L_ifStruck, (cL_ifStruck, 7, RL, "ifStruck", (some .int), [(0, 14, 17, 13), (0, 14, 21, 27)])), (t_L_count, (cL_count, 4, RL, "count", (some .int), [(0, 9, 12, 13)])), (t_L_law xs L, (cL_law, 7, RL, "law", (some .boolean), []))] : List (List (Nat × am_F) × am_I)), ∀ r ∈ q.1, am_ok vwCl q_SH ξ (q_E ξ β xs L) q_EN q_KD q_ML q.2 r.1 r.2 :=
  List.forall_mem_cons.mpr ⟨o_X11_times,
  List.forall_mem_cons.mpr ⟨o_X11_ifStruck,
  List.forall_mem_cons.mpr ⟨o_X11_count,
  List.forall_mem_cons.mpr ⟨o_L_fact,
  List.forall_mem_cons.mpr ⟨o_L_also,
  List.forall_mem_cons.mpr ⟨o_L_back,
  List.forall_mem_cons.mpr ⟨o_L_evenings,
  List.forall_mem_cons.mpr ⟨o_L_act,
  List.forall_mem_cons.mpr ⟨o_L_force,
  List.forall_mem_cons.mpr ⟨o_L_landOf,
  List.forall_mem_cons.mpr ⟨o_L_ways,
  List.forall_mem_cons.mpr ⟨o_L_belongs,
  List.forall_mem_cons.mpr ⟨o_L_says,
  List.forall_mem_cons.mpr ⟨o_L_settles,
  List.forall_mem_cons.mpr ⟨o_L_lands,
  List.forall_mem_cons.mpr ⟨o_L_chain,
  List.forall_mem_cons.mpr ⟨o_L_times,
  List.forall_mem_cons.mpr ⟨o_L_ifStruck,
  List.forall_mem_cons.mpr ⟨o_L_count,
  List.forall_mem_cons.mpr ⟨o_L_law,
  fun _ h => absurd h List.not_mem_nil⟩⟩⟩⟩⟩⟩⟩⟩⟩⟩⟩⟩⟩⟩⟩⟩⟩⟩⟩⟩
theorem q_all10 : ∀ q ∈ ([(t_J6_bitCount_0f7a4, (cJ6_bitCount_0f7a4, 1, RJ6, "bitCount", (some .int), [])), (t_J7_fill_53178, (cJ7_fill_53178, 4, RJ7, "fill", none, [])), (t_J7_copyOf_59c91, (cJ7_copyOf_59c91, 3, RJ7, "copyOf", (some (.array .int)), [])), (t_J0_length_8abf5, (cJ0_length_8abf5, 1, RJ0, "length", (some .int), [])), (t_J0_coder_7d493, (cJ0_coder_7d493, 1, RJ0, "coder", (some .byte), [])), (t_J0_charAt_5068e, (cJ0_charAt_5068e, 2, RJ0, "charAt", (some .char), [])), (t_J0_isLatin1_aae02, (cJ0_isLatin1_aae02, 1, RJ0, "isLatin1", (some .boolean), [])), (t_J1_charAt_3b067, (cJ1_charAt_3b067, 2, RJ1, "charAt", (some .char), [])), (t_J0_checkIndex_df160 β, (cJ0_checkIndex_df160, 2, RJ0, "checkIndex", none, [])), (t_J3_checkIndex_8e157, (cJ3_checkIndex_8e157, 3, RJ3, "checkIndex", (some .int), [])), (t_J0_indexOf_0f7a4, (cJ0_indexOf_0f7a4, 2, RJ0, "indexOf", (some .int), [])), (t_J0_indexOf_7cf53, (cJ0_indexOf_7cf53, 3, RJ0, "indexOf", (some .int), [])), (t_J1_indexOf_4cfef, (cJ1_indexOf_4cfef, 4, RJ1, "indexOf", (some .int), [])), (t_J1_canEncode_9a6ad, (cJ1_canEncode_9a6ad, 1, RJ1, "canEncode", (some .boolean), [])), (t_J1_indexOfChar_4cfef, (cJ1_indexOfChar_4cfef, 6, RJ1, "indexOfChar", (some .int), []))] : List (List (Nat × am_F) × am_I)), ∀ r ∈ q.1, am_ok vwCl q_SH ξ (q_E ξ β xs L) q_EN q_KD q_ML q.2 r.1 r.2 :=
  List.forall_mem_cons.mpr ⟨o_J6_bitCount_0f7a4,
  List.forall_mem_cons.mpr ⟨o_J7_fill_53178,
  List.forall_mem_cons.mpr ⟨o_J7_copyOf_59c91,
  List.forall_mem_cons.mpr ⟨o_J0_length_8abf5,
  List.forall_mem_cons.mpr ⟨o_J0_coder_7d493,
  List.forall_mem_cons.mpr ⟨o_J0_charAt_5068e,
  List.forall_mem_cons.mpr ⟨o_J0_isLatin1_aae02,
  List.forall_mem_cons.mpr ⟨o_J1_charAt_3b067,
  List.forall_mem_cons.mpr ⟨o_J0_checkIndex_df160,
  List.forall_mem_cons.mpr ⟨o_J3_checkIndex_8e157,
  List.forall_mem_cons.mpr ⟨o_J0_indexOf_0f7a4,
  List.forall_mem_cons.mpr ⟨o_J0_indexOf_7cf53,
  List.forall_mem_cons.mpr ⟨o_J1_indexOf_4cfef,
  List.forall_mem_cons.mpr ⟨o_J1_canEncode_9a6ad,
  List.forall_mem_cons.mpr ⟨o_J1_indexOfChar_4cfef,
  fun _ h => absurd h List.not_mem_nil⟩⟩⟩⟩⟩⟩⟩⟩⟩⟩⟩⟩⟩⟩⟩
theorem q_all : ∀ q ∈ (q_tab β xs L).zip q_KIl, ∀ r ∈ q.1, am_ok vwCl q_SH ξ (q_E ξ β xs L) q_EN q_KD q_ML q.2 r.1 r.2 := by
  show ∀ q ∈ ([(t_X0_init, (cX0_init, 1, RX0, "<init>", none, [])), (t_X0_known, (cX0_known, 4, RX0, "known", (some .int), [])), (t_X0_inForce, (cX0_inForce, 7, RX0, "inForce", (some .int), [])), (t_X0_having, (cX0_having, 5, RX0, "having", (some .int), [])), (t_X1_init, (cX1_init, 1, RX1, "<init>", none, [])), (t_X1_clear, (cX1_clear, 1, RX1, "clear", none, [])), (t_X1_putAct, (cX1_putAct, 3, RX1, "putAct", none, [])), (t_X1_putFact, (cX1_putFact, 3, RX1, "putFact", none, [])), (t_X1_put, (cX1_put, 3, RX1, "put", none, [])), (t_X1_dayAt, (cX1_dayAt, 2, RX1, "dayAt", (some .int), [])), (t_X1_factAt, (cX1_factAt, 2, RX1, "factAt", (some .int), [])), (t_X1_actAt, (cX1_actAt, 2, RX1, "actAt", (some .int), [])), (t_X2_init, (cX2_init, 2, RX2, "<init>", none, [])), (t_X2_find, (cX2_find, 3, RX2, "find", none, [])), (t_X2_pick, (cX2_pick, 3, RX2, "pick", (some .int), [])), (t_X2_dayIn, (cX2_dayIn, 4, RX2, "dayIn", (some .int), [])), (t_X2_firstLike, (cX2_firstLike, 5, RX2, "firstLike", (some .int), [])), (t_X3_init, (cX3_init, 1, RX3, "<init>", none, [])), (t_X3_isKnown, (cX3_isKnown, 3, RX3, "isKnown", (some .boolean), [])), (t_X3_couldBeOn, (cX3_couldBeOn, 4, RX3, "couldBeOn", (some .boolean), []))] : List (List (Nat × am_F) × am_I)) ++ (([(t_X4_init, (cX4_init, 1, RX4, "<init>", none, [])), (t_X5_init, (cX5_init, 1, RX5, "<init>", none, [])), (t_X5_clear, (cX5_clear, 1, RX5, "clear", none, [])), (t_X5_gain, (cX5_gain, 9, RX5, "gain", (some .int), [])), (t_X5_linksFrom, (cX5_linksFrom, 4, RX5, "linksFrom", (some .int), [])), (t_X5_tell, (cX5_tell, 6, RX5, "tell", (some .int), [])), (t_X6_init, (cX6_init, 2, RX6, "<init>", none, [])), (t_X6_read, (cX6_read, 6, RX6, "read", (some .int), [])), (t_X6_readClause, (cX6_readClause, 4, RX6, "readClause", none, [])), (t_X6_readStrike, (cX6_readStrike, 2, RX6, "readStrike", none, [])), (t_X6_readBond, (cX6_readBond, 3, RX6, "readBond", none, [])), (t_X6_readEither, (cX6_readEither, 3, RX6, "readEither", none, [])), (t_X6_readBoth, (cX6_readBoth, 3, RX6, "readBoth", none, [])), (t_X6_readTest, (cX6_readTest, 4, RX6, "readTest", none, [])), (t_X6_readSum, (cX6_readSum, 4, RX6, "readSum", none, [])), (t_X6_readProduct, (cX6_readProduct, 4, RX6, "readProduct", none, [])), (t_X6_readPart, (cX6_readPart, 2, RX6, "readPart", none, [])), (t_X6_isWord, (cX6_isWord, 2, RX6, "isWord", (some .boolean), [])), (t_X6_isSign, (cX6_isSign, 2, RX6, "isSign", (some .boolean), [])), (t_X6_isNumberHere, (cX6_isNumberHere, 1, RX6, "isNumberHere", (some .boolean), []))] : List (List (Nat × am_F) × am_I)) ++ (([(t_X6_expect, (cX6_expect, 2, RX6, "expect", none, [])), (t_X6_fail, (cX6_fail, 2, RX6, "fail", none, [])), (t_X6_put, (cX6_put, 2, RX6, "put", none, [])), (t_X6_next, (cX6_next, 2, RX6, "next", none, [])), (t_X6_readDigits, (cX6_readDigits, 1, RX6, "readDigits", none, [])), (t_X6_wordNumber, (cX6_wordNumber, 5, RX6, "wordNumber", (some .int), [])), (t_X6_isLetter, (cX6_isLetter, 1, RX6, "isLetter", (some .boolean), [])), (t_X6_isDigit, (cX6_isDigit, 1, RX6, "isDigit", (some .boolean), [])), (t_X7_init, (cX7_init, 1, RX7, "<init>", none, [])), (t_X7_isChildOf, (cX7_isChildOf, 4, RX7, "isChildOf", (some .boolean), [])), (t_X8_init, (cX8_init, 1, RX8, "<init>", none, [])), (t_X9_init, (cX9_init, 6, RX9, "<init>", none, [])), (t_X9_live, (cX9_live, 9, RX9, "live", none, [])), (t_X9_holders, (cX9_holders, 4, RX9, "holders", (some .int), [])), (t_X9_begin, (cX9_begin, 1, RX9, "begin", none, [])), (t_X9_putHappenings, (cX9_putHappenings, 5, RX9, "putHappenings", none, [])), (t_X9_beginAct, (cX9_beginAct, 4, RX9, "beginAct", none, [])), (t_X9_happen, (cX9_happen, 3, RX9, "happen", none, [])), (t_X9_bear, (cX9_bear, 2, RX9, "bear", none, [])), (t_X9_wed, (cX9_wed, 3, RX9, "wed", none, []))] : List (List (Nat × am_F) × am_I)) ++ (([(t_X9_countAsked, (cX9_countAsked, 1, RX9, "countAsked", (some .int), [])), (t_X9_askedAt, (cX9_askedAt, 2, RX9, "askedAt", (some .int), [])), (t_X9_ask, (cX9_ask, 3, RX9, "ask", none, [])), (t_X9_choose, (cX9_choose, 8, RX9, "choose", (some .int), [])), (t_X9_evaluate, (cX9_evaluate, 8, RX9, "evaluate", (some .int), [])), (t_X9_join, (cX9_join, 3, RX9, "join", (some .int), [])), (t_X9_valueOf, (cX9_valueOf, 11, RX9, "valueOf", (some .int), [])), (t_X9_change, (cX9_change, 9, RX9, "change", none, [])), (t_X9_leansOn, (cX9_leansOn, 7, RX9, "leansOn", (some .int), [])), (t_X10_init, (cX10_init, 1, RX10, "<init>", none, [])), (t_X10_land, (cX10_land, 1, RX10, "land", (some .int), [])), (t_X10_place, (cX10_place, 2, RX10, "place", (some .int), [])), (t_X10_person, (cX10_person, 5, RX10, "person", (some .int), [])), (t_X10_fact, (cX10_fact, 9, RX10, "fact", (some .int), [])), (t_X10_also, (cX10_also, 4, RX10, "also", (some .int), [])), (t_X10_back, (cX10_back, 4, RX10, "back", (some .boolean), [])), (t_X10_evenings, (cX10_evenings, 2, RX10, "evenings", (some .int), [])), (t_X10_feed, (cX10_feed, 6, RX10, "feed", (some .int), [])), (t_X10_act, (cX10_act, 7, RX10, "act", (some .int), [])), (t_X10_fault, (cX10_fault, 1, RX10, "fault", (some .int), []))] : List (List (Nat × am_F) × am_I)) ++ (([(t_X10_force, (cX10_force, 4, RX10, "force", (some .boolean), [])), (t_X10_landOf, (cX10_landOf, 8, RX10, "landOf", (some .int), [])), (t_X10_ways, (cX10_ways, 3, RX10, "ways", (some .int), [])), (t_X10_belongs, (cX10_belongs, 6, RX10, "belongs", (some .int), [])), (t_X10_says, (cX10_says, 5, RX10, "says", (some .int), [])), (t_X10_settles, (cX10_settles, 9, RX10, "settles", (some .int), [])), (t_X10_lands, (cX10_lands, 5, RX10, "lands", (some .int), [])), (t_X10_chain, (cX10_chain, 10, RX10, "chain", (some .int), [])), (t_X10_times, (cX10_times, 7, RX10, "times", (some .int), [])), (t_X10_ifStruck, (cX10_ifStruck, 7, RX10, "ifStruck", (some .int), [])), (t_X10_count, (cX10_count, 2, RX10, "count", (some .int), [])), (t_X10_needNumber, (cX10_needNumber, 2, RX10, "needNumber", none, [])), (t_X10_needDay, (cX10_needDay, 1, RX10, "needDay", none, [])), (t_X10_needEvening, (cX10_needEvening, 2, RX10, "needEvening", none, [])), (t_X10_needBond, (cX10_needBond, 5, RX10, "needBond", none, [])), (t_X10_isDay, (cX10_isDay, 1, RX10, "isDay", (some .boolean), [])), (t_X10_isParent, (cX10_isParent, 2, RX10, "isParent", (some .boolean), [])), (t_X10_putBytes, (cX10_putBytes, 3, RX10, "putBytes", none, [])), (t_X10_forget, (cX10_forget, 1, RX10, "forget", none, [])), (t_X10_workOutWays, (cX10_workOutWays, 5, RX10, "workOutWays", none, []))] : List (List (Nat × am_F) × am_I)) ++ (([(t_X10_waysWith, (cX10_waysWith, 5, RX10, "waysWith", (some .int), [])), (t_X10_isSettledBy, (cX10_isSettledBy, 7, RX10, "isSettledBy", (some .boolean), [])), (t_X11_thrown, (cX11_thrown, 1, RX11, "thrown", (some .int), [])), (t_X11_right, (cX11_right, 3, RX11, "right", (some .boolean), [])), (t_X11_land, (cX11_land, 1, RX11, "land", (some .int), [])), (t_X11_place, (cX11_place, 2, RX11, "place", (some .int), [])), (t_X11_person, (cX11_person, 4, RX11, "person", (some .int), [])), (t_X11_isPerson, (cX11_isPerson, 2, RX11, "isPerson", (some .boolean), [])), (t_X11_isLand, (cX11_isLand, 2, RX11, "isLand", (some .boolean), [])), (t_X11_isDay, (cX11_isDay, 1, RX11, "isDay", (some .boolean), [])), (t_X11_fact, (cX11_fact, 6, RX11, "fact", (some .int), [])), (t_X11_also, (cX11_also, 5, RX11, "also", (some .int), [])), (t_X11_back, (cX11_back, 3, RX11, "back", (some .boolean), [])), (t_X11_evenings, (cX11_evenings, 2, RX11, "evenings", (some .int), [])), (t_X11_feed, (cX11_feed, 6, RX11, "feed", (some .int), [])), (t_X11_lays, (cX11_lays, 3, RX11, "lays", none, [])), (t_X11_byteAt, (cX11_byteAt, 2, RX11, "byteAt", (some .int), [])), (t_X11_isLetter, (cX11_isLetter, 1, RX11, "isLetter", (some .boolean), [])), (t_X11_isDigit, (cX11_isDigit, 1, RX11, "isDigit", (some .boolean), [])), (t_X11_goes, (cX11_goes, 2, RX11, "goes", none, []))] : List (List (Nat × am_F) × am_I)) ++ (([(t_X11_spelled, (cX11_spelled, 8, RX11, "spelled", (some .long), [])), (t_X11_init, (cX11_init, 1, RX11, "<init>", none, [])), (t_X11_knownWord, (cX11_knownWord, 2, RX11, "knownWord", (some .int), [])), (t_X11_wrong, (cX11_wrong, 2, RX11, "wrong", none, [])), (t_X11_isGood, (cX11_isGood, 1, RX11, "isGood", (some .boolean), [])), (t_X11_isSign, (cX11_isSign, 2, RX11, "isSign", (some .boolean), [])), (t_X11_puts, (cX11_puts, 2, RX11, "puts", none, [])), (t_X11_strength, (cX11_strength, 1, RX11, "strength", (some .int), [])), (t_X11_drops, (cX11_drops, 2, RX11, "drops", none, [])), (t_X11_waitsFor, (cX11_waitsFor, 2, RX11, "waitsFor", none, [])), (t_X11_part, (cX11_part, 2, RX11, "part", none, [])), (t_X11_begins, (cX11_begins, 1, RX11, "begins", none, [])), (t_X11_operand, (cX11_operand, 5, RX11, "operand", none, [])), (t_X11_expression, (cX11_expression, 4, RX11, "expression", (some .int), [])), (t_X11_number, (cX11_number, 2, RX11, "number", (some .int), [])), (t_X11_clause, (cX11_clause, 4, RX11, "clause", none, [])), (t_X11_struck, (cX11_struck, 3, RX11, "struck", none, [])), (t_X11_change, (cX11_change, 3, RX11, "change", none, [])), (t_X11_act, (cX11_act, 6, RX11, "act", (some .int), [])), (t_X11_fault, (cX11_fault, 1, RX11, "fault", (some .int), []))] : List (List (Nat × am_F) × am_I)) ++ (([(t_X11_isKnownAct, (cX11_isKnownAct, 3, RX11, "isKnownAct", (some .boolean), [])), (t_X11_isKnownFact, (cX11_isKnownFact, 3, RX11, "isKnownFact", (some .boolean), [])), (t_X11_inForce, (cX11_inForce, 7, RX11, "inForce", (some .int), [])), (t_X11_findsDoubts, (cX11_findsDoubts, 3, RX11, "findsDoubts", none, [])), (t_X11_dayIn, (cX11_dayIn, 5, RX11, "dayIn", (some .int), [])), (t_X11_starts, (cX11_starts, 6, RX11, "starts", none, [])), (t_X11_sorts, (cX11_sorts, 5, RX11, "sorts", none, [])), (t_X11_runs, (cX11_runs, 7, RX11, "runs", none, [])), (t_X11_actBegins, (cX11_actBegins, 3, RX11, "actBegins", none, [])), (t_X11_happens, (cX11_happens, 4, RX11, "happens", none, [])), (t_X11_one, (cX11_one, 3, RX11, "one", none, [])), (t_X11_birth, (cX11_birth, 3, RX11, "birth", none, [])), (t_X11_wedding, (cX11_wedding, 6, RX11, "wedding", none, [])), (t_X11_border, (cX11_border, 3, RX11, "border", none, [])), (t_X11_stays, (cX11_stays, 3, RX11, "stays", none, [])), (t_X11_bit, (cX11_bit, 1, RX11, "bit", (some .int), [])), (t_X11_has, (cX11_has, 3, RX11, "has", (some .boolean), [])), (t_X11_sees, (cX11_sees, 7, RX11, "sees", none, [])), (t_X11_asks, (cX11_asks, 7, RX11, "asks", none, [])), (t_X11_first, (cX11_first, 5, RX11, "first", (some .int), []))] : List (List (Nat × am_F) × am_I)) ++ (([(t_X11_works, (cX11_works, 3, RX11, "works", (some .int), [])), (t_X11_worth, (cX11_worth, 5, RX11, "worth", (some .int), [])), (t_X11_changes, (cX11_changes, 7, RX11, "changes", none, [])), (t_X11_leans, (cX11_leans, 3, RX11, "leans", (some .int), [])), (t_X11_gains, (cX11_gains, 6, RX11, "gains", none, [])), (t_X11_loses, (cX11_loses, 3, RX11, "loses", none, [])), (t_X11_finds, (cX11_finds, 5, RX11, "finds", none, [])), (t_X11_isEvening, (cX11_isEvening, 2, RX11, "isEvening", (some .boolean), [])), (t_X11_force, (cX11_force, 4, RX11, "force", (some .boolean), [])), (t_X11_landOf, (cX11_landOf, 4, RX11, "landOf", (some .int), [])), (t_X11_ways, (cX11_ways, 3, RX11, "ways", (some .int), [])), (t_X11_isBond, (cX11_isBond, 5, RX11, "isBond", (some .boolean), [])), (t_X11_says0, (cX11_says0, 5, RX11, "says0", (some .int), [])), (t_X11_belongs, (cX11_belongs, 6, RX11, "belongs", (some .int), [])), (t_X11_says, (cX11_says, 5, RX11, "says", (some .int), [])), (t_X11_isSettled, (cX11_isSettled, 8, RX11, "isSettled", (some .boolean), [])), (t_X11_many, (cX11_many, 3, RX11, "many", (some .int), [])), (t_X11_settles, (cX11_settles, 9, RX11, "settles", (some .int), [])), (t_X11_lands, (cX11_lands, 5, RX11, "lands", (some .int), [])), (t_X11_chain, (cX11_chain, 10, RX11, "chain", (some .int), []))] : List (List (Nat × am_F) × am_I)) ++ (([(t_X11_times, (cX11_times, 6, RX11, "times", (some .int), [])), (t_X11_ifStruck, (cX11_ifStruck, 9, RX11, "ifStruck", (some .int), [])), (t_X11_count, (cX11_count, 2, RX11, "count", (some .int), [])), (t_L_fact, (cL_fact, 8, RL, "fact", (some .int), [(0, 16, 19, 13)])), (t_L_also, (cL_also, 5, RL, "also", (some .int), [(0, 10, 13, 13)])), (t_L_back, (cL_back, 5, RL, "back", (some .int), [(0, 17, 20, 13)])), (t_L_evenings, (cL_evenings, 4, RL, "evenings", (some .int), [(0, 9, 12, 27)])), (t_L_act, (cL_act, 7, RL, "act", (some .int), [(0, 14, 17, 13), (0, 14, 21, 27)])), (t_L_force, (cL_force, 6, RL, "force", (some .int), [(0, 19, 22, 13), (0, 19, 26, 27)])), (t_L_landOf, (cL_landOf, 6, RL, "landOf", (some .int), [(0, 12, 15, 13), (0, 12, 19, 27)])), (t_L_ways, (cL_ways, 5, RL, "ways", (some .int), [(0, 10, 13, 13), (0, 10, 17, 27)])), (t_L_belongs, (cL_belongs, 7, RL, "belongs", (some .int), [(0, 14, 17, 13), (0, 14, 21, 27)])), (t_L_says, (cL_says, 7, RL, "says", (some .int), [(0, 14, 17, 13), (0, 14, 21, 27)])), (t_L_settles, (cL_settles, 7, RL, "settles", (some .int), [(0, 14, 17, 13), (0, 14, 21, 27)])), (t_L_lands, (cL_lands, 7, RL, "lands", (some .int), [(0, 14, 17, 13), (0, 14, 21, 27)])), (t_L_chain, (cL_chain, 9, RL, "chain", (some .int), [(0, 18, 21, 13), (0, 18, 25, 27)])), (t_L_times, (cL_times, 8, RL, "times", (some .int), [(0, 16, 19, 13), (0, 16, 23, 27)])), (t_L_ifStruck, (cL_ifStruck, 7, RL, "ifStruck", (some .int), [(0, 14, 17, 13), (0, 14, 21, 27)])), (t_L_count, (cL_count, 4, RL, "count", (some .int), [(0, 9, 12, 13)])), (t_L_law xs L, (cL_law, 7, RL, "law", (some .boolean), []))] : List (List (Nat × am_F) × am_I)) ++ (([(t_J6_bitCount_0f7a4, (cJ6_bitCount_0f7a4, 1, RJ6, "bitCount", (some .int), [])), (t_J7_fill_53178, (cJ7_fill_53178, 4, RJ7, "fill", none, [])), (t_J7_copyOf_59c91, (cJ7_copyOf_59c91, 3, RJ7, "copyOf", (some (.array .int)), [])), (t_J0_length_8abf5, (cJ0_length_8abf5, 1, RJ0, "length", (some .int), [])), (t_J0_coder_7d493, (cJ0_coder_7d493, 1, RJ0, "coder", (some .byte), [])), (t_J0_charAt_5068e, (cJ0_charAt_5068e, 2, RJ0, "charAt", (some .char), [])), (t_J0_isLatin1_aae02, (cJ0_isLatin1_aae02, 1, RJ0, "isLatin1", (some .boolean), [])), (t_J1_charAt_3b067, (cJ1_charAt_3b067, 2, RJ1, "charAt", (some .char), [])), (t_J0_checkIndex_df160 β, (cJ0_checkIndex_df160, 2, RJ0, "checkIndex", none, [])), (t_J3_checkIndex_8e157, (cJ3_checkIndex_8e157, 3, RJ3, "checkIndex", (some .int), [])), (t_J0_indexOf_0f7a4, (cJ0_indexOf_0f7a4, 2, RJ0, "indexOf", (some .int), [])), (t_J0_indexOf_7cf53, (cJ0_indexOf_7cf53, 3, RJ0, "indexOf", (some .int), [])), (t_J1_indexOf_4cfef, (cJ1_indexOf_4cfef, 4, RJ1, "indexOf", (some .int), [])), (t_J1_canEncode_9a6ad, (cJ1_canEncode_9a6ad, 1, RJ1, "canEncode", (some .boolean), [])), (t_J1_indexOfChar_4cfef, (cJ1_indexOfChar_4cfef, 6, RJ1, "indexOfChar", (some .int), []))] : List (List (Nat × am_F) × am_I)))))))))))), _
  exact List.forall_mem_append.mpr ⟨q_all0, List.forall_mem_append.mpr ⟨q_all1, List.forall_mem_append.mpr ⟨q_all2, List.forall_mem_append.mpr ⟨q_all3, List.forall_mem_append.mpr ⟨q_all4, List.forall_mem_append.mpr ⟨q_all5, List.forall_mem_append.mpr ⟨q_all6, List.forall_mem_append.mpr ⟨q_all7, List.forall_mem_append.mpr ⟨q_all8, List.forall_mem_append.mpr ⟨q_all9, q_all10⟩⟩⟩⟩⟩⟩⟩⟩⟩⟩
theorem q_OK : ∀ k pc f, q_P β xs L k pc = some f → am_ok vwCl q_SH ξ (q_E ξ β xs L) q_EN q_KD q_ML (q_KI k) pc f := by
  intro k pc f h
  unfold q_P at h
  have hm := q_lookup h
  cases ht : (q_tab β xs L)[k]? with
  | none =>
    rw [List.getD_eq_getElem?_getD, ht] at hm
    exact absurd hm List.not_mem_nil
  | some t =>
    rw [List.getD_eq_getElem?_getD, ht] at hm
    have hlt : k < (q_tab β xs L).length := (List.getElem?_eq_some_iff.mp ht).1
    have hl2 : (q_tab β xs L).length = q_KIl.length := rfl
    have hi : q_KIl[k]? = some (q_KI k) := by
      unfold q_KI
      rw [List.getD_eq_getElem?_getD, List.getElem?_eq_getElem (by rw [← hl2]; exact hlt)]
      rfl
    have hz : ((q_tab β xs L).zip q_KIl)[k]? = some (t, q_KI k) := by
      rw [List.getElem?_zip_eq_some]
      exact ⟨ht, hi⟩
    exact q_all _ (List.mem_of_getElem? hz) _ hm
theorem q_HDall : ∀ q ∈ q_HDl, am_okH vwCl q_SH ξ (q_KI q.1.1).1 (q_KI q.1.1).2.1 (q_KI q.1.1).2.2.1 (q_KI q.1.1).2.2.2.1 (q_KI q.1.1).2.2.2.2.1 (q_KI q.1.1).2.2.2.2.2 (q_E ξ β xs L) q_EN q.1.2.1 q.1.2.2 q.2.1 q.2.2 :=
  List.forall_mem_cons.mpr ⟨ok_hd (pre := []) (suf := []) (z := (0,16,19,13)) (name := "java/util/NoSuchElementException") rfl (fun _ h => absurd h List.not_mem_nil) (by decide) (by decide) (am_in3 40 rfl rfl) (fun _ _ _ h => q_nw3 50 h rfl rfl) (by decide) (Or.inl ⟨by decide +kernel, rfl⟩),
  List.forall_mem_cons.mpr ⟨ok_hd (pre := []) (suf := []) (z := (0,10,13,13)) (name := "java/util/NoSuchElementException") rfl (fun _ h => absurd h List.not_mem_nil) (by decide) (by decide) (am_in3 40 rfl rfl) (fun _ _ _ h => q_nw3 50 h rfl rfl) (by decide) (Or.inl ⟨by decide +kernel, rfl⟩),
  List.forall_mem_cons.mpr ⟨ok_hd (pre := []) (suf := []) (z := (0,17,20,13)) (name := "java/util/NoSuchElementException") rfl (fun _ h => absurd h List.not_mem_nil) (by decide) (by decide) (am_in3 40 rfl rfl) (fun _ _ _ h => q_nw3 50 h rfl rfl) (by decide) (Or.inl ⟨by decide +kernel, rfl⟩),
  List.forall_mem_cons.mpr ⟨ok_hd (pre := []) (suf := []) (z := (0,9,12,27)) (name := "java/lang/IllegalArgumentException") rfl (fun _ h => absurd h List.not_mem_nil) (by decide) (by decide) (am_in3 135 rfl rfl) (fun _ _ _ h => q_nw3 142 h rfl rfl) (by decide) (Or.inr ⟨3, rfl, by decide +kernel, rfl⟩),
  List.forall_mem_cons.mpr ⟨ok_hd (pre := []) (suf := [(0,14,21,27)]) (z := (0,14,17,13)) (name := "java/util/NoSuchElementException") rfl (fun _ h => absurd h List.not_mem_nil) (by decide) (by decide) (am_in3 40 rfl rfl) (fun _ _ _ h => q_nw3 50 h rfl rfl) (by decide) (Or.inl ⟨by decide +kernel, rfl⟩),
  List.forall_mem_cons.mpr ⟨ok_hd (pre := [(0,14,17,13)]) (suf := []) (z := (0,14,21,27)) (name := "java/lang/IllegalArgumentException") rfl (fun y hy => by rw [List.mem_singleton.mp hy]; exact ⟨by decide, "java/util/NoSuchElementException", am_in3 40 rfl rfl, fun _ _ _ h => q_nc h⟩) (by decide) (by decide) (am_in3 135 rfl rfl) (fun _ _ _ h => q_nw3 142 h rfl rfl) (by decide) (Or.inl ⟨by decide +kernel, rfl⟩),
  List.forall_mem_cons.mpr ⟨ok_hd (pre := []) (suf := [(0,19,26,27)]) (z := (0,19,22,13)) (name := "java/util/NoSuchElementException") rfl (fun _ h => absurd h List.not_mem_nil) (by decide) (by decide) (am_in3 40 rfl rfl) (fun _ _ _ h => q_nw3 50 h rfl rfl) (by decide) (Or.inl ⟨by decide +kernel, rfl⟩),
  List.forall_mem_cons.mpr ⟨ok_hd (pre := [(0,19,22,13)]) (suf := []) (z := (0,19,26,27)) (name := "java/lang/IllegalArgumentException") rfl (fun y hy => by rw [List.mem_singleton.mp hy]; exact ⟨by decide, "java/util/NoSuchElementException", am_in3 40 rfl rfl, fun _ _ _ h => q_nc h⟩) (by decide) (by decide) (am_in3 135 rfl rfl) (fun _ _ _ h => q_nw3 142 h rfl rfl) (by decide) (Or.inl ⟨by decide +kernel, rfl⟩),
  List.forall_mem_cons.mpr ⟨ok_hd (pre := []) (suf := [(0,12,19,27)]) (z := (0,12,15,13)) (name := "java/util/NoSuchElementException") rfl (fun _ h => absurd h List.not_mem_nil) (by decide) (by decide) (am_in3 40 rfl rfl) (fun _ _ _ h => q_nw3 50 h rfl rfl) (by decide) (Or.inl ⟨by decide +kernel, rfl⟩),
  List.forall_mem_cons.mpr ⟨ok_hd (pre := [(0,12,15,13)]) (suf := []) (z := (0,12,19,27)) (name := "java/lang/IllegalArgumentException") rfl (fun y hy => by rw [List.mem_singleton.mp hy]; exact ⟨by decide, "java/util/NoSuchElementException", am_in3 40 rfl rfl, fun _ _ _ h => q_nc h⟩) (by decide) (by decide) (am_in3 135 rfl rfl) (fun _ _ _ h => q_nw3 142 h rfl rfl) (by decide) (Or.inl ⟨by decide +kernel, rfl⟩),
  List.forall_mem_cons.mpr ⟨ok_hd (pre := []) (suf := [(0,10,17,27)]) (z := (0,10,13,13)) (name := "java/util/NoSuchElementException") rfl (fun _ h => absurd h List.not_mem_nil) (by decide) (by decide) (am_in3 40 rfl rfl) (fun _ _ _ h => q_nw3 50 h rfl rfl) (by decide) (Or.inl ⟨by decide +kernel, rfl⟩),
  List.forall_mem_cons.mpr ⟨ok_hd (pre := [(0,10,13,13)]) (suf := []) (z := (0,10,17,27)) (name := "java/lang/IllegalArgumentException") rfl (fun y hy => by rw [List.mem_singleton.mp hy]; exact ⟨by decide, "java/util/NoSuchElementException", am_in3 40 rfl rfl, fun _ _ _ h => q_nc h⟩) (by decide) (by decide) (am_in3 135 rfl rfl) (fun _ _ _ h => q_nw3 142 h rfl rfl) (by decide) (Or.inl ⟨by decide +kernel, rfl⟩),
  List.forall_mem_cons.mpr ⟨ok_hd (pre := []) (suf := [(0,14,21,27)]) (z := (0,14,17,13)) (name := "java/util/NoSuchElementException") rfl (fun _ h => absurd h List.not_mem_nil) (by decide) (by decide) (am_in3 40 rfl rfl) (fun _ _ _ h => q_nw3 50 h rfl rfl) (by decide) (Or.inl ⟨by decide +kernel, rfl⟩),
  List.forall_mem_cons.mpr ⟨ok_hd (pre := [(0,14,17,13)]) (suf := []) (z := (0,14,21,27)) (name := "java/lang/IllegalArgumentException") rfl (fun y hy => by rw [List.mem_singleton.mp hy]; exact ⟨by decide, "java/util/NoSuchElementException", am_in3 40 rfl rfl, fun _ _ _ h => q_nc h⟩) (by decide) (by decide) (am_in3 135 rfl rfl) (fun _ _ _ h => q_nw3 142 h rfl rfl) (by decide) (Or.inl ⟨by decide +kernel, rfl⟩),
  List.forall_mem_cons.mpr ⟨ok_hd (pre := []) (suf := [(0,14,21,27)]) (z := (0,14,17,13)) (name := "java/util/NoSuchElementException") rfl (fun _ h => absurd h List.not_mem_nil) (by decide) (by decide) (am_in3 40 rfl rfl) (fun _ _ _ h => q_nw3 50 h rfl rfl) (by decide) (Or.inl ⟨by decide +kernel, rfl⟩),
  List.forall_mem_cons.mpr ⟨ok_hd (pre := [(0,14,17,13)]) (suf := []) (z := (0,14,21,27)) (name := "java/lang/IllegalArgumentException") rfl (fun y hy => by rw [List.mem_singleton.mp hy]; exact ⟨by decide, "java/util/NoSuchElementException", am_in3 40 rfl rfl, fun _ _ _ h => q_nc h⟩) (by decide) (by decide) (am_in3 135 rfl rfl) (fun _ _ _ h => q_nw3 142 h rfl rfl) (by decide) (Or.inl ⟨by decide +kernel, rfl⟩),
  List.forall_mem_cons.mpr ⟨ok_hd (pre := []) (suf := [(0,14,21,27)]) (z := (0,14,17,13)) (name := "java/util/NoSuchElementException") rfl (fun _ h => absurd h List.not_mem_nil) (by decide) (by decide) (am_in3 40 rfl rfl) (fun _ _ _ h => q_nw3 50 h rfl rfl) (by decide) (Or.inl ⟨by decide +kernel, rfl⟩),
  List.forall_mem_cons.mpr ⟨ok_hd (pre := [(0,14,17,13)]) (suf := []) (z := (0,14,21,27)) (name := "java/lang/IllegalArgumentException") rfl (fun y hy => by rw [List.mem_singleton.mp hy]; exact ⟨by decide, "java/util/NoSuchElementException", am_in3 40 rfl rfl, fun _ _ _ h => q_nc h⟩) (by decide) (by decide) (am_in3 135 rfl rfl) (fun _ _ _ h => q_nw3 142 h rfl rfl) (by decide) (Or.inl ⟨by decide +kernel, rfl⟩),
  List.forall_mem_cons.mpr ⟨ok_hd (pre := []) (suf := [(0,14,21,27)]) (z := (0,14,17,13)) (name := "java/util/NoSuchElementException") rfl (fun _ h => absurd h List.not_mem_nil) (by decide) (by decide) (am_in3 40 rfl rfl) (fun _ _ _ h => q_nw3 50 h rfl rfl) (by decide) (Or.inl ⟨by decide +kernel, rfl⟩),
  List.forall_mem_cons.mpr ⟨ok_hd (pre := [(0,14,17,13)]) (suf := []) (z := (0,14,21,27)) (name := "java/lang/IllegalArgumentException") rfl (fun y hy => by rw [List.mem_singleton.mp hy]; exact ⟨by decide, "java/util/NoSuchElementException", am_in3 40 rfl rfl, fun _ _ _ h => q_nc h⟩) (by decide) (by decide) (am_in3 135 rfl rfl) (fun _ _ _ h => q_nw3 142 h rfl rfl) (by decide) (Or.inl ⟨by decide +kernel, rfl⟩),
  List.forall_mem_cons.mpr ⟨ok_hd (pre := []) (suf := [(0,18,25,27)]) (z := (0,18,21,13)) (name := "java/util/NoSuchElementException") rfl (fun _ h => absurd h List.not_mem_nil) (by decide) (by decide) (am_in3 40 rfl rfl) (fun _ _ _ h => q_nw3 50 h rfl rfl) (by decide) (Or.inl ⟨by decide +kernel, rfl⟩),
  List.forall_mem_cons.mpr ⟨ok_hd (pre := [(0,18,21,13)]) (suf := []) (z := (0,18,25,27)) (name := "java/lang/IllegalArgumentException") rfl (fun y hy => by rw [List.mem_singleton.mp hy]; exact ⟨by decide, "java/util/NoSuchElementException", am_in3 40 rfl rfl, fun _ _ _ h => q_nc h⟩) (by decide) (by decide) (am_in3 135 rfl rfl) (fun _ _ _ h => q_nw3 142 h rfl rfl) (by decide) (Or.inl ⟨by decide +kernel, rfl⟩),
  List.forall_mem_cons.mpr ⟨ok_hd (pre := []) (suf := [(0,16,23,27)]) (z := (0,16,19,13)) (name := "java/util/NoSuchElementException") rfl (fun _ h => absurd h List.not_mem_nil) (by decide) (by decide) (am_in3 40 rfl rfl) (fun _ _ _ h => q_nw3 50 h rfl rfl) (by decide) (Or.inl ⟨by decide +kernel, rfl⟩),
  List.forall_mem_cons.mpr ⟨ok_hd (pre := [(0,16,19,13)]) (suf := []) (z := (0,16,23,27)) (name := "java/lang/IllegalArgumentException") rfl (fun y hy => by rw [List.mem_singleton.mp hy]; exact ⟨by decide, "java/util/NoSuchElementException", am_in3 40 rfl rfl, fun _ _ _ h => q_nc h⟩) (by decide) (by decide) (am_in3 135 rfl rfl) (fun _ _ _ h => q_nw3 142 h rfl rfl) (by decide) (Or.inl ⟨by decide +kernel, rfl⟩),
  List.forall_mem_cons.mpr ⟨ok_hd (pre := []) (suf := [(0,14,21,27)]) (z := (0,14,17,13)) (name := "java/util/NoSuchElementException") rfl (fun _ h => absurd h List.not_mem_nil) (by decide) (by decide) (am_in3 40 rfl rfl) (fun _ _ _ h => q_nw3 50 h rfl rfl) (by decide) (Or.inl ⟨by decide +kernel, rfl⟩),
  List.forall_mem_cons.mpr ⟨ok_hd (pre := [(0,14,17,13)]) (suf := []) (z := (0,14,21,27)) (name := "java/lang/IllegalArgumentException") rfl (fun y hy => by rw [List.mem_singleton.mp hy]; exact ⟨by decide, "java/util/NoSuchElementException", am_in3 40 rfl rfl, fun _ _ _ h => q_nc h⟩) (by decide) (by decide) (am_in3 135 rfl rfl) (fun _ _ _ h => q_nw3 142 h rfl rfl) (by decide) (Or.inl ⟨by decide +kernel, rfl⟩),
  List.forall_mem_cons.mpr ⟨ok_hd (pre := []) (suf := []) (z := (0,9,12,13)) (name := "java/util/NoSuchElementException") rfl (fun _ h => absurd h List.not_mem_nil) (by decide) (by decide) (am_in3 40 rfl rfl) (fun _ _ _ h => q_nw3 50 h rfl rfl) (by decide) (Or.inr ⟨3, rfl, by decide +kernel, rfl⟩),
  fun _ h => absurd h List.not_mem_nil⟩⟩⟩⟩⟩⟩⟩⟩⟩⟩⟩⟩⟩⟩⟩⟩⟩⟩⟩⟩⟩⟩⟩⟩⟩⟩⟩
theorem q_HDok : ∀ k pc x y, q_HD k pc x = some y → am_okH vwCl q_SH ξ (q_KI k).1 (q_KI k).2.1 (q_KI k).2.2.1 (q_KI k).2.2.2.1 (q_KI k).2.2.2.2.1 (q_KI k).2.2.2.2.2 (q_E ξ β xs L) q_EN pc x y.1 y.2 :=
  fun k pc x y h => q_HDall _ (q_lookup3 h)
theorem q_k0 : am_okK q_KD q_ML q_KI q_NT 0 := ⟨by decide +kernel, rfl, rfl, rfl, Or.inl ⟨rfl, rfl⟩, fun _ => rfl⟩
theorem q_k1 : am_okK q_KD q_ML q_KI q_NT 1 := ⟨by decide +kernel, rfl, rfl, rfl, Or.inl ⟨rfl, rfl⟩, fun _ => rfl⟩
theorem q_k2 : am_okK q_KD q_ML q_KI q_NT 2 := ⟨by decide +kernel, rfl, rfl, rfl, Or.inl ⟨rfl, rfl⟩, fun _ => rfl⟩
theorem q_k3 : am_okK q_KD q_ML q_KI q_NT 3 := ⟨by decide +kernel, rfl, rfl, rfl, Or.inl ⟨rfl, rfl⟩, fun _ => rfl⟩
theorem q_k4 : am_okK q_KD q_ML q_KI q_NT 4 := ⟨by decide +kernel, rfl, rfl, rfl, Or.inl ⟨rfl, rfl⟩, fun _ => rfl⟩
theorem q_k5 : am_okK q_KD q_ML q_KI q_NT 5 := ⟨by decide +kernel, rfl, rfl, rfl, Or.inl ⟨rfl, rfl⟩, fun _ => rfl⟩
theorem q_k6 : am_okK q_KD q_ML q_KI q_NT 6 := ⟨by decide +kernel, rfl, rfl, rfl, Or.inl ⟨rfl, rfl⟩, fun _ => rfl⟩
theorem q_k7 : am_okK q_KD q_ML q_KI q_NT 7 := ⟨by decide +kernel, rfl, rfl, rfl, Or.inl ⟨rfl, rfl⟩, fun _ => rfl⟩
theorem q_k8 : am_okK q_KD q_ML q_KI q_NT 8 := ⟨by decide +kernel, rfl, rfl, rfl, Or.inl ⟨rfl, rfl⟩, fun _ => rfl⟩
theorem q_k9 : am_okK q_KD q_ML q_KI q_NT 9 := ⟨by decide +kernel, rfl, rfl, rfl, Or.inl ⟨rfl, rfl⟩, fun _ => rfl⟩
theorem q_k10 : am_okK q_KD q_ML q_KI q_NT 10 := ⟨by decide +kernel, rfl, rfl, rfl, Or.inl ⟨rfl, rfl⟩, fun _ => rfl⟩
theorem q_k11 : am_okK q_KD q_ML q_KI q_NT 11 := ⟨by decide +kernel, rfl, rfl, rfl, Or.inl ⟨rfl, rfl⟩, fun _ => rfl⟩
theorem q_k12 : am_okK q_KD q_ML q_KI q_NT 12 := ⟨by decide +kernel, rfl, rfl, rfl, Or.inl ⟨rfl, rfl⟩, fun _ => rfl⟩
theorem q_k13 : am_okK q_KD q_ML q_KI q_NT 13 := ⟨by decide +kernel, rfl, rfl, rfl, Or.inl ⟨rfl, rfl⟩, fun _ => rfl⟩
theorem q_k14 : am_okK q_KD q_ML q_KI q_NT 14 := ⟨by decide +kernel, rfl, rfl, rfl, Or.inl ⟨rfl, rfl⟩, fun _ => rfl⟩
theorem q_k15 : am_okK q_KD q_ML q_KI q_NT 15 := ⟨by decide +kernel, rfl, rfl, rfl, Or.inl ⟨rfl, rfl⟩, fun _ => rfl⟩
theorem q_k16 : am_okK q_KD q_ML q_KI q_NT 16 := ⟨by decide +kernel, rfl, rfl, rfl, Or.inl ⟨rfl, rfl⟩, fun _ => rfl⟩
theorem q_k17 : am_okK q_KD q_ML q_KI q_NT 17 := ⟨by decide +kernel, rfl, rfl, rfl, Or.inl ⟨rfl, rfl⟩, fun _ => rfl⟩
theorem q_k18 : am_okK q_KD q_ML q_KI q_NT 18 := ⟨by decide +kernel, rfl, rfl, rfl, Or.inl ⟨rfl, rfl⟩, fun _ => rfl⟩
theorem q_k19 : am_okK q_KD q_ML q_KI q_NT 19 := ⟨by decide +kernel, rfl, rfl, rfl, Or.inl ⟨rfl, rfl⟩, fun _ => rfl⟩
theorem q_k20 : am_okK q_KD q_ML q_KI q_NT 20 := ⟨by decide +kernel, rfl, rfl, rfl, Or.inl ⟨rfl, rfl⟩, fun _ => rfl⟩
theorem q_k21 : am_okK q_KD q_ML q_KI q_NT 21 := ⟨by decide +kernel, rfl, rfl, rfl, Or.inl ⟨rfl, rfl⟩, fun _ => rfl⟩
theorem q_k22 : am_okK q_KD q_ML q_KI q_NT 22 := ⟨by decide +kernel, rfl, rfl, rfl, Or.inl ⟨rfl, rfl⟩, fun _ => rfl⟩
theorem q_k23 : am_okK q_KD q_ML q_KI q_NT 23 := ⟨by decide +kernel, rfl, rfl, rfl, Or.inl ⟨rfl, rfl⟩, fun _ => rfl⟩
theorem q_k24 : am_okK q_KD q_ML q_KI q_NT 24 := ⟨by decide +kernel, rfl, rfl, rfl, Or.inl ⟨rfl, rfl⟩, fun _ => rfl⟩
theorem q_k25 : am_okK q_KD q_ML q_KI q_NT 25 := ⟨by decide +kernel, rfl, rfl, rfl, Or.inl ⟨rfl, rfl⟩, fun _ => rfl⟩
theorem q_k26 : am_okK q_KD q_ML q_KI q_NT 26 := ⟨by decide +kernel, rfl, rfl, rfl, Or.inl ⟨rfl, rfl⟩, fun _ => rfl⟩
theorem q_k27 : am_okK q_KD q_ML q_KI q_NT 27 := ⟨by decide +kernel, rfl, rfl, rfl, Or.inl ⟨rfl, rfl⟩, fun _ => rfl⟩
theorem q_k28 : am_okK q_KD q_ML q_KI q_NT 28 := ⟨by decide +kernel, rfl, rfl, rfl, Or.inl ⟨rfl, rfl⟩, fun _ => rfl⟩
theorem q_k29 : am_okK q_KD q_ML q_KI q_NT 29 := ⟨by decide +kernel, rfl, rfl, rfl, Or.inl ⟨rfl, rfl⟩, fun _ => rfl⟩
theorem q_k30 : am_okK q_KD q_ML q_KI q_NT 30 := ⟨by decide +kernel, rfl, rfl, rfl, Or.inl ⟨rfl, rfl⟩, fun _ => rfl⟩
theorem q_k31 : am_okK q_KD q_ML q_KI q_NT 31 := ⟨by decide +kernel, rfl, rfl, rfl, Or.inl ⟨rfl, rfl⟩, fun _ => rfl⟩
theorem q_k32 : am_okK q_KD q_ML q_KI q_NT 32 := ⟨by decide +kernel, rfl, rfl, rfl, Or.inl ⟨rfl, rfl⟩, fun _ => rfl⟩
theorem q_k33 : am_okK q_KD q_ML q_KI q_NT 33 := ⟨by decide +kernel, rfl, rfl, rfl, Or.inl ⟨rfl, rfl⟩, fun _ => rfl⟩
theorem q_k34 : am_okK q_KD q_ML q_KI q_NT 34 := ⟨by decide +kernel, rfl, rfl, rfl, Or.inl ⟨rfl, rfl⟩, fun _ => rfl⟩
theorem q_k35 : am_okK q_KD q_ML q_KI q_NT 35 := ⟨by decide +kernel, rfl, rfl, rfl, Or.inl ⟨rfl, rfl⟩, fun _ => rfl⟩
theorem q_k36 : am_okK q_KD q_ML q_KI q_NT 36 := ⟨by decide +kernel, rfl, rfl, rfl, Or.inl ⟨rfl, rfl⟩, fun _ => rfl⟩
theorem q_k37 : am_okK q_KD q_ML q_KI q_NT 37 := ⟨by decide +kernel, rfl, rfl, rfl, Or.inl ⟨rfl, rfl⟩, fun _ => rfl⟩
theorem q_k38 : am_okK q_KD q_ML q_KI q_NT 38 := ⟨by decide +kernel, rfl, rfl, rfl, Or.inl ⟨rfl, rfl⟩, fun _ => rfl⟩
theorem q_k39 : am_okK q_KD q_ML q_KI q_NT 39 := ⟨by decide +kernel, rfl, rfl, rfl, Or.inl ⟨rfl, rfl⟩, fun _ => rfl⟩
theorem q_k40 : am_okK q_KD q_ML q_KI q_NT 40 := ⟨by decide +kernel, rfl, rfl, rfl, Or.inl ⟨rfl, rfl⟩, fun _ => rfl⟩
theorem q_k41 : am_okK q_KD q_ML q_KI q_NT 41 := ⟨by decide +kernel, rfl, rfl, rfl, Or.inl ⟨rfl, rfl⟩, fun _ => rfl⟩
theorem q_k42 : am_okK q_KD q_ML q_KI q_NT 42 := ⟨by decide +kernel, rfl, rfl, rfl, Or.inl ⟨rfl, rfl⟩, fun _ => rfl⟩
theorem q_k43 : am_okK q_KD q_ML q_KI q_NT 43 := ⟨by decide +kernel, rfl, rfl, rfl, Or.inl ⟨rfl, rfl⟩, fun _ => rfl⟩
theorem q_k44 : am_okK q_KD q_ML q_KI q_NT 44 := ⟨by decide +kernel, rfl, rfl, rfl, Or.inl ⟨rfl, rfl⟩, fun _ => rfl⟩
theorem q_k45 : am_okK q_KD q_ML q_KI q_NT 45 := ⟨by decide +kernel, rfl, rfl, rfl, Or.inl ⟨rfl, rfl⟩, fun _ => rfl⟩
theorem q_k46 : am_okK q_KD q_ML q_KI q_NT 46 := ⟨by decide +kernel, rfl, rfl, rfl, Or.inl ⟨rfl, rfl⟩, fun _ => rfl⟩
theorem q_k47 : am_okK q_KD q_ML q_KI q_NT 47 := ⟨by decide +kernel, rfl, rfl, rfl, Or.inl ⟨rfl, rfl⟩, fun _ => rfl⟩
theorem q_k48 : am_okK q_KD q_ML q_KI q_NT 48 := ⟨by decide +kernel, rfl, rfl, rfl, Or.inl ⟨rfl, rfl⟩, fun _ => rfl⟩
theorem q_k49 : am_okK q_KD q_ML q_KI q_NT 49 := ⟨by decide +kernel, rfl, rfl, rfl, Or.inl ⟨rfl, rfl⟩, fun _ => rfl⟩
theorem q_k50 : am_okK q_KD q_ML q_KI q_NT 50 := ⟨by decide +kernel, rfl, rfl, rfl, Or.inl ⟨rfl, rfl⟩, fun _ => rfl⟩
theorem q_k51 : am_okK q_KD q_ML q_KI q_NT 51 := ⟨by decide +kernel, rfl, rfl, rfl, Or.inl ⟨rfl, rfl⟩, fun _ => rfl⟩
theorem q_k52 : am_okK q_KD q_ML q_KI q_NT 52 := ⟨by decide +kernel, rfl, rfl, rfl, Or.inl ⟨rfl, rfl⟩, fun _ => rfl⟩
theorem q_k53 : am_okK q_KD q_ML q_KI q_NT 53 := ⟨by decide +kernel, rfl, rfl, rfl, Or.inl ⟨rfl, rfl⟩, fun _ => rfl⟩
theorem q_k54 : am_okK q_KD q_ML q_KI q_NT 54 := ⟨by decide +kernel, rfl, rfl, rfl, Or.inl ⟨rfl, rfl⟩, fun _ => rfl⟩
theorem q_k55 : am_okK q_KD q_ML q_KI q_NT 55 := ⟨by decide +kernel, rfl, rfl, rfl, Or.inl ⟨rfl, rfl⟩, fun _ => rfl⟩
theorem q_k56 : am_okK q_KD q_ML q_KI q_NT 56 := ⟨by decide +kernel, rfl, rfl, rfl, Or.inl ⟨rfl, rfl⟩, fun _ => rfl⟩
theorem q_k57 : am_okK q_KD q_ML q_KI q_NT 57 := ⟨by decide +kernel, rfl, rfl, rfl, Or.inl ⟨rfl, rfl⟩, fun _ => rfl⟩
theorem q_k58 : am_okK q_KD q_ML q_KI q_NT 58 := ⟨by decide +kernel, rfl, rfl, rfl, Or.inl ⟨rfl, rfl⟩, fun _ => rfl⟩
theorem q_k59 : am_okK q_KD q_ML q_KI q_NT 59 := ⟨by decide +kernel, rfl, rfl, rfl, Or.inl ⟨rfl, rfl⟩, fun _ => rfl⟩
theorem q_k60 : am_okK q_KD q_ML q_KI q_NT 60 := ⟨by decide +kernel, rfl, rfl, rfl, Or.inl ⟨rfl, rfl⟩, fun _ => rfl⟩
theorem q_k61 : am_okK q_KD q_ML q_KI q_NT 61 := ⟨by decide +kernel, rfl, rfl, rfl, Or.inl ⟨rfl, rfl⟩, fun _ => rfl⟩
theorem q_k62 : am_okK q_KD q_ML q_KI q_NT 62 := ⟨by decide +kernel, rfl, rfl, rfl, Or.inl ⟨rfl, rfl⟩, fun _ => rfl⟩
theorem q_k63 : am_okK q_KD q_ML q_KI q_NT 63 := ⟨by decide +kernel, rfl, rfl, rfl, Or.inl ⟨rfl, rfl⟩, fun _ => rfl⟩
theorem q_k64 : am_okK q_KD q_ML q_KI q_NT 64 := ⟨by decide +kernel, rfl, rfl, rfl, Or.inl ⟨rfl, rfl⟩, fun _ => rfl⟩
theorem q_k65 : am_okK q_KD q_ML q_KI q_NT 65 := ⟨by decide +kernel, rfl, rfl, rfl, Or.inl ⟨rfl, rfl⟩, fun _ => rfl⟩
theorem q_k66 : am_okK q_KD q_ML q_KI q_NT 66 := ⟨by decide +kernel, rfl, rfl, rfl, Or.inl ⟨rfl, rfl⟩, fun _ => rfl⟩
theorem q_k67 : am_okK q_KD q_ML q_KI q_NT 67 := ⟨by decide +kernel, rfl, rfl, rfl, Or.inl ⟨rfl, rfl⟩, fun _ => rfl⟩
theorem q_k68 : am_okK q_KD q_ML q_KI q_NT 68 := ⟨by decide +kernel, rfl, rfl, rfl, Or.inl ⟨rfl, rfl⟩, fun _ => rfl⟩
theorem q_k69 : am_okK q_KD q_ML q_KI q_NT 69 := ⟨by decide +kernel, rfl, rfl, rfl, Or.inl ⟨rfl, rfl⟩, fun _ => rfl⟩
theorem q_k70 : am_okK q_KD q_ML q_KI q_NT 70 := ⟨by decide +kernel, rfl, rfl, rfl, Or.inl ⟨rfl, rfl⟩, fun _ => rfl⟩
theorem q_k71 : am_okK q_KD q_ML q_KI q_NT 71 := ⟨by decide +kernel, rfl, rfl, rfl, Or.inl ⟨rfl, rfl⟩, fun _ => rfl⟩
theorem q_k72 : am_okK q_KD q_ML q_KI q_NT 72 := ⟨by decide +kernel, rfl, rfl, rfl, Or.inl ⟨rfl, rfl⟩, fun _ => rfl⟩
theorem q_k73 : am_okK q_KD q_ML q_KI q_NT 73 := ⟨by decide +kernel, rfl, rfl, rfl, Or.inl ⟨rfl, rfl⟩, fun _ => rfl⟩
theorem q_k74 : am_okK q_KD q_ML q_KI q_NT 74 := ⟨by decide +kernel, rfl, rfl, rfl, Or.inl ⟨rfl, rfl⟩, fun _ => rfl⟩
theorem q_k75 : am_okK q_KD q_ML q_KI q_NT 75 := ⟨by decide +kernel, rfl, rfl, rfl, Or.inl ⟨rfl, rfl⟩, fun _ => rfl⟩
theorem q_k76 : am_okK q_KD q_ML q_KI q_NT 76 := ⟨by decide +kernel, rfl, rfl, rfl, Or.inl ⟨rfl, rfl⟩, fun _ => rfl⟩
theorem q_k77 : am_okK q_KD q_ML q_KI q_NT 77 := ⟨by decide +kernel, rfl, rfl, rfl, Or.inl ⟨rfl, rfl⟩, fun _ => rfl⟩
theorem q_k78 : am_okK q_KD q_ML q_KI q_NT 78 := ⟨by decide +kernel, rfl, rfl, rfl, Or.inl ⟨rfl, rfl⟩, fun _ => rfl⟩
theorem q_k79 : am_okK q_KD q_ML q_KI q_NT 79 := ⟨by decide +kernel, rfl, rfl, rfl, Or.inl ⟨rfl, rfl⟩, fun _ => rfl⟩
theorem q_k80 : am_okK q_KD q_ML q_KI q_NT 80 := ⟨by decide +kernel, rfl, rfl, rfl, Or.inl ⟨rfl, rfl⟩, fun _ => rfl⟩
theorem q_k81 : am_okK q_KD q_ML q_KI q_NT 81 := ⟨by decide +kernel, rfl, rfl, rfl, Or.inl ⟨rfl, rfl⟩, fun _ => rfl⟩
theorem q_k82 : am_okK q_KD q_ML q_KI q_NT 82 := ⟨by decide +kernel, rfl, rfl, rfl, Or.inl ⟨rfl, rfl⟩, fun _ => rfl⟩
theorem q_k83 : am_okK q_KD q_ML q_KI q_NT 83 := ⟨by decide +kernel, rfl, rfl, rfl, Or.inl ⟨rfl, rfl⟩, fun _ => rfl⟩
theorem q_k84 : am_okK q_KD q_ML q_KI q_NT 84 := ⟨by decide +kernel, rfl, rfl, rfl, Or.inl ⟨rfl, rfl⟩, fun _ => rfl⟩
theorem q_k85 : am_okK q_KD q_ML q_KI q_NT 85 := ⟨by decide +kernel, rfl, rfl, rfl, Or.inl ⟨rfl, rfl⟩, fun _ => rfl⟩
theorem q_k86 : am_okK q_KD q_ML q_KI q_NT 86 := ⟨by decide +kernel, rfl, rfl, rfl, Or.inl ⟨rfl, rfl⟩, fun _ => rfl⟩
theorem q_k87 : am_okK q_KD q_ML q_KI q_NT 87 := ⟨by decide +kernel, rfl, rfl, rfl, Or.inl ⟨rfl, rfl⟩, fun _ => rfl⟩
theorem q_k88 : am_okK q_KD q_ML q_KI q_NT 88 := ⟨by decide +kernel, rfl, rfl, rfl, Or.inl ⟨rfl, rfl⟩, fun _ => rfl⟩
theorem q_k89 : am_okK q_KD q_ML q_KI q_NT 89 := ⟨by decide +kernel, rfl, rfl, rfl, Or.inl ⟨rfl, rfl⟩, fun _ => rfl⟩
theorem q_k90 : am_okK q_KD q_ML q_KI q_NT 90 := ⟨by decide +kernel, rfl, rfl, rfl, Or.inl ⟨rfl, rfl⟩, fun _ => rfl⟩
theorem q_k91 : am_okK q_KD q_ML q_KI q_NT 91 := ⟨by decide +kernel, rfl, rfl, rfl, Or.inl ⟨rfl, rfl⟩, fun _ => rfl⟩
theorem q_k92 : am_okK q_KD q_ML q_KI q_NT 92 := ⟨by decide +kernel, rfl, rfl, rfl, Or.inl ⟨rfl, rfl⟩, fun _ => rfl⟩
theorem q_k93 : am_okK q_KD q_ML q_KI q_NT 93 := ⟨by decide +kernel, rfl, rfl, rfl, Or.inl ⟨rfl, rfl⟩, fun _ => rfl⟩
theorem q_k94 : am_okK q_KD q_ML q_KI q_NT 94 := ⟨by decide +kernel, rfl, rfl, rfl, Or.inl ⟨rfl, rfl⟩, fun _ => rfl⟩
theorem q_k95 : am_okK q_KD q_ML q_KI q_NT 95 := ⟨by decide +kernel, rfl, rfl, rfl, Or.inl ⟨rfl, rfl⟩, fun _ => rfl⟩
theorem q_k96 : am_okK q_KD q_ML q_KI q_NT 96 := ⟨by decide +kernel, rfl, rfl, rfl, Or.inl ⟨rfl, rfl⟩, fun _ => rfl⟩
theorem q_k97 : am_okK q_KD q_ML q_KI q_NT 97 := ⟨by decide +kernel, rfl, rfl, rfl, Or.inl ⟨rfl, rfl⟩, fun _ => rfl⟩
theorem q_k98 : am_okK q_KD q_ML q_KI q_NT 98 := ⟨by decide +kernel, rfl, rfl, rfl, Or.inl ⟨rfl, rfl⟩, fun _ => rfl⟩
theorem q_k99 : am_okK q_KD q_ML q_KI q_NT 99 := ⟨by decide +kernel, rfl, rfl, rfl, Or.inl ⟨rfl, rfl⟩, fun _ => rfl⟩
theorem q_k100 : am_okK q_KD q_ML q_KI q_NT 100 := ⟨by decide +kernel, rfl, rfl, rfl, Or.inl ⟨rfl, rfl⟩, fun _ => rfl⟩
theorem q_k101 : am_okK q_KD q_ML q_KI q_NT 101 := ⟨by decide +kernel, rfl, rfl, rfl, Or.inl ⟨rfl, rfl⟩, fun _ => rfl⟩
theorem q_k102 : am_okK q_KD q_ML q_KI q_NT 102 := ⟨by decide +kernel, rfl, rfl, rfl, Or.inl ⟨rfl, rfl⟩, fun _ => rfl⟩
theorem q_k103 : am_okK q_KD q_ML q_KI q_NT 103 := ⟨by decide +kernel, rfl, rfl, rfl, Or.inl ⟨rfl, rfl⟩, fun _ => rfl⟩
theorem q_k104 : am_okK q_KD q_ML q_KI q_NT 104 := ⟨by decide +kernel, rfl, rfl, rfl, Or.inl ⟨rfl, rfl⟩, fun _ => rfl⟩
theorem q_k105 : am_okK q_KD q_ML q_KI q_NT 105 := ⟨by decide +kernel, rfl, rfl, rfl, Or.inl ⟨rfl, rfl⟩, fun _ => rfl⟩
theorem q_k106 : am_okK q_KD q_ML q_KI q_NT 106 := ⟨by decide +kernel, rfl, rfl, rfl, Or.inl ⟨rfl, rfl⟩, fun _ => rfl⟩
theorem q_k107 : am_okK q_KD q_ML q_KI q_NT 107 := ⟨by decide +kernel, rfl, rfl, rfl, Or.inl ⟨rfl, rfl⟩, fun _ => rfl⟩
theorem q_k108 : am_okK q_KD q_ML q_KI q_NT 108 := ⟨by decide +kernel, rfl, rfl, rfl, Or.inl ⟨rfl, rfl⟩, fun _ => rfl⟩
theorem q_k109 : am_okK q_KD q_ML q_KI q_NT 109 := ⟨by decide +kernel, rfl, rfl, rfl, Or.inl ⟨rfl, rfl⟩, fun _ => rfl⟩
theorem q_k110 : am_okK q_KD q_ML q_KI q_NT 110 := ⟨by decide +kernel, rfl, rfl, rfl, Or.inl ⟨rfl, rfl⟩, fun _ => rfl⟩
theorem q_k111 : am_okK q_KD q_ML q_KI q_NT 111 := ⟨by decide +kernel, rfl, rfl, rfl, Or.inl ⟨rfl, rfl⟩, fun _ => rfl⟩
theorem q_k112 : am_okK q_KD q_ML q_KI q_NT 112 := ⟨by decide +kernel, rfl, rfl, rfl, Or.inl ⟨rfl, rfl⟩, fun _ => rfl⟩
theorem q_k113 : am_okK q_KD q_ML q_KI q_NT 113 := ⟨by decide +kernel, rfl, rfl, rfl, Or.inl ⟨rfl, rfl⟩, fun _ => rfl⟩
theorem q_k114 : am_okK q_KD q_ML q_KI q_NT 114 := ⟨by decide +kernel, rfl, rfl, rfl, Or.inl ⟨rfl, rfl⟩, fun _ => rfl⟩
theorem q_k115 : am_okK q_KD q_ML q_KI q_NT 115 := ⟨by decide +kernel, rfl, rfl, rfl, Or.inl ⟨rfl, rfl⟩, fun _ => rfl⟩
theorem q_k116 : am_okK q_KD q_ML q_KI q_NT 116 := ⟨by decide +kernel, rfl, rfl, rfl, Or.inl ⟨rfl, rfl⟩, fun _ => rfl⟩
theorem q_k117 : am_okK q_KD q_ML q_KI q_NT 117 := ⟨by decide +kernel, rfl, rfl, rfl, Or.inl ⟨rfl, rfl⟩, fun _ => rfl⟩
theorem q_k118 : am_okK q_KD q_ML q_KI q_NT 118 := ⟨by decide +kernel, rfl, rfl, rfl, Or.inl ⟨rfl, rfl⟩, fun _ => rfl⟩
theorem q_k119 : am_okK q_KD q_ML q_KI q_NT 119 := ⟨by decide +kernel, rfl, rfl, rfl, Or.inl ⟨rfl, rfl⟩, fun _ => rfl⟩
theorem q_k120 : am_okK q_KD q_ML q_KI q_NT 120 := ⟨by decide +kernel, rfl, rfl, rfl, Or.inl ⟨rfl, rfl⟩, fun _ => rfl⟩
theorem q_k121 : am_okK q_KD q_ML q_KI q_NT 121 := ⟨by decide +kernel, rfl, rfl, rfl, Or.inl ⟨rfl, rfl⟩, fun _ => rfl⟩
theorem q_k122 : am_okK q_KD q_ML q_KI q_NT 122 := ⟨by decide +kernel, rfl, rfl, rfl, Or.inl ⟨rfl, rfl⟩, fun _ => rfl⟩
theorem q_k123 : am_okK q_KD q_ML q_KI q_NT 123 := ⟨by decide +kernel, rfl, rfl, rfl, Or.inl ⟨rfl, rfl⟩, fun _ => rfl⟩
theorem q_k124 : am_okK q_KD q_ML q_KI q_NT 124 := ⟨by decide +kernel, rfl, rfl, rfl, Or.inl ⟨rfl, rfl⟩, fun _ => rfl⟩
theorem q_k125 : am_okK q_KD q_ML q_KI q_NT 125 := ⟨by decide +kernel, rfl, rfl, rfl, Or.inl ⟨rfl, rfl⟩, fun _ => rfl⟩
theorem q_k126 : am_okK q_KD q_ML q_KI q_NT 126 := ⟨by decide +kernel, rfl, rfl, rfl, Or.inl ⟨rfl, rfl⟩, fun _ => rfl⟩
theorem q_k127 : am_okK q_KD q_ML q_KI q_NT 127 := ⟨by decide +kernel, rfl, rfl, rfl, Or.inl ⟨rfl, rfl⟩, fun _ => rfl⟩
theorem q_k128 : am_okK q_KD q_ML q_KI q_NT 128 := ⟨by decide +kernel, rfl, rfl, rfl, Or.inl ⟨rfl, rfl⟩, fun _ => rfl⟩
theorem q_k129 : am_okK q_KD q_ML q_KI q_NT 129 := ⟨by decide +kernel, rfl, rfl, rfl, Or.inl ⟨rfl, rfl⟩, fun _ => rfl⟩
theorem q_k130 : am_okK q_KD q_ML q_KI q_NT 130 := ⟨by decide +kernel, rfl, rfl, rfl, Or.inl ⟨rfl, rfl⟩, fun _ => rfl⟩
theorem q_k131 : am_okK q_KD q_ML q_KI q_NT 131 := ⟨by decide +kernel, rfl, rfl, rfl, Or.inl ⟨rfl, rfl⟩, fun _ => rfl⟩
theorem q_k132 : am_okK q_KD q_ML q_KI q_NT 132 := ⟨by decide +kernel, rfl, rfl, rfl, Or.inl ⟨rfl, rfl⟩, fun _ => rfl⟩
theorem q_k133 : am_okK q_KD q_ML q_KI q_NT 133 := ⟨by decide +kernel, rfl, rfl, rfl, Or.inl ⟨rfl, rfl⟩, fun _ => rfl⟩
theorem q_k134 : am_okK q_KD q_ML q_KI q_NT 134 := ⟨by decide +kernel, rfl, rfl, rfl, Or.inl ⟨rfl, rfl⟩, fun _ => rfl⟩
theorem q_k135 : am_okK q_KD q_ML q_KI q_NT 135 := ⟨by decide +kernel, rfl, rfl, rfl, Or.inl ⟨rfl, rfl⟩, fun _ => rfl⟩
theorem q_k136 : am_okK q_KD q_ML q_KI q_NT 136 := ⟨by decide +kernel, rfl, rfl, rfl, Or.inl ⟨rfl, rfl⟩, fun _ => rfl⟩
theorem q_k137 : am_okK q_KD q_ML q_KI q_NT 137 := ⟨by decide +kernel, rfl, rfl, rfl, Or.inl ⟨rfl, rfl⟩, fun _ => rfl⟩
theorem q_k138 : am_okK q_KD q_ML q_KI q_NT 138 := ⟨by decide +kernel, rfl, rfl, rfl, Or.inl ⟨rfl, rfl⟩, fun _ => rfl⟩
theorem q_k139 : am_okK q_KD q_ML q_KI q_NT 139 := ⟨by decide +kernel, rfl, rfl, rfl, Or.inl ⟨rfl, rfl⟩, fun _ => rfl⟩
theorem q_k140 : am_okK q_KD q_ML q_KI q_NT 140 := ⟨by decide +kernel, rfl, rfl, rfl, Or.inl ⟨rfl, rfl⟩, fun _ => rfl⟩
theorem q_k141 : am_okK q_KD q_ML q_KI q_NT 141 := ⟨by decide +kernel, rfl, rfl, rfl, Or.inl ⟨rfl, rfl⟩, fun _ => rfl⟩
theorem q_k142 : am_okK q_KD q_ML q_KI q_NT 142 := ⟨by decide +kernel, rfl, rfl, rfl, Or.inl ⟨rfl, rfl⟩, fun _ => rfl⟩
theorem q_k143 : am_okK q_KD q_ML q_KI q_NT 143 := ⟨by decide +kernel, rfl, rfl, rfl, Or.inl ⟨rfl, rfl⟩, fun _ => rfl⟩
theorem q_k144 : am_okK q_KD q_ML q_KI q_NT 144 := ⟨by decide +kernel, rfl, rfl, rfl, Or.inl ⟨rfl, rfl⟩, fun _ => rfl⟩
theorem q_k145 : am_okK q_KD q_ML q_KI q_NT 145 := ⟨by decide +kernel, rfl, rfl, rfl, Or.inl ⟨rfl, rfl⟩, fun _ => rfl⟩
theorem q_k146 : am_okK q_KD q_ML q_KI q_NT 146 := ⟨by decide +kernel, rfl, rfl, rfl, Or.inl ⟨rfl, rfl⟩, fun _ => rfl⟩
theorem q_k147 : am_okK q_KD q_ML q_KI q_NT 147 := ⟨by decide +kernel, rfl, rfl, rfl, Or.inl ⟨rfl, rfl⟩, fun _ => rfl⟩
theorem q_k148 : am_okK q_KD q_ML q_KI q_NT 148 := ⟨by decide +kernel, rfl, rfl, rfl, Or.inl ⟨rfl, rfl⟩, fun _ => rfl⟩
theorem q_k149 : am_okK q_KD q_ML q_KI q_NT 149 := ⟨by decide +kernel, rfl, rfl, rfl, Or.inl ⟨rfl, rfl⟩, fun _ => rfl⟩
theorem q_k150 : am_okK q_KD q_ML q_KI q_NT 150 := ⟨by decide +kernel, rfl, rfl, rfl, Or.inl ⟨rfl, rfl⟩, fun _ => rfl⟩
theorem q_k151 : am_okK q_KD q_ML q_KI q_NT 151 := ⟨by decide +kernel, rfl, rfl, rfl, Or.inl ⟨rfl, rfl⟩, fun _ => rfl⟩
theorem q_k152 : am_okK q_KD q_ML q_KI q_NT 152 := ⟨by decide +kernel, rfl, rfl, rfl, Or.inl ⟨rfl, rfl⟩, fun _ => rfl⟩
theorem q_k153 : am_okK q_KD q_ML q_KI q_NT 153 := ⟨by decide +kernel, rfl, rfl, rfl, Or.inl ⟨rfl, rfl⟩, fun _ => rfl⟩
theorem q_k154 : am_okK q_KD q_ML q_KI q_NT 154 := ⟨by decide +kernel, rfl, rfl, rfl, Or.inl ⟨rfl, rfl⟩, fun _ => rfl⟩
theorem q_k155 : am_okK q_KD q_ML q_KI q_NT 155 := ⟨by decide +kernel, rfl, rfl, rfl, Or.inl ⟨rfl, rfl⟩, fun _ => rfl⟩
theorem q_k156 : am_okK q_KD q_ML q_KI q_NT 156 := ⟨by decide +kernel, rfl, rfl, rfl, Or.inl ⟨rfl, rfl⟩, fun _ => rfl⟩
theorem q_k157 : am_okK q_KD q_ML q_KI q_NT 157 := ⟨by decide +kernel, rfl, rfl, rfl, Or.inl ⟨rfl, rfl⟩, fun _ => rfl⟩
theorem q_k158 : am_okK q_KD q_ML q_KI q_NT 158 := ⟨by decide +kernel, rfl, rfl, rfl, Or.inl ⟨rfl, rfl⟩, fun _ => rfl⟩
theorem q_k159 : am_okK q_KD q_ML q_KI q_NT 159 := ⟨by decide +kernel, rfl, rfl, rfl, Or.inl ⟨rfl, rfl⟩, fun _ => rfl⟩
theorem q_k160 : am_okK q_KD q_ML q_KI q_NT 160 := ⟨by decide +kernel, rfl, rfl, rfl, Or.inl ⟨rfl, rfl⟩, fun _ => rfl⟩
theorem q_k161 : am_okK q_KD q_ML q_KI q_NT 161 := ⟨by decide +kernel, rfl, rfl, rfl, Or.inl ⟨rfl, rfl⟩, fun _ => rfl⟩
theorem q_k162 : am_okK q_KD q_ML q_KI q_NT 162 := ⟨by decide +kernel, rfl, rfl, rfl, Or.inl ⟨rfl, rfl⟩, fun _ => rfl⟩
theorem q_k163 : am_okK q_KD q_ML q_KI q_NT 163 := ⟨by decide +kernel, rfl, rfl, rfl, Or.inl ⟨rfl, rfl⟩, fun _ => rfl⟩
theorem q_k164 : am_okK q_KD q_ML q_KI q_NT 164 := ⟨by decide +kernel, rfl, rfl, rfl, Or.inl ⟨rfl, rfl⟩, fun _ => rfl⟩
theorem q_k165 : am_okK q_KD q_ML q_KI q_NT 165 := ⟨by decide +kernel, rfl, rfl, rfl, Or.inl ⟨rfl, rfl⟩, fun _ => rfl⟩
theorem q_k166 : am_okK q_KD q_ML q_KI q_NT 166 := ⟨by decide +kernel, rfl, rfl, rfl, Or.inl ⟨rfl, rfl⟩, fun _ => rfl⟩
theorem q_k167 : am_okK q_KD q_ML q_KI q_NT 167 := ⟨by decide +kernel, rfl, rfl, rfl, Or.inl ⟨rfl, rfl⟩, fun _ => rfl⟩
theorem q_k168 : am_okK q_KD q_ML q_KI q_NT 168 := ⟨by decide +kernel, rfl, rfl, rfl, Or.inl ⟨rfl, rfl⟩, fun _ => rfl⟩
theorem q_k169 : am_okK q_KD q_ML q_KI q_NT 169 := ⟨by decide +kernel, rfl, rfl, rfl, Or.inl ⟨rfl, rfl⟩, fun _ => rfl⟩
theorem q_k170 : am_okK q_KD q_ML q_KI q_NT 170 := ⟨by decide +kernel, rfl, rfl, rfl, Or.inl ⟨rfl, rfl⟩, fun _ => rfl⟩
theorem q_k171 : am_okK q_KD q_ML q_KI q_NT 171 := ⟨by decide +kernel, rfl, rfl, rfl, Or.inl ⟨rfl, rfl⟩, fun _ => rfl⟩
theorem q_k172 : am_okK q_KD q_ML q_KI q_NT 172 := ⟨by decide +kernel, rfl, rfl, rfl, Or.inl ⟨rfl, rfl⟩, fun _ => rfl⟩
theorem q_k173 : am_okK q_KD q_ML q_KI q_NT 173 := ⟨by decide +kernel, rfl, rfl, rfl, Or.inl ⟨rfl, rfl⟩, fun _ => rfl⟩
theorem q_k174 : am_okK q_KD q_ML q_KI q_NT 174 := ⟨by decide +kernel, rfl, rfl, rfl, Or.inl ⟨rfl, rfl⟩, fun _ => rfl⟩
theorem q_k175 : am_okK q_KD q_ML q_KI q_NT 175 := ⟨by decide +kernel, rfl, rfl, rfl, Or.inl ⟨rfl, rfl⟩, fun _ => rfl⟩
theorem q_k176 : am_okK q_KD q_ML q_KI q_NT 176 := ⟨by decide +kernel, rfl, rfl, rfl, Or.inl ⟨rfl, rfl⟩, fun _ => rfl⟩
theorem q_k177 : am_okK q_KD q_ML q_KI q_NT 177 := ⟨by decide +kernel, rfl, rfl, rfl, Or.inl ⟨rfl, rfl⟩, fun _ => rfl⟩
theorem q_k178 : am_okK q_KD q_ML q_KI q_NT 178 := ⟨by decide +kernel, rfl, rfl, rfl, Or.inl ⟨rfl, rfl⟩, fun _ => rfl⟩
theorem q_k179 : am_okK q_KD q_ML q_KI q_NT 179 := ⟨by decide +kernel, rfl, rfl, rfl, Or.inl ⟨rfl, rfl⟩, fun _ => rfl⟩
theorem q_k180 : am_okK q_KD q_ML q_KI q_NT 180 := ⟨by decide +kernel, rfl, rfl, rfl, Or.inl ⟨rfl, rfl⟩, fun _ => rfl⟩
theorem q_k181 : am_okK q_KD q_ML q_KI q_NT 181 := ⟨by decide +kernel, rfl, rfl, rfl, Or.inl ⟨rfl, rfl⟩, fun _ => rfl⟩
theorem q_k182 : am_okK q_KD q_ML q_KI q_NT 182 := ⟨by decide +kernel, rfl, rfl, rfl, Or.inl ⟨rfl, rfl⟩, fun _ => rfl⟩
theorem q_k183 : am_okK q_KD q_ML q_KI q_NT 183 := ⟨by decide +kernel, rfl, rfl, rfl, Or.inr rfl, fun h => by cases h⟩
theorem q_k184 : am_okK q_KD q_ML q_KI q_NT 184 := ⟨by decide +kernel, rfl, rfl, rfl, Or.inr rfl, fun h => by cases h⟩
theorem q_k185 : am_okK q_KD q_ML q_KI q_NT 185 := ⟨by decide +kernel, rfl, rfl, rfl, Or.inr rfl, fun h => by cases h⟩
theorem q_k186 : am_okK q_KD q_ML q_KI q_NT 186 := ⟨by decide +kernel, rfl, rfl, rfl, Or.inr rfl, fun h => by cases h⟩
theorem q_k187 : am_okK q_KD q_ML q_KI q_NT 187 := ⟨by decide +kernel, rfl, rfl, rfl, Or.inr rfl, fun h => by cases h⟩
theorem q_k188 : am_okK q_KD q_ML q_KI q_NT 188 := ⟨by decide +kernel, rfl, rfl, rfl, Or.inr rfl, fun h => by cases h⟩
theorem q_k189 : am_okK q_KD q_ML q_KI q_NT 189 := ⟨by decide +kernel, rfl, rfl, rfl, Or.inr rfl, fun h => by cases h⟩
theorem q_k190 : am_okK q_KD q_ML q_KI q_NT 190 := ⟨by decide +kernel, rfl, rfl, rfl, Or.inr rfl, fun h => by cases h⟩
theorem q_k191 : am_okK q_KD q_ML q_KI q_NT 191 := ⟨by decide +kernel, rfl, rfl, rfl, Or.inr rfl, fun h => by cases h⟩
theorem q_k192 : am_okK q_KD q_ML q_KI q_NT 192 := ⟨by decide +kernel, rfl, rfl, rfl, Or.inr rfl, fun h => by cases h⟩
theorem q_k193 : am_okK q_KD q_ML q_KI q_NT 193 := ⟨by decide +kernel, rfl, rfl, rfl, Or.inr rfl, fun h => by cases h⟩
theorem q_k194 : am_okK q_KD q_ML q_KI q_NT 194 := ⟨by decide +kernel, rfl, rfl, rfl, Or.inr rfl, fun h => by cases h⟩
theorem q_k195 : am_okK q_KD q_ML q_KI q_NT 195 := ⟨by decide +kernel, rfl, rfl, rfl, Or.inr rfl, fun h => by cases h⟩
theorem q_k196 : am_okK q_KD q_ML q_KI q_NT 196 := ⟨by decide +kernel, rfl, rfl, rfl, Or.inr rfl, fun h => by cases h⟩
theorem q_k197 : am_okK q_KD q_ML q_KI q_NT 197 := ⟨by decide +kernel, rfl, rfl, rfl, Or.inr rfl, fun h => by cases h⟩
theorem q_k198 : am_okK q_KD q_ML q_KI q_NT 198 := ⟨by decide +kernel, rfl, rfl, rfl, Or.inr rfl, fun h => by cases h⟩
theorem q_k199 : am_okK q_KD q_ML q_KI q_NT 199 := ⟨by decide +kernel, rfl, rfl, rfl, Or.inl ⟨rfl, rfl⟩, fun _ => rfl⟩
theorem q_k200 : am_okK q_KD q_ML q_KI q_NT 200 := ⟨by decide +kernel, rfl, rfl, rfl, Or.inl ⟨rfl, rfl⟩, fun _ => rfl⟩
theorem q_k201 : am_okK q_KD q_ML q_KI q_NT 201 := ⟨by decide +kernel, rfl, rfl, rfl, Or.inl ⟨rfl, rfl⟩, fun _ => rfl⟩
theorem q_k202 : am_okK q_KD q_ML q_KI q_NT 202 := ⟨by decide +kernel, rfl, rfl, rfl, Or.inl ⟨rfl, rfl⟩, fun _ => rfl⟩
theorem q_k203 : am_okK q_KD q_ML q_KI q_NT 203 := ⟨by decide +kernel, rfl, rfl, rfl, Or.inl ⟨rfl, rfl⟩, fun _ => rfl⟩
theorem q_k204 : am_okK q_KD q_ML q_KI q_NT 204 := ⟨by decide +kernel, rfl, rfl, rfl, Or.inl ⟨rfl, rfl⟩, fun _ => rfl⟩
theorem q_k205 : am_okK q_KD q_ML q_KI q_NT 205 := ⟨by decide +kernel, rfl, rfl, rfl, Or.inl ⟨rfl, rfl⟩, fun _ => rfl⟩
theorem q_k206 : am_okK q_KD q_ML q_KI q_NT 206 := ⟨by decide +kernel, rfl, rfl, rfl, Or.inl ⟨rfl, rfl⟩, fun _ => rfl⟩
theorem q_k207 : am_okK q_KD q_ML q_KI q_NT 207 := ⟨by decide +kernel, rfl, rfl, rfl, Or.inl ⟨rfl, rfl⟩, fun _ => rfl⟩
theorem q_k208 : am_okK q_KD q_ML q_KI q_NT 208 := ⟨by decide +kernel, rfl, rfl, rfl, Or.inl ⟨rfl, rfl⟩, fun _ => rfl⟩
theorem q_k209 : am_okK q_KD q_ML q_KI q_NT 209 := ⟨by decide +kernel, rfl, rfl, rfl, Or.inl ⟨rfl, rfl⟩, fun _ => rfl⟩
theorem q_k210 : am_okK q_KD q_ML q_KI q_NT 210 := ⟨by decide +kernel, rfl, rfl, rfl, Or.inl ⟨rfl, rfl⟩, fun _ => rfl⟩
theorem q_k211 : am_okK q_KD q_ML q_KI q_NT 211 := ⟨by decide +kernel, rfl, rfl, rfl, Or.inl ⟨rfl, rfl⟩, fun _ => rfl⟩
theorem q_k212 : am_okK q_KD q_ML q_KI q_NT 212 := ⟨by decide +kernel, rfl, rfl, rfl, Or.inl ⟨rfl, rfl⟩, fun _ => rfl⟩
theorem q_k213 : am_okK q_KD q_ML q_KI q_NT 213 := ⟨by decide +kernel, rfl, rfl, rfl, Or.inl ⟨rfl, rfl⟩, fun _ => rfl⟩
theorem q_k214 : am_okK q_KD q_ML q_KI q_NT 214 := ⟨by decide +kernel, rfl, rfl, rfl, Or.inl ⟨rfl, rfl⟩, fun _ => rfl⟩
theorem q_kk0 : ∀ k ∈ ([0, 1, 2, 3, 4, 5, 6, 7, 8, 9, 10, 11, 12, 13, 14, 15, 16, 17, 18, 19] : List Nat), am_okK q_KD q_ML q_KI q_NT k := List.forall_mem_cons.mpr ⟨q_k0, List.forall_mem_cons.mpr ⟨q_k1, List.forall_mem_cons.mpr ⟨q_k2, List.forall_mem_cons.mpr ⟨q_k3, List.forall_mem_cons.mpr ⟨q_k4, List.forall_mem_cons.mpr ⟨q_k5, List.forall_mem_cons.mpr ⟨q_k6, List.forall_mem_cons.mpr ⟨q_k7, List.forall_mem_cons.mpr ⟨q_k8, List.forall_mem_cons.mpr ⟨q_k9, List.forall_mem_cons.mpr ⟨q_k10, List.forall_mem_cons.mpr ⟨q_k11, List.forall_mem_cons.mpr ⟨q_k12, List.forall_mem_cons.mpr ⟨q_k13, List.forall_mem_cons.mpr ⟨q_k14, List.forall_mem_cons.mpr ⟨q_k15, List.forall_mem_cons.mpr ⟨q_k16, List.forall_mem_cons.mpr ⟨q_k17, List.forall_mem_cons.mpr ⟨q_k18, List.forall_mem_cons.mpr ⟨q_k19, fun _ h => absurd h List.not_mem_nil⟩⟩⟩⟩⟩⟩⟩⟩⟩⟩⟩⟩⟩⟩⟩⟩⟩⟩⟩⟩
theorem q_kk1 : ∀ k ∈ ([20, 21, 22, 23, 24, 25, 26, 27, 28, 29, 30, 31, 32, 33, 34, 35, 36, 37, 38, 39] : List Nat), am_okK q_KD q_ML q_KI q_NT k := List.forall_mem_cons.mpr ⟨q_k20, List.forall_mem_cons.mpr ⟨q_k21, List.forall_mem_cons.mpr ⟨q_k22, List.forall_mem_cons.mpr ⟨q_k23, List.forall_mem_cons.mpr ⟨q_k24, List.forall_mem_cons.mpr ⟨q_k25, List.forall_mem_cons.mpr ⟨q_k26, List.forall_mem_cons.mpr ⟨q_k27, List.forall_mem_cons.mpr ⟨q_k28, List.forall_mem_cons.mpr ⟨q_k29, List.forall_mem_cons.mpr ⟨q_k30, List.forall_mem_cons.mpr ⟨q_k31, List.forall_mem_cons.mpr ⟨q_k32, List.forall_mem_cons.mpr ⟨q_k33, List.forall_mem_cons.mpr ⟨q_k34, List.forall_mem_cons.mpr ⟨q_k35, List.forall_mem_cons.mpr ⟨q_k36, List.forall_mem_cons.mpr ⟨q_k37, List.forall_mem_cons.mpr ⟨q_k38, List.forall_mem_cons.mpr ⟨q_k39, fun _ h => absurd h List.not_mem_nil⟩⟩⟩⟩⟩⟩⟩⟩⟩⟩⟩⟩⟩⟩⟩⟩⟩⟩⟩⟩
theorem q_kk2 : ∀ k ∈ ([40, 41, 42, 43, 44, 45, 46, 47, 48, 49, 50, 51, 52, 53, 54, 55, 56, 57, 58, 59] : List Nat), am_okK q_KD q_ML q_KI q_NT k := List.forall_mem_cons.mpr ⟨q_k40, List.forall_mem_cons.mpr ⟨q_k41, List.forall_mem_cons.mpr ⟨q_k42, List.forall_mem_cons.mpr ⟨q_k43, List.forall_mem_cons.mpr ⟨q_k44, List.forall_mem_cons.mpr ⟨q_k45, List.forall_mem_cons.mpr ⟨q_k46, List.forall_mem_cons.mpr ⟨q_k47, List.forall_mem_cons.mpr ⟨q_k48, List.forall_mem_cons.mpr ⟨q_k49, List.forall_mem_cons.mpr ⟨q_k50, List.forall_mem_cons.mpr ⟨q_k51, List.forall_mem_cons.mpr ⟨q_k52, List.forall_mem_cons.mpr ⟨q_k53, List.forall_mem_cons.mpr ⟨q_k54, List.forall_mem_cons.mpr ⟨q_k55, List.forall_mem_cons.mpr ⟨q_k56, List.forall_mem_cons.mpr ⟨q_k57, List.forall_mem_cons.mpr ⟨q_k58, List.forall_mem_cons.mpr ⟨q_k59, fun _ h => absurd h List.not_mem_nil⟩⟩⟩⟩⟩⟩⟩⟩⟩⟩⟩⟩⟩⟩⟩⟩⟩⟩⟩⟩
theorem q_kk3 : ∀ k ∈ ([60, 61, 62, 63, 64, 65, 66, 67, 68, 69, 70, 71, 72, 73, 74, 75, 76, 77, 78, 79] : List Nat), am_okK q_KD q_ML q_KI q_NT k := List.forall_mem_cons.mpr ⟨q_k60, List.forall_mem_cons.mpr ⟨q_k61, List.forall_mem_cons.mpr ⟨q_k62, List.forall_mem_cons.mpr ⟨q_k63, List.forall_mem_cons.mpr ⟨q_k64, List.forall_mem_cons.mpr ⟨q_k65, List.forall_mem_cons.mpr ⟨q_k66, List.forall_mem_cons.mpr ⟨q_k67, List.forall_mem_cons.mpr ⟨q_k68, List.forall_mem_cons.mpr ⟨q_k69, List.forall_mem_cons.mpr ⟨q_k70, List.forall_mem_cons.mpr ⟨q_k71, List.forall_mem_cons.mpr ⟨q_k72, List.forall_mem_cons.mpr ⟨q_k73, List.forall_mem_cons.mpr ⟨q_k74, List.forall_mem_cons.mpr ⟨q_k75, List.forall_mem_cons.mpr ⟨q_k76, List.forall_mem_cons.mpr ⟨q_k77, List.forall_mem_cons.mpr ⟨q_k78, List.forall_mem_cons.mpr ⟨q_k79, fun _ h => absurd h List.not_mem_nil⟩⟩⟩⟩⟩⟩⟩⟩⟩⟩⟩⟩⟩⟩⟩⟩⟩⟩⟩⟩
theorem q_kk4 : ∀ k ∈ ([80, 81, 82, 83, 84, 85, 86, 87, 88, 89, 90, 91, 92, 93, 94, 95, 96, 97, 98, 99] : List Nat), am_okK q_KD q_ML q_KI q_NT k := List.forall_mem_cons.mpr ⟨q_k80, List.forall_mem_cons.mpr ⟨q_k81, List.forall_mem_cons.mpr ⟨q_k82, List.forall_mem_cons.mpr ⟨q_k83, List.forall_mem_cons.mpr ⟨q_k84, List.forall_mem_cons.mpr ⟨q_k85, List.forall_mem_cons.mpr ⟨q_k86, List.forall_mem_cons.mpr ⟨q_k87, List.forall_mem_cons.mpr ⟨q_k88, List.forall_mem_cons.mpr ⟨q_k89, List.forall_mem_cons.mpr ⟨q_k90, List.forall_mem_cons.mpr ⟨q_k91, List.forall_mem_cons.mpr ⟨q_k92, List.forall_mem_cons.mpr ⟨q_k93, List.forall_mem_cons.mpr ⟨q_k94, List.forall_mem_cons.mpr ⟨q_k95, List.forall_mem_cons.mpr ⟨q_k96, List.forall_mem_cons.mpr ⟨q_k97, List.forall_mem_cons.mpr ⟨q_k98, List.forall_mem_cons.mpr ⟨q_k99, fun _ h => absurd h List.not_mem_nil⟩⟩⟩⟩⟩⟩⟩⟩⟩⟩⟩⟩⟩⟩⟩⟩⟩⟩⟩⟩
theorem q_kk5 : ∀ k ∈ ([100, 101, 102, 103, 104, 105, 106, 107, 108, 109, 110, 111, 112, 113, 114, 115, 116, 117, 118, 119] : List Nat), am_okK q_KD q_ML q_KI q_NT k := List.forall_mem_cons.mpr ⟨q_k100, List.forall_mem_cons.mpr ⟨q_k101, List.forall_mem_cons.mpr ⟨q_k102, List.forall_mem_cons.mpr ⟨q_k103, List.forall_mem_cons.mpr ⟨q_k104, List.forall_mem_cons.mpr ⟨q_k105, List.forall_mem_cons.mpr ⟨q_k106, List.forall_mem_cons.mpr ⟨q_k107, List.forall_mem_cons.mpr ⟨q_k108, List.forall_mem_cons.mpr ⟨q_k109, List.forall_mem_cons.mpr ⟨q_k110, List.forall_mem_cons.mpr ⟨q_k111, List.forall_mem_cons.mpr ⟨q_k112, List.forall_mem_cons.mpr ⟨q_k113, List.forall_mem_cons.mpr ⟨q_k114, List.forall_mem_cons.mpr ⟨q_k115, List.forall_mem_cons.mpr ⟨q_k116, List.forall_mem_cons.mpr ⟨q_k117, List.forall_mem_cons.mpr ⟨q_k118, List.forall_mem_cons.mpr ⟨q_k119, fun _ h => absurd h List.not_mem_nil⟩⟩⟩⟩⟩⟩⟩⟩⟩⟩⟩⟩⟩⟩⟩⟩⟩⟩⟩⟩
theorem q_kk6 : ∀ k ∈ ([120, 121, 122, 123, 124, 125, 126, 127, 128, 129, 130, 131, 132, 133, 134, 135, 136, 137, 138, 139] : List Nat), am_okK q_KD q_ML q_KI q_NT k := List.forall_mem_cons.mpr ⟨q_k120, List.forall_mem_cons.mpr ⟨q_k121, List.forall_mem_cons.mpr ⟨q_k122, List.forall_mem_cons.mpr ⟨q_k123, List.forall_mem_cons.mpr ⟨q_k124, List.forall_mem_cons.mpr ⟨q_k125, List.forall_mem_cons.mpr ⟨q_k126, List.forall_mem_cons.mpr ⟨q_k127, List.forall_mem_cons.mpr ⟨q_k128, List.forall_mem_cons.mpr ⟨q_k129, List.forall_mem_cons.mpr ⟨q_k130, List.forall_mem_cons.mpr ⟨q_k131, List.forall_mem_cons.mpr ⟨q_k132, List.forall_mem_cons.mpr ⟨q_k133, List.forall_mem_cons.mpr ⟨q_k134, List.forall_mem_cons.mpr ⟨q_k135, List.forall_mem_cons.mpr ⟨q_k136, List.forall_mem_cons.mpr ⟨q_k137, List.forall_mem_cons.mpr ⟨q_k138, List.forall_mem_cons.mpr ⟨q_k139, fun _ h => absurd h List.not_mem_nil⟩⟩⟩⟩⟩⟩⟩⟩⟩⟩⟩⟩⟩⟩⟩⟩⟩⟩⟩⟩
theorem q_kk7 : ∀ k ∈ ([140, 141, 142, 143, 144, 145, 146, 147, 148, 149, 150, 151, 152, 153, 154, 155, 156, 157, 158, 159] : List Nat), am_okK q_KD q_ML q_KI q_NT k := List.forall_mem_cons.mpr ⟨q_k140, List.forall_mem_cons.mpr ⟨q_k141, List.forall_mem_cons.mpr ⟨q_k142, List.forall_mem_cons.mpr ⟨q_k143, List.forall_mem_cons.mpr ⟨q_k144, List.forall_mem_cons.mpr ⟨q_k145, List.forall_mem_cons.mpr ⟨q_k146, List.forall_mem_cons.mpr ⟨q_k147, List.forall_mem_cons.mpr ⟨q_k148, List.forall_mem_cons.mpr ⟨q_k149, List.forall_mem_cons.mpr ⟨q_k150, List.forall_mem_cons.mpr ⟨q_k151, List.forall_mem_cons.mpr ⟨q_k152, List.forall_mem_cons.mpr ⟨q_k153, List.forall_mem_cons.mpr ⟨q_k154, List.forall_mem_cons.mpr ⟨q_k155, List.forall_mem_cons.mpr ⟨q_k156, List.forall_mem_cons.mpr ⟨q_k157, List.forall_mem_cons.mpr ⟨q_k158, List.forall_mem_cons.mpr ⟨q_k159, fun _ h => absurd h List.not_mem_nil⟩⟩⟩⟩⟩⟩⟩⟩⟩⟩⟩⟩⟩⟩⟩⟩⟩⟩⟩⟩
theorem q_kk8 : ∀ k ∈ ([160, 161, 162, 163, 164, 165, 166, 167, 168, 169, 170, 171, 172, 173, 174, 175, 176, 177, 178, 179] : List Nat), am_okK q_KD q_ML q_KI q_NT k := List.forall_mem_cons.mpr ⟨q_k160, List.forall_mem_cons.mpr ⟨q_k161, List.forall_mem_cons.mpr ⟨q_k162, List.forall_mem_cons.mpr ⟨q_k163, List.forall_mem_cons.mpr ⟨q_k164, List.forall_mem_cons.mpr ⟨q_k165, List.forall_mem_cons.mpr ⟨q_k166, List.forall_mem_cons.mpr ⟨q_k167, List.forall_mem_cons.mpr ⟨q_k168, List.forall_mem_cons.mpr ⟨q_k169, List.forall_mem_cons.mpr ⟨q_k170, List.forall_mem_cons.mpr ⟨q_k171, List.forall_mem_cons.mpr ⟨q_k172, List.forall_mem_cons.mpr ⟨q_k173, List.forall_mem_cons.mpr ⟨q_k174, List.forall_mem_cons.mpr ⟨q_k175, List.forall_mem_cons.mpr ⟨q_k176, List.forall_mem_cons.mpr ⟨q_k177, List.forall_mem_cons.mpr ⟨q_k178, List.forall_mem_cons.mpr ⟨q_k179, fun _ h => absurd h List.not_mem_nil⟩⟩⟩⟩⟩⟩⟩⟩⟩⟩⟩⟩⟩⟩⟩⟩⟩⟩⟩⟩
theorem q_kk9 : ∀ k ∈ ([180, 181, 182, 183, 184, 185, 186, 187, 188, 189, 190, 191, 192, 193, 194, 195, 196, 197, 198, 199] : List Nat), am_okK q_KD q_ML q_KI q_NT k := List.forall_mem_cons.mpr ⟨q_k180, List.forall_mem_cons.mpr ⟨q_k181, List.forall_mem_cons.mpr ⟨q_k182, List.forall_mem_cons.mpr ⟨q_k183, List.forall_mem_cons.mpr ⟨q_k184, List.forall_mem_cons.mpr ⟨q_k185, List.forall_mem_cons.mpr ⟨q_k186, List.forall_mem_cons.mpr ⟨q_k187, List.forall_mem_cons.mpr ⟨q_k188, List.forall_mem_cons.mpr ⟨q_k189, List.forall_mem_cons.mpr ⟨q_k190, List.forall_mem_cons.mpr ⟨q_k191, List.forall_mem_cons.mpr ⟨q_k192, List.forall_mem_cons.mpr ⟨q_k193, List.forall_mem_cons.mpr ⟨q_k194, List.forall_mem_cons.mpr ⟨q_k195, List.forall_mem_cons.mpr ⟨q_k196, List.forall_mem_cons.mpr ⟨q_k197, List.forall_mem_cons.mpr ⟨q_k198, List.forall_mem_cons.mpr ⟨q_k199, fun _ h => absurd h List.not_mem_nil⟩⟩⟩⟩⟩⟩⟩⟩⟩⟩⟩⟩⟩⟩⟩⟩⟩⟩⟩⟩
theorem q_kk10 : ∀ k ∈ ([200, 201, 202, 203, 204, 205, 206, 207, 208, 209, 210, 211, 212, 213, 214] : List Nat), am_okK q_KD q_ML q_KI q_NT k := List.forall_mem_cons.mpr ⟨q_k200, List.forall_mem_cons.mpr ⟨q_k201, List.forall_mem_cons.mpr ⟨q_k202, List.forall_mem_cons.mpr ⟨q_k203, List.forall_mem_cons.mpr ⟨q_k204, List.forall_mem_cons.mpr ⟨q_k205, List.forall_mem_cons.mpr ⟨q_k206, List.forall_mem_cons.mpr ⟨q_k207, List.forall_mem_cons.mpr ⟨q_k208, List.forall_mem_cons.mpr ⟨q_k209, List.forall_mem_cons.mpr ⟨q_k210, List.forall_mem_cons.mpr ⟨q_k211, List.forall_mem_cons.mpr ⟨q_k212, List.forall_mem_cons.mpr ⟨q_k213, List.forall_mem_cons.mpr ⟨q_k214, fun _ h => absurd h List.not_mem_nil⟩⟩⟩⟩⟩⟩⟩⟩⟩⟩⟩⟩⟩⟩⟩
theorem q_kk : ∀ k ∈ List.range 215, am_okK q_KD q_ML q_KI q_NT k := by
  have e : List.range 215 = ([0, 1, 2, 3, 4, 5, 6, 7, 8, 9, 10, 11, 12, 13, 14, 15, 16, 17, 18, 19] : List Nat) ++ (([20, 21, 22, 23, 24, 25, 26, 27, 28, 29, 30, 31, 32, 33, 34, 35, 36, 37, 38, 39] : List Nat) ++ (([40, 41, 42, 43, 44, 45, 46, 47, 48, 49, 50, 51, 52, 53, 54, 55, 56, 57, 58, 59] : List Nat) ++ (([60, 61, 62, 63, 64, 65, 66, 67, 68, 69, 70, 71, 72, 73, 74, 75, 76, 77, 78, 79] : List Nat) ++ (([80, 81, 82, 83, 84, 85, 86, 87, 88, 89, 90, 91, 92, 93, 94, 95, 96, 97, 98, 99] : List Nat) ++ (([100, 101, 102, 103, 104, 105, 106, 107, 108, 109, 110, 111, 112, 113, 114, 115, 116, 117, 118, 119] : List Nat) ++ (([120, 121, 122, 123, 124, 125, 126, 127, 128, 129, 130, 131, 132, 133, 134, 135, 136, 137, 138, 139] : List Nat) ++ (([140, 141, 142, 143, 144, 145, 146, 147, 148, 149, 150, 151, 152, 153, 154, 155, 156, 157, 158, 159] : List Nat) ++ (([160, 161, 162, 163, 164, 165, 166, 167, 168, 169, 170, 171, 172, 173, 174, 175, 176, 177, 178, 179] : List Nat) ++ (([180, 181, 182, 183, 184, 185, 186, 187, 188, 189, 190, 191, 192, 193, 194, 195, 196, 197, 198, 199] : List Nat) ++ (([200, 201, 202, 203, 204, 205, 206, 207, 208, 209, 210, 211, 212, 213, 214] : List Nat))))))))))) := by decide +kernel
  rw [e]
  exact List.forall_mem_append.mpr ⟨q_kk0, List.forall_mem_append.mpr ⟨q_kk1, List.forall_mem_append.mpr ⟨q_kk2, List.forall_mem_append.mpr ⟨q_kk3, List.forall_mem_append.mpr ⟨q_kk4, List.forall_mem_append.mpr ⟨q_kk5, List.forall_mem_append.mpr ⟨q_kk6, List.forall_mem_append.mpr ⟨q_kk7, List.forall_mem_append.mpr ⟨q_kk8, List.forall_mem_append.mpr ⟨q_kk9, q_kk10⟩⟩⟩⟩⟩⟩⟩⟩⟩⟩
theorem q_KK : ∀ k f, q_P β xs L k 0 = some f → am_okK q_KD q_ML q_KI q_NT k := by
  intro k f h
  by_cases hk : k < 215
  · exact q_kk k (List.mem_range.mpr hk)
  · unfold q_P at h
    rw [List.getD_eq_getElem?_getD, List.getElem?_eq_none (by show 215 ≤ k; omega)] at h
    cases h
theorem q_sound : ∀ n, am_snd vwCl q_SH ξ (q_E ξ β xs L) q_EN q_ML q_KI (q_P β xs L) q_HD q_NT n := am_sound q_Eok q_OK q_HDok q_KK
end All
