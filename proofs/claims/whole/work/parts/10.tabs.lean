theorem kt1 {i : Nat} {w : Cond} (h : tables_1_1[i]? = some w) (hg : goodWord w = true) : w ∈ kbT := List.mem_filter.mpr ⟨List.mem_append_right _ (List.mem_append_left _ (List.mem_of_getElem? h)), hg⟩
theorem kt2 {i : Nat} {w : Cond} (h : tables_1_2[i]? = some w) (hg : goodWord w = true) : w ∈ kbT := List.mem_filter.mpr ⟨List.mem_append_right _ (List.mem_append_right _ (List.mem_append_left _ (List.mem_of_getElem? h))), hg⟩
theorem kt3 {i : Nat} {w : Cond} (h : tables_1_3[i]? = some w) (hg : goodWord w = true) : w ∈ kbT := List.mem_filter.mpr ⟨List.mem_append_right _ (List.mem_append_right _ (List.mem_append_right _ (List.mem_append_left _ (List.mem_of_getElem? h)))), hg⟩
theorem kt4 {i : Nat} {w : Cond} (h : tables_1_4[i]? = some w) (hg : goodWord w = true) : w ∈ kbT := List.mem_filter.mpr ⟨List.mem_append_right _ (List.mem_append_right _ (List.mem_append_right _ (List.mem_append_right _ (List.mem_append_left _ (List.mem_of_getElem? h))))), hg⟩
theorem kt5 {i : Nat} {w : Cond} (h : tables_1_5[i]? = some w) (hg : goodWord w = true) : w ∈ kbT := List.mem_filter.mpr ⟨List.mem_append_right _ (List.mem_append_right _ (List.mem_append_right _ (List.mem_append_right _ (List.mem_append_right _ (List.mem_append_left _ (List.mem_of_getElem? h)))))), hg⟩
theorem kt6 {i : Nat} {w : Cond} (h : tables_1_6[i]? = some w) (hg : goodWord w = true) : w ∈ kbT := List.mem_filter.mpr ⟨List.mem_append_right _ (List.mem_append_right _ (List.mem_append_right _ (List.mem_append_right _ (List.mem_append_right _ (List.mem_append_right _ (List.mem_append_left _ (List.mem_of_getElem? h))))))), hg⟩
theorem kt7 {i : Nat} {w : Cond} (h : tables_1_7[i]? = some w) (hg : goodWord w = true) : w ∈ kbT := List.mem_filter.mpr ⟨List.mem_append_right _ (List.mem_append_right _ (List.mem_append_right _ (List.mem_append_right _ (List.mem_append_right _ (List.mem_append_right _ (List.mem_append_right _ (List.mem_append_left _ (List.mem_of_getElem? h)))))))), hg⟩
theorem kt8 {i : Nat} {w : Cond} (h : tables_1_8[i]? = some w) (hg : goodWord w = true) : w ∈ kbT := List.mem_filter.mpr ⟨List.mem_append_right _ (List.mem_append_right _ (List.mem_append_right _ (List.mem_append_right _ (List.mem_append_right _ (List.mem_append_right _ (List.mem_append_right _ (List.mem_append_right _ (List.mem_append_left _ (List.mem_of_getElem? h))))))))), hg⟩
theorem kt9 {i : Nat} {w : Cond} (h : tables_1_9[i]? = some w) (hg : goodWord w = true) : w ∈ kbT := List.mem_filter.mpr ⟨List.mem_append_right _ (List.mem_append_right _ (List.mem_append_right _ (List.mem_append_right _ (List.mem_append_right _ (List.mem_append_right _ (List.mem_append_right _ (List.mem_append_right _ (List.mem_append_right _ (List.mem_of_getElem? h))))))))), hg⟩
theorem kts {i : Nat} {q : MethodName × Nat} (h : lw_privs[i]? = some q) : Cond.selects q.1.cls q.1 q.1 ∈ kbT := List.mem_filter.mpr ⟨List.mem_append_left _ (List.mem_map.mpr ⟨q, List.mem_of_getElem? h, rfl⟩), rfl⟩
theorem kb_all5 {a b c d e : Cond} (h1 : a ∈ kbT) (h2 : b ∈ kbT) (h3 : c ∈ kbT) (h4 : d ∈ kbT) (h5 : e ∈ kbT) : ∀ w ∈ [a, b, c, d, e], w ∈ kbT := List.forall_mem_cons.mpr ⟨h1, List.forall_mem_cons.mpr ⟨h2, List.forall_mem_cons.mpr ⟨h3, List.forall_mem_cons.mpr ⟨h4, List.forall_mem_cons.mpr ⟨h5, fun _ h => nomatch h⟩⟩⟩⟩⟩
theorem kb_all4 {a b c d : Cond} (h1 : a ∈ kbT) (h2 : b ∈ kbT) (h3 : c ∈ kbT) (h4 : d ∈ kbT) : ∀ w ∈ [a, b, c, d], w ∈ kbT := List.forall_mem_cons.mpr ⟨h1, List.forall_mem_cons.mpr ⟨h2, List.forall_mem_cons.mpr ⟨h3, List.forall_mem_cons.mpr ⟨h4, fun _ h => nomatch h⟩⟩⟩⟩
abbrev MX0_advance : kbMt := (yX0_advance, cX0_advance, 2, none)
abbrev MX0_append : kbMt := (yX0_append, cX0_append, 2, none)
abbrev MX0_byteAt : kbMt := (yX0_byteAt, cX0_byteAt, 2, (some .int))
abbrev MX0_comparison : kbMt := (yX0_comparison, cX0_comparison, 3, none)
abbrev MX0_conjunction : kbMt := (yX0_conjunction, cX0_conjunction, 3, none)
abbrev MX0_doorLine : kbMt := (yX0_doorLine, cX0_doorLine, 3, none)
abbrev MX0_emit : kbMt := (yX0_emit, cX0_emit, 2, none)
abbrev MX0_expr : kbMt := (yX0_expr, cX0_expr, 3, none)
abbrev MX0_fail : kbMt := (yX0_fail, cX0_fail, 2, (some .int))
abbrev MX0_handTold : kbMt := (yX0_handTold, cX0_handTold, 4, (some .int))
abbrev MX0_isBlank : kbMt := (yX0_isBlank, cX0_isBlank, 1, (some .boolean))
abbrev MX0_isDigit : kbMt := (yX0_isDigit, cX0_isDigit, 1, (some .boolean))
abbrev MX0_isLetter : kbMt := (yX0_isLetter, cX0_isLetter, 1, (some .boolean))
abbrev MX0_isNamed : kbMt := (yX0_isNamed, cX0_isNamed, 3, (some .boolean))
abbrev MX0_isOfSounds : kbMt := (yX0_isOfSounds, cX0_isOfSounds, 2, (some .boolean))
abbrev MX0_joinsLine : kbMt := (yX0_joinsLine, cX0_joinsLine, 1, none)
abbrev MX0_line : kbMt := (yX0_line, cX0_line, 3, none)
abbrev MX0_negation : kbMt := (yX0_negation, cX0_negation, 4, none)
abbrev MX0_numberTold : kbMt := (yX0_numberTold, cX0_numberTold, 3, (some .int))
abbrev MX0_operand : kbMt := (yX0_operand, cX0_operand, 2, none)
abbrev MX0_parse : kbMt := (yX0_parse, cX0_parse, 3, (some .int))
abbrev MX0_partNamed : kbMt := (yX0_partNamed, cX0_partNamed, 1, (some .int))
abbrev MX0_passSign : kbMt := (yX0_passSign, cX0_passSign, 2, none)
abbrev MX0_product : kbMt := (yX0_product, cX0_product, 4, none)
abbrev MX0_rowTold : kbMt := (yX0_rowTold, cX0_rowTold, 3, (some .int))
abbrev MX0_soundNamed : kbMt := (yX0_soundNamed, cX0_soundNamed, 1, (some .int))
abbrev MX0_sum : kbMt := (yX0_sum, cX0_sum, 4, none)
abbrev MX0_valueNamed : kbMt := (yX0_valueNamed, cX0_valueNamed, 1, (some .int))
abbrev MX0_woodNamed : kbMt := (yX0_woodNamed, cX0_woodNamed, 1, (some .int))
abbrev MX0_wordLine : kbMt := (yX0_wordLine, cX0_wordLine, 4, none)
abbrev MX0_worthTold : kbMt := (yX0_worthTold, cX0_worthTold, 2, (some .int))
abbrev MX1_begin : kbMt := (yX1_begin, cX1_begin, 3, none)
abbrev MX1_beginsWith : kbMt := (yX1_beginsWith, cX1_beginsWith, 4, (some .boolean))
abbrev MX1_catchUp : kbMt := (yX1_catchUp, cX1_catchUp, 10, (some .boolean))
abbrev MX1_prefixCouples : kbMt := (yX1_prefixCouples, cX1_prefixCouples, 4, (some .int))
abbrev MX1_shorten : kbMt := (yX1_shorten, cX1_shorten, 5, none)
abbrev MX1_shortestAmbiguous : kbMt := (yX1_shortestAmbiguous, cX1_shortestAmbiguous, 3, (some .int))
abbrev MX1_shortestLead : kbMt := (yX1_shortestLead, cX1_shortestLead, 3, (some .int))
abbrev MX2_add : kbMt := (yX2_add, cX2_add, 3, none)
abbrev MX2_can : kbMt := (yX2_can, cX2_can, 3, (some .boolean))
abbrev MX2_copyFrom : kbMt := (yX2_copyFrom, cX2_copyFrom, 2, none)
abbrev MX2_throughWood : kbMt := (yX2_throughWood, cX2_throughWood, 3, (some .int))
abbrev MX3_agreesWithHeard : kbMt := (yX3_agreesWithHeard, cX3_agreesWithHeard, 3, (some .boolean))
abbrev MX3_can : kbMt := (yX3_can, cX3_can, 3, (some .boolean))
abbrev MX3_commonHand : kbMt := (yX3_commonHand, cX3_commonHand, 4, (some .int))
abbrev MX3_confounded : kbMt := (yX3_confounded, cX3_confounded, 5, (some .int))
abbrev MX3_doorsThatCan : kbMt := (yX3_doorsThatCan, cX3_doorsThatCan, 4, (some .int))
abbrev MX3_fewestDoors : kbMt := (yX3_fewestDoors, cX3_fewestDoors, 5, (some .int))
abbrev MX3_freshRow : kbMt := (yX3_freshRow, cX3_freshRow, 5, (some .int))
abbrev MX3_hearAll : kbMt := (yX3_hearAll, cX3_hearAll, 2, none)
abbrev MX3_hearWords : kbMt := (yX3_hearWords, cX3_hearWords, 3, none)
abbrev MX3_hearing : kbMt := (yX3_hearing, cX3_hearing, 4, (some .int))
abbrev MX3_isHeardAnew : kbMt := (yX3_isHeardAnew, cX3_isHeardAnew, 5, (some .boolean))
abbrev MX3_layTelling : kbMt := (yX3_layTelling, cX3_layTelling, 6, (some .int))
abbrev MX3_soundsAlike : kbMt := (yX3_soundsAlike, cX3_soundsAlike, 4, (some .boolean))
abbrev MX3_tellingDoor : kbMt := (yX3_tellingDoor, cX3_tellingDoor, 6, (some .int))
abbrev MX3_tellsAll : kbMt := (yX3_tellsAll, cX3_tellsAll, 4, (some .boolean))
abbrev MX3_unlike : kbMt := (yX3_unlike, cX3_unlike, 7, (some .int))
abbrev MX3_wordsHeard : kbMt := (yX3_wordsHeard, cX3_wordsHeard, 3, (some .int))
abbrev MX3_wordsOfHand : kbMt := (yX3_wordsOfHand, cX3_wordsOfHand, 4, (some .int))
abbrev MX4_adopt : kbMt := (yX4_adopt, cX4_adopt, 4, none)
abbrev MX4_joined : kbMt := (yX4_joined, cX4_joined, 3, (some .int))
abbrev MX4_mayFollow : kbMt := (yX4_mayFollow, cX4_mayFollow, 4, (some .boolean))
abbrev MX4_renew : kbMt := (yX4_renew, cX4_renew, 1, none)
abbrev MX4_value : kbMt := (yX4_value, cX4_value, 6, (some .int))
abbrev MX4_valueOf : kbMt := (yX4_valueOf, cX4_valueOf, 4, (some .int))
abbrev MX5_draw : kbMt := (yX5_draw, cX5_draw, 2, (some .int))
abbrev MX5_freeze : kbMt := (yX5_freeze, cX5_freeze, 7, none)
abbrev MX5_frozen : kbMt := (yX5_frozen, cX5_frozen, 2, (some .int))
abbrev MX5_isUnderstood : kbMt := (yX5_isUnderstood, cX5_isUnderstood, 3, (some .boolean))
abbrev MX5_layGains : kbMt := (yX5_layGains, cX5_layGains, 5, none)
abbrev MX5_net : kbMt := (yX5_net, cX5_net, 3, (some .int))
abbrev MX5_passing : kbMt := (yX5_passing, cX5_passing, 5, (some .int))
abbrev MX5_rests : kbMt := (yX5_rests, cX5_rests, 5, (some .boolean))
abbrev MX5_settle : kbMt := (yX5_settle, cX5_settle, 5, none)
abbrev MX6_handBit : kbMt := (yX6_handBit, cX6_handBit, 1, (some .int))
abbrev MX6_isRow : kbMt := (yX6_isRow, cX6_isRow, 3, (some .boolean))
abbrev MX6_knucklesForRings : kbMt := (yX6_knucklesForRings, cX6_knucklesForRings, 5, (some .int))
abbrev MX6_size : kbMt := (yX6_size, cX6_size, 2, (some .int))
abbrev MX6_slice : kbMt := (yX6_slice, cX6_slice, 4, (some .int))
abbrev MX6_soundAt : kbMt := (yX6_soundAt, cX6_soundAt, 3, (some .int))
abbrev MX6_soundsIn : kbMt := (yX6_soundsIn, cX6_soundsIn, 4, (some .int))
abbrev MX6_spread : kbMt := (yX6_spread, cX6_spread, 5, (some .int))
abbrev MX6_withFirst : kbMt := (yX6_withFirst, cX6_withFirst, 3, (some .int))
abbrev MX6_withLast : kbMt := (yX6_withLast, cX6_withLast, 2, (some .int))
abbrev MX6_withoutFirst : kbMt := (yX6_withoutFirst, cX6_withoutFirst, 2, (some .int))
abbrev MX6_withoutLast : kbMt := (yX6_withoutLast, cX6_withoutLast, 1, (some .int))
abbrev MX6_withoutPalms : kbMt := (yX6_withoutPalms, cX6_withoutPalms, 5, (some .int))
abbrev MX7_closestCouple : kbMt := (yX7_closestCouple, cX7_closestCouple, 7, (some .int))
abbrev MX7_nearestWord : kbMt := (yX7_nearestWord, cX7_nearestWord, 7, (some .int))
abbrev MX7_steps : kbMt := (yX7_steps, cX7_steps, 3, (some .int))
abbrev MX7_stepsFromLeft : kbMt := (yX7_stepsFromLeft, cX7_stepsFromLeft, 9, (some .int))
abbrev MX8_beginBehind : kbMt := (yX8_beginBehind, cX8_beginBehind, 5, (some .boolean))
abbrev MX8_countRows : kbMt := (yX8_countRows, cX8_countRows, 6, none)
abbrev MX8_fewestLaid : kbMt := (yX8_fewestLaid, cX8_fewestLaid, 3, (some .int))
abbrev MX8_firstLaid : kbMt := (yX8_firstLaid, cX8_firstLaid, 6, (some .int))
abbrev MX8_lay : kbMt := (yX8_lay, cX8_lay, 5, none)
abbrev MX8_layWord : kbMt := (yX8_layWord, cX8_layWord, 9, none)
abbrev MX8_layWorth : kbMt := (yX8_layWorth, cX8_layWorth, 7, none)
abbrev MX8_mostWorth : kbMt := (yX8_mostWorth, cX8_mostWorth, 5, (some .int))
abbrev MX8_passSound : kbMt := (yX8_passSound, cX8_passSound, 8, none)
abbrev MX8_rowsOf : kbMt := (yX8_rowsOf, cX8_rowsOf, 6, (some .long))
abbrev MX8_sayMore : kbMt := (yX8_sayMore, cX8_sayMore, 4, none)
abbrev MX8_saySounds : kbMt := (yX8_saySounds, cX8_saySounds, 4, none)
abbrev MX8_stepsToRead : kbMt := (yX8_stepsToRead, cX8_stepsToRead, 5, (some .int))
abbrev MX8_waysLaid : kbMt := (yX8_waysLaid, cX8_waysLaid, 4, (some .long))
abbrev MX8_wordLaid : kbMt := (yX8_wordLaid, cX8_wordLaid, 6, (some .int))
abbrev MX9_begin : kbMt := (yX9_begin, cX9_begin, 2, none)
abbrev MX9_copyFrom : kbMt := (yX9_copyFrom, cX9_copyFrom, 2, none)
abbrev MX9_isWet : kbMt := (yX9_isWet, cX9_isWet, 2, (some .boolean))
abbrev MX9_keepAct : kbMt := (yX9_keepAct, cX9_keepAct, 7, none)
abbrev MX9_keepWord : kbMt := (yX9_keepWord, cX9_keepWord, 3, none)
abbrev MX9_turnWeather : kbMt := (yX9_turnWeather, cX9_turnWeather, 2, none)
abbrev MX9_undoLast : kbMt := (yX9_undoLast, cX9_undoLast, 3, none)
abbrev MX10_change : kbMt := (yX10_change, cX10_change, 4, none)
abbrev MX10_copyFrom : kbMt := (yX10_copyFrom, cX10_copyFrom, 2, none)
abbrev MX10_find : kbMt := (yX10_find, cX10_find, 3, (some .int))
abbrev MX10_insert : kbMt := (yX10_insert, cX10_insert, 6, none)
abbrev MX10_move : kbMt := (yX10_move, cX10_move, 3, none)
abbrev MX10_remove : kbMt := (yX10_remove, cX10_remove, 3, none)
abbrev MX10_soundsOfAll : kbMt := (yX10_soundsOfAll, cX10_soundsOfAll, 3, (some .int))
abbrev MX10_worthOfAll : kbMt := (yX10_worthOfAll, cX10_worthOfAll, 3, (some .int))
abbrev MX11_fault : kbMt := (yX11_fault, cX11_fault, 1, (some .int))
abbrev MX11_feed : kbMt := (yX11_feed, cX11_feed, 6, (some .int))
abbrev MX11_forget : kbMt := (yX11_forget, cX11_forget, 1, none)
abbrev MX11_image : kbMt := (yX11_image, cX11_image, 1, none)
abbrev MX11_isPart : kbMt := (yX11_isPart, cX11_isPart, 1, (some .boolean))
abbrev MX11_isWorth : kbMt := (yX11_isWorth, cX11_isWorth, 1, (some .boolean))
abbrev MX11_prefixes : kbMt := (yX11_prefixes, cX11_prefixes, 1, (some .int))
abbrev MX11_refuseAct : kbMt := (yX11_refuseAct, cX11_refuseAct, 1, (some .int))
abbrev MX11_restore : kbMt := (yX11_restore, cX11_restore, 1, (some .boolean))
abbrev MX11_take : kbMt := (yX11_take, cX11_take, 7, (some .int))
abbrev MX11_tellApart : kbMt := (yX11_tellApart, cX11_tellApart, 1, (some .int))
abbrev MX11_twoWays : kbMt := (yX11_twoWays, cX11_twoWays, 1, (some .int))
abbrev MX11_undo : kbMt := (yX11_undo, cX11_undo, 1, (some .int))
abbrev MX11_which : kbMt := (yX11_which, cX11_which, 1, (some .int))
abbrev MX12_apart : kbMt := (yX12_apart, cX12_apart, 3, (some .int))
abbrev MX12_apartBy : kbMt := (yX12_apartBy, cX12_apartBy, 8, (some .int))
abbrev MX12_areAlike : kbMt := (yX12_areAlike, cX12_areAlike, 5, (some .boolean))
abbrev MX12_areSounds : kbMt := (yX12_areSounds, cX12_areSounds, 2, (some .boolean))
abbrev MX12_be : kbMt := (yX12_be, cX12_be, 3, none)
abbrev MX12_behind : kbMt := (yX12_behind, cX12_behind, 4, (some .int))
abbrev MX12_bitsOf : kbMt := (yX12_bitsOf, cX12_bitsOf, 3, (some .int))
abbrev MX12_book : kbMt := (yX12_book, cX12_book, 3, (some .int))
abbrev MX12_byteAt : kbMt := (yX12_byteAt, cX12_byteAt, 2, (some .int))
abbrev MX12_can : kbMt := (yX12_can, cX12_can, 3, (some .boolean))
abbrev MX12_closest : kbMt := (yX12_closest, cX12_closest, 7, (some .int))
abbrev MX12_confounded : kbMt := (yX12_confounded, cX12_confounded, 5, (some .int))
abbrev MX12_count : kbMt := (yX12_count, cX12_count, 4, (some .int))
abbrev MX12_die : kbMt := (yX12_die, cX12_die, 4, (some .int))
abbrev MX12_door : kbMt := (yX12_door, cX12_door, 3, (some .int))
abbrev MX12_drawOf : kbMt := (yX12_drawOf, cX12_drawOf, 2, (some .int))
abbrev MX12_fail : kbMt := (yX12_fail, cX12_fail, 2, (some .int))
abbrev MX12_fault : kbMt := (yX12_fault, cX12_fault, 1, (some .int))
abbrev MX12_feed : kbMt := (yX12_feed, cX12_feed, 8, (some .int))
abbrev MX12_fewest : kbMt := (yX12_fewest, cX12_fewest, 2, (some .int))
abbrev MX12_forget : kbMt := (yX12_forget, cX12_forget, 1, none)
abbrev MX12_frost : kbMt := (yX12_frost, cX12_frost, 11, (some .int))
abbrev MX12_frozen : kbMt := (yX12_frozen, cX12_frozen, 4, (some .int))
abbrev MX12_gain : kbMt := (yX12_gain, cX12_gain, 4, (some .int))
abbrev MX12_game : kbMt := (yX12_game, cX12_game, 12, (some .int))
abbrev MX12_goOn : kbMt := (yX12_goOn, cX12_goOn, 6, (some .boolean))
abbrev MX12_hear : kbMt := (yX12_hear, cX12_hear, 3, (some .int))
abbrev MX12_hearOne : kbMt := (yX12_hearOne, cX12_hearOne, 5, none)
abbrev MX12_heardAt : kbMt := (yX12_heardAt, cX12_heardAt, 7, (some .int))
abbrev MX12_hears : kbMt := (yX12_hears, cX12_hears, 3, (some .int))
abbrev MX12_howMany : kbMt := (yX12_howMany, cX12_howMany, 10, (some .long))
abbrev MX12_image : kbMt := (yX12_image, cX12_image, 1, none)
abbrev MX12_is : kbMt := (yX12_is, cX12_is, 4, (some .boolean))
abbrev MX12_isDigit : kbMt := (yX12_isDigit, cX12_isDigit, 1, (some .boolean))
abbrev MX12_isDoor : kbMt := (yX12_isDoor, cX12_isDoor, 2, (some .boolean))
abbrev MX12_isIn : kbMt := (yX12_isIn, cX12_isIn, 6, (some .boolean))
abbrev MX12_isLetter : kbMt := (yX12_isLetter, cX12_isLetter, 1, (some .boolean))
abbrev MX12_isMark : kbMt := (yX12_isMark, cX12_isMark, 1, (some .boolean))
abbrev MX12_isMarked : kbMt := (yX12_isMarked, cX12_isMarked, 2, (some .boolean))
abbrev MX12_isNew : kbMt := (yX12_isNew, cX12_isNew, 5, (some .boolean))
abbrev MX12_isOf : kbMt := (yX12_isOf, cX12_isOf, 2, (some .boolean))
abbrev MX12_isRow : kbMt := (yX12_isRow, cX12_isRow, 2, (some .boolean))
abbrev MX12_isTail : kbMt := (yX12_isTail, cX12_isTail, 3, (some .boolean))
abbrev MX12_isTold : kbMt := (yX12_isTold, cX12_isTold, 3, (some .boolean))
abbrev MX12_isWord : kbMt := (yX12_isWord, cX12_isWord, 2, (some .boolean))
abbrev MX12_joins : kbMt := (yX12_joins, cX12_joins, 3, (some .boolean))
abbrev MX12_keep : kbMt := (yX12_keep, cX12_keep, 2, none)
abbrev MX12_lay : kbMt := (yX12_lay, cX12_lay, 2, none)
abbrev MX12_listen : kbMt := (yX12_listen, cX12_listen, 7, (some .int))
abbrev MX12_mark : kbMt := (yX12_mark, cX12_mark, 2, none)
abbrev MX12_mend : kbMt := (yX12_mend, cX12_mend, 4, (some .int))
abbrev MX12_nearest : kbMt := (yX12_nearest, cX12_nearest, 4, (some .int))
abbrev MX12_nearestTo : kbMt := (yX12_nearestTo, cX12_nearestTo, 6, (some .int))
abbrev MX12_newWord : kbMt := (yX12_newWord, cX12_newWord, 3, (some .int))
abbrev MX12_pack : kbMt := (yX12_pack, cX12_pack, 4, none)
abbrev MX12_part : kbMt := (yX12_part, cX12_part, 4, (some .int))
abbrev MX12_power : kbMt := (yX12_power, cX12_power, 3, (some .int))
abbrev MX12_prefixes : kbMt := (yX12_prefixes, cX12_prefixes, 4, (some .int))
abbrev MX12_rain : kbMt := (yX12_rain, cX12_rain, 3, (some .boolean))
abbrev MX12_read : kbMt := (yX12_read, cX12_read, 4, (some .long))
abbrev MX12_readAnd : kbMt := (yX12_readAnd, cX12_readAnd, 2, none)
abbrev MX12_readDoor : kbMt := (yX12_readDoor, cX12_readDoor, 6, none)
abbrev MX12_readExpression : kbMt := (yX12_readExpression, cX12_readExpression, 3, none)
abbrev MX12_readLine : kbMt := (yX12_readLine, cX12_readLine, 4, (some .int))
abbrev MX12_readNot : kbMt := (yX12_readNot, cX12_readNot, 4, none)
abbrev MX12_readNumber : kbMt := (yX12_readNumber, cX12_readNumber, 4, (some .int))
abbrev MX12_readPart : kbMt := (yX12_readPart, cX12_readPart, 3, none)
abbrev MX12_readProduct : kbMt := (yX12_readProduct, cX12_readProduct, 3, none)
abbrev MX12_readSum : kbMt := (yX12_readSum, cX12_readSum, 3, none)
abbrev MX12_readWord : kbMt := (yX12_readWord, cX12_readWord, 5, none)
abbrev MX12_reading : kbMt := (yX12_reading, cX12_reading, 9, (some .int))
abbrev MX12_reckon : kbMt := (yX12_reckon, cX12_reckon, 3, (some .int))
abbrev MX12_refuse : kbMt := (yX12_refuse, cX12_refuse, 2, (some .int))
abbrev MX12_restore : kbMt := (yX12_restore, cX12_restore, 1, (some .boolean))
abbrev MX12_said : kbMt := (yX12_said, cX12_said, 8, (some .int))
abbrev MX12_sayMore : kbMt := (yX12_sayMore, cX12_sayMore, 6, none)
abbrev MX12_sizeOf : kbMt := (yX12_sizeOf, cX12_sizeOf, 3, (some .int))
abbrev MX12_soundOf : kbMt := (yX12_soundOf, cX12_soundOf, 1, (some .int))
abbrev MX12_span : kbMt := (yX12_span, cX12_span, 3, (some .int))
abbrev MX12_standsAt : kbMt := (yX12_standsAt, cX12_standsAt, 4, (some .boolean))
abbrev MX12_stepOn : kbMt := (yX12_stepOn, cX12_stepOn, 2, none)
abbrev MX12_take : kbMt := (yX12_take, cX12_take, 4, (some .int))
abbrev MX12_takeHalf : kbMt := (yX12_takeHalf, cX12_takeHalf, 2, none)
abbrev MX12_takeOver : kbMt := (yX12_takeOver, cX12_takeOver, 2, none)
abbrev MX12_telegraph : kbMt := (yX12_telegraph, cX12_telegraph, 5, (some .int))
abbrev MX12_tellApart : kbMt := (yX12_tellApart, cX12_tellApart, 3, (some .int))
abbrev MX12_tellReadings : kbMt := (yX12_tellReadings, cX12_tellReadings, 7, none)
abbrev MX12_tellRow : kbMt := (yX12_tellRow, cX12_tellRow, 5, (some .int))
abbrev MX12_tellSounds : kbMt := (yX12_tellSounds, cX12_tellSounds, 6, none)
abbrev MX12_tellsApart : kbMt := (yX12_tellsApart, cX12_tellsApart, 4, (some .boolean))
abbrev MX12_thrown : kbMt := (yX12_thrown, cX12_thrown, 1, (some .int))
abbrev MX12_twoWays : kbMt := (yX12_twoWays, cX12_twoWays, 4, (some .int))
abbrev MX12_undo : kbMt := (yX12_undo, cX12_undo, 1, (some .int))
abbrev MX12_unlike : kbMt := (yX12_unlike, cX12_unlike, 7, (some .int))
abbrev MX12_unpack : kbMt := (yX12_unpack, cX12_unpack, 4, none)
abbrev MX12_valueNow : kbMt := (yX12_valueNow, cX12_valueNow, 4, (some .int))
abbrev MX12_which : kbMt := (yX12_which, cX12_which, 1, (some .int))
abbrev MX12_whichNow : kbMt := (yX12_whichNow, cX12_whichNow, 5, (some .int))
abbrev MX12_word : kbMt := (yX12_word, cX12_word, 5, (some .int))
abbrev MX12_wordBy : kbMt := (yX12_wordBy, cX12_wordBy, 3, (some .int))
abbrev MX12_wordOf : kbMt := (yX12_wordOf, cX12_wordOf, 3, (some .int))
abbrev MX12_wordsOf : kbMt := (yX12_wordsOf, cX12_wordsOf, 4, (some .int))
abbrev MX12_worth : kbMt := (yX12_worth, cX12_worth, 4, (some .int))
abbrev MX12_wrong : kbMt := (yX12_wrong, cX12_wrong, 2, none)
abbrev MJ_fill : kbMt := (yJ7_fill_53178, cJ7_fill_53178, 4, none)
theorem sh0 : kbSh[0]? = some (.inr (10, [some 1, some 12, some 22, some 32, some 35, some 39, some 43, some 48, some 51, some 54, none])) := rfl
theorem sh1 : kbSh[1]? = some (.inr (0, [some 2, some 3, some 8, some 11, none, none, none, none, none, none, none, none])) := rfl
theorem sh2 : kbSh[2]? = some (.inl (0, 150, [])) := rfl
theorem sh3 : kbSh[3]? = some (.inr (9, [some 4, some 5, some 6, some 7, none])) := rfl
theorem sh4 : kbSh[4]? = some (.inl (0, 10, [])) := rfl
theorem sh5 : kbSh[5]? = some (.inl (0, 10, [])) := rfl
theorem sh6 : kbSh[6]? = some (.inl (0, 10, [])) := rfl
theorem sh7 : kbSh[7]? = some (.inl (0, 10, [])) := rfl
theorem sh8 : kbSh[8]? = some (.inr (2, [some 9, some 10, none])) := rfl
theorem sh9 : kbSh[9]? = some (.inl (0, 6, [])) := rfl
theorem sh10 : kbSh[10]? = some (.inl (0, 6, [])) := rfl
theorem sh11 : kbSh[11]? = some (.inl (0, 600, [])) := rfl
theorem sh12 : kbSh[12]? = some (.inr (8, [some 13, some 18, some 19, some 20, some 21, none, none, none])) := rfl
theorem sh13 : kbSh[13]? = some (.inr (9, [some 14, some 15, some 16, some 17, none])) := rfl
theorem sh14 : kbSh[14]? = some (.inl (0, 10, [])) := rfl
theorem sh15 : kbSh[15]? = some (.inl (0, 10, [])) := rfl
theorem sh16 : kbSh[16]? = some (.inl (0, 10, [])) := rfl
theorem sh17 : kbSh[17]? = some (.inl (0, 10, [])) := rfl
theorem sh18 : kbSh[18]? = some (.inl (0, 200, [])) := rfl
theorem sh19 : kbSh[19]? = some (.inl (0, 8, [])) := rfl
theorem sh20 : kbSh[20]? = some (.inl (0, 8, [])) := rfl
theorem sh21 : kbSh[21]? = some (.inl (0, 3, [])) := rfl
theorem sh22 : kbSh[22]? = some (.inr (8, [some 23, some 28, some 29, some 30, some 31, none, none, none])) := rfl
theorem sh23 : kbSh[23]? = some (.inr (9, [some 24, some 25, some 26, some 27, none])) := rfl
theorem sh24 : kbSh[24]? = some (.inl (0, 10, [])) := rfl
theorem sh25 : kbSh[25]? = some (.inl (0, 10, [])) := rfl
theorem sh26 : kbSh[26]? = some (.inl (0, 10, [])) := rfl
theorem sh27 : kbSh[27]? = some (.inl (0, 10, [])) := rfl
theorem sh28 : kbSh[28]? = some (.inl (0, 200, [])) := rfl
theorem sh29 : kbSh[29]? = some (.inl (0, 8, [])) := rfl
theorem sh30 : kbSh[30]? = some (.inl (0, 8, [])) := rfl
theorem sh31 : kbSh[31]? = some (.inl (0, 3, [])) := rfl
theorem sh32 : kbSh[32]? = some (.inr (2, [some 33, some 34, none])) := rfl
theorem sh33 : kbSh[33]? = some (.inl (0, 6, [])) := rfl
theorem sh34 : kbSh[34]? = some (.inl (0, 6, [])) := rfl
theorem sh35 : kbSh[35]? = some (.inr (4, [some 13, some 36, some 37, some 38, none])) := rfl
theorem sh36 : kbSh[36]? = some (.inl (0, 600, [])) := rfl
theorem sh37 : kbSh[37]? = some (.inl (0, 64, [])) := rfl
theorem sh38 : kbSh[38]? = some (.inl (0, 100, [])) := rfl
theorem sh39 : kbSh[39]? = some (.inr (6, [some 13, some 40, some 41, some 42])) := rfl
theorem sh40 : kbSh[40]? = some (.inl (0, 12, [])) := rfl
theorem sh41 : kbSh[41]? = some (.inl (0, 12, [])) := rfl
theorem sh42 : kbSh[42]? = some (.inl (0, 13, [])) := rfl
theorem sh43 : kbSh[43]? = some (.inr (7, [some 13, some 35, some 44, some 45, some 46, some 47])) := rfl
theorem sh44 : kbSh[44]? = some (.inl (1, 130, [])) := rfl
theorem sh45 : kbSh[45]? = some (.inl (0, 130, [])) := rfl
theorem sh46 : kbSh[46]? = some (.inl (0, 12, [])) := rfl
theorem sh47 : kbSh[47]? = some (.inl (0, 70, [])) := rfl
theorem sh48 : kbSh[48]? = some (.inr (1, [some 13, some 49, some 50])) := rfl
theorem sh49 : kbSh[49]? = some (.inl (0, 60, [])) := rfl
theorem sh50 : kbSh[50]? = some (.inl (2, 60, [])) := rfl
theorem sh51 : kbSh[51]? = some (.inr (3, [some 32, some 12, some 13, some 52, some 53])) := rfl
theorem sh52 : kbSh[52]? = some (.inl (0, 60, [])) := rfl
theorem sh53 : kbSh[53]? = some (.inl (0, 100, [])) := rfl
theorem sh54 : kbSh[54]? = some (.inr (5, [some 51, some 39, some 13, some 55, some 56, none, none, none, none, none, none])) := rfl
theorem sh55 : kbSh[55]? = some (.inl (0, 10, [])) := rfl
theorem sh56 : kbSh[56]? = some (.inl (0, 10, [])) := rfl
theorem sh57 : kbSh[57]? = some (.inr (11, [some 58, some 59, some 60, none, some 61, some 62, some 63, some 64, some 65, some 66, some 67, some 68, some 69, none, none, none, none, none, none, none, none, none, none, some 70, some 71, some 72, some 73, none, none, none, none, some 74, some 75, some 76, some 77, some 78, some 79, some 80, none, some 81, some 82, some 83, some 84, some 85, some 86, none, some 87, some 88, some 89, some 90, some 91, none, none, none, none, some 92, some 93, some 94, some 95, some 96])) := rfl
theorem sh58 : kbSh[58]? = some (.inl (3, 3, [1000, 1001, 1002])) := rfl
theorem sh59 : kbSh[59]? = some (.inl (3, 4, [1003, 1004, 1005, 1006])) := rfl
theorem sh60 : kbSh[60]? = some (.inl (3, 6, [1007, 1008, 1009, 1010, 1011, 1012])) := rfl
theorem sh61 : kbSh[61]? = some (.inl (0, 6, [])) := rfl
theorem sh62 : kbSh[62]? = some (.inl (0, 20, [])) := rfl
theorem sh63 : kbSh[63]? = some (.inl (0, 20, [])) := rfl
theorem sh64 : kbSh[64]? = some (.inl (0, 20, [])) := rfl
theorem sh65 : kbSh[65]? = some (.inl (0, 12, [])) := rfl
theorem sh66 : kbSh[66]? = some (.inl (0, 12, [])) := rfl
theorem sh67 : kbSh[67]? = some (.inl (0, 1200, [])) := rfl
theorem sh68 : kbSh[68]? = some (.inl (0, 3, [])) := rfl
theorem sh69 : kbSh[69]? = some (.inl (0, 600, [])) := rfl
theorem sh70 : kbSh[70]? = some (.inl (0, 10, [])) := rfl
theorem sh71 : kbSh[71]? = some (.inl (0, 10, [])) := rfl
theorem sh72 : kbSh[72]? = some (.inl (0, 10, [])) := rfl
theorem sh73 : kbSh[73]? = some (.inl (0, 1280, [])) := rfl
theorem sh74 : kbSh[74]? = some (.inl (0, 6, [])) := rfl
theorem sh75 : kbSh[75]? = some (.inl (0, 64, [])) := rfl
theorem sh76 : kbSh[76]? = some (.inl (0, 12, [])) := rfl
theorem sh77 : kbSh[77]? = some (.inl (0, 143, [])) := rfl
theorem sh78 : kbSh[78]? = some (.inl (0, 60, [])) := rfl
theorem sh79 : kbSh[79]? = some (.inl (0, 10, [])) := rfl
theorem sh80 : kbSh[80]? = some (.inl (1, 143, [])) := rfl
theorem sh81 : kbSh[81]? = some (.inl (0, 169, [])) := rfl
theorem sh82 : kbSh[82]? = some (.inl (0, 12, [])) := rfl
theorem sh83 : kbSh[83]? = some (.inl (0, 12, [])) := rfl
theorem sh84 : kbSh[84]? = some (.inl (0, 70, [])) := rfl
theorem sh85 : kbSh[85]? = some (.inl (0, 70, [])) := rfl
theorem sh86 : kbSh[86]? = some (.inl (0, 3125, [])) := rfl
theorem sh87 : kbSh[87]? = some (.inl (0, 130, [])) := rfl
theorem sh88 : kbSh[88]? = some (.inl (1, 130, [])) := rfl
theorem sh89 : kbSh[89]? = some (.inl (0, 8, [])) := rfl
theorem sh90 : kbSh[90]? = some (.inl (0, 8, [])) := rfl
theorem sh91 : kbSh[91]? = some (.inl (0, 20, [])) := rfl
theorem sh92 : kbSh[92]? = some (.inl (0, 32, [])) := rfl
theorem sh93 : kbSh[93]? = some (.inl (0, 1280, [])) := rfl
theorem sh94 : kbSh[94]? = some (.inl (0, 8, [])) := rfl
theorem sh95 : kbSh[95]? = some (.inl (0, 8, [])) := rfl
theorem sh96 : kbSh[96]? = some (.inl (0, 3, [])) := rfl
theorem rs58 (j : Int32) (h : vp_in j 3) : ([1000, 1001, 1002] : List Nat)[j.toNatClampNeg]? = some (1000 + (0 + j.toNatClampNeg)) := by
  have h1 : j.toNatClampNeg < 3 := Nat.not_le.mp fun q => h (Or.inr q)
  generalize j.toNatClampNeg = q at h1
  match q, h1 with
  | 0, _ => rfl
  | 1, _ => rfl
  | 2, _ => rfl
theorem rh58 (j : Int32) (h : vp_in j 3) : 0 + j.toNatClampNeg < kbTx.length := by
  have h1 : j.toNatClampNeg < 3 := Nat.not_le.mp fun q => h (Or.inr q)
  have h2 : kbTx.length = 32 := rfl
  omega
theorem rs59 (j : Int32) (h : vp_in j 4) : ([1003, 1004, 1005, 1006] : List Nat)[j.toNatClampNeg]? = some (1000 + (3 + j.toNatClampNeg)) := by
  have h1 : j.toNatClampNeg < 4 := Nat.not_le.mp fun q => h (Or.inr q)
  generalize j.toNatClampNeg = q at h1
  match q, h1 with
  | 0, _ => rfl
  | 1, _ => rfl
  | 2, _ => rfl
  | 3, _ => rfl
theorem rh59 (j : Int32) (h : vp_in j 4) : 3 + j.toNatClampNeg < kbTx.length := by
  have h1 : j.toNatClampNeg < 4 := Nat.not_le.mp fun q => h (Or.inr q)
  have h2 : kbTx.length = 32 := rfl
  omega
theorem rs60 (j : Int32) (h : vp_in j 6) : ([1007, 1008, 1009, 1010, 1011, 1012] : List Nat)[j.toNatClampNeg]? = some (1000 + (7 + j.toNatClampNeg)) := by
  have h1 : j.toNatClampNeg < 6 := Nat.not_le.mp fun q => h (Or.inr q)
  generalize j.toNatClampNeg = q at h1
  match q, h1 with
  | 0, _ => rfl
  | 1, _ => rfl
  | 2, _ => rfl
  | 3, _ => rfl
  | 4, _ => rfl
  | 5, _ => rfl
theorem rh60 (j : Int32) (h : vp_in j 6) : 7 + j.toNatClampNeg < kbTx.length := by
  have h1 : j.toNatClampNeg < 6 := Nat.not_le.mp fun q => h (Or.inr q)
  have h2 : kbTx.length = 32 := rfl
  omega
theorem flX0_9 : kbFL "KnockBook$BookText" 9 0 0 true (.array .int) := ⟨RX0, TX0, 12, tyX0, rfl, by decide, kbX0_in, tyX0_ok, nmX0, rfl, rfl, Or.inl (kt1 (i := 115) rfl rfl)⟩
theorem flX0_18 : kbFL "KnockBook$BookText" 18 0 1 true (.object "KnockBook$Words") := ⟨RX0, TX0, 12, tyX0, rfl, by decide, kbX0_in, tyX0_ok, nmX0, rfl, rfl, Or.inl (kt1 (i := 116) rfl rfl)⟩
theorem flX0_25 : kbFL "KnockBook$BookText" 25 0 2 true (.object "KnockBook$Doors") := ⟨RX0, TX0, 12, tyX0, rfl, by decide, kbX0_in, tyX0_ok, nmX0, rfl, rfl, Or.inl (kt1 (i := 118) rfl rfl)⟩
theorem flX0_29 : kbFL "KnockBook$BookText" 29 0 3 true (.array .int) := ⟨RX0, TX0, 12, tyX0, rfl, by decide, kbX0_in, tyX0_ok, nmX0, rfl, rfl, Or.inl (kt1 (i := 120) rfl rfl)⟩
theorem flX0_32 : kbFL "KnockBook$BookText" 32 0 11 false (.int) := ⟨RX0, TX0, 12, tyX0, rfl, by decide, kbX0_in, tyX0_ok, nmX0, rfl, rfl, Or.inl (kt1 (i := 131) rfl rfl)⟩
theorem flX0_36 : kbFL "KnockBook$BookText" 36 0 4 false (.int) := ⟨RX0, TX0, 12, tyX0, rfl, by decide, kbX0_in, tyX0_ok, nmX0, rfl, rfl, Or.inl (kt1 (i := 122) rfl rfl)⟩
theorem flX0_39 : kbFL "KnockBook$BookText" 39 0 6 false (.int) := ⟨RX0, TX0, 12, tyX0, rfl, by decide, kbX0_in, tyX0_ok, nmX0, rfl, rfl, Or.inl (kt1 (i := 126) rfl rfl)⟩
theorem flX0_42 : kbFL "KnockBook$BookText" 42 9 4 false (.int) := ⟨RX10, TX10, 5, tyX10, rfl, by decide, kbX10_in, tyX10_ok, nmX10, rfl, rfl, Or.inr ⟨"KnockBook", List.mem_of_getElem? (i := 26) rfl⟩⟩
theorem flX0_45 : kbFL "KnockBook$BookText" 45 2 2 false (.int) := ⟨RX2, TX2, 3, tyX2, rfl, by decide, kbX2_in, tyX2_ok, nmX2, rfl, rfl, Or.inr ⟨"KnockBook", List.mem_of_getElem? (i := 27) rfl⟩⟩
theorem flX0_46 : kbFL "KnockBook$BookText" 46 0 5 false (.int) := ⟨RX0, TX0, 12, tyX0, rfl, by decide, kbX0_in, tyX0_ok, nmX0, rfl, rfl, Or.inl (kt1 (i := 124) rfl rfl)⟩
theorem flX0_49 : kbFL "KnockBook$BookText" 49 0 9 false (.int) := ⟨RX0, TX0, 12, tyX0, rfl, by decide, kbX0_in, tyX0_ok, nmX0, rfl, rfl, Or.inl (kt1 (i := 129) rfl rfl)⟩
theorem flX0_52 : kbFL "KnockBook$BookText" 52 0 10 false (.int) := ⟨RX0, TX0, 12, tyX0, rfl, by decide, kbX0_in, tyX0_ok, nmX0, rfl, rfl, Or.inl (kt1 (i := 130) rfl rfl)⟩
theorem flX0_58 : kbFL "KnockBook$BookText" 58 0 7 false (.int) := ⟨RX0, TX0, 12, tyX0, rfl, by decide, kbX0_in, tyX0_ok, nmX0, rfl, rfl, Or.inl (kt1 (i := 127) rfl rfl)⟩
theorem flX0_119 : kbFL "KnockBook$BookText" 119 0 8 false (.int) := ⟨RX0, TX0, 12, tyX0, rfl, by decide, kbX0_in, tyX0_ok, nmX0, rfl, rfl, Or.inl (kt1 (i := 128) rfl rfl)⟩
theorem flX1_9 : kbFL "KnockBook$Codes" 9 1 1 true (.array .int) := ⟨RX1, TX1, 3, tyX1, rfl, by decide, kbX1_in, tyX1_ok, nmX1, rfl, rfl, Or.inl (kt2 (i := 38) rfl rfl)⟩
theorem flX1_15 : kbFL "KnockBook$Codes" 15 1 2 true (.array .boolean) := ⟨RX1, TX1, 3, tyX1, rfl, by decide, kbX1_in, tyX1_ok, nmX1, rfl, rfl, Or.inl (kt2 (i := 39) rfl rfl)⟩
theorem flX1_19 : kbFL "KnockBook$Codes" 19 1 0 true (.object "KnockBook$Words") := ⟨RX1, TX1, 3, tyX1, rfl, by decide, kbX1_in, tyX1_ok, nmX1, rfl, rfl, Or.inl (kt2 (i := 37) rfl rfl)⟩
theorem flX1_23 : kbFL "KnockBook$Codes" 23 9 4 false (.int) := ⟨RX10, TX10, 5, tyX10, rfl, by decide, kbX10_in, tyX10_ok, nmX10, rfl, rfl, Or.inr ⟨"KnockBook", List.mem_of_getElem? (i := 28) rfl⟩⟩
theorem flX1_33 : kbFL "KnockBook$Codes" 33 9 1 true (.array .int) := ⟨RX10, TX10, 5, tyX10, rfl, by decide, kbX10_in, tyX10_ok, nmX10, rfl, rfl, Or.inr ⟨"KnockBook", List.mem_of_getElem? (i := 29) rfl⟩⟩
theorem flX1_36 : kbFL "KnockBook$Codes" 36 9 0 true (.array .int) := ⟨RX10, TX10, 5, tyX10, rfl, by decide, kbX10_in, tyX10_ok, nmX10, rfl, rfl, Or.inr ⟨"KnockBook", List.mem_of_getElem? (i := 30) rfl⟩⟩
theorem flX10_9 : kbFL "KnockBook$Words" 9 9 0 true (.array .int) := ⟨RX10, TX10, 5, tyX10, rfl, by decide, kbX10_in, tyX10_ok, nmX10, rfl, rfl, Or.inl (kt1 (i := 48) rfl rfl)⟩
theorem flX10_15 : kbFL "KnockBook$Words" 15 9 1 true (.array .int) := ⟨RX10, TX10, 5, tyX10, rfl, by decide, kbX10_in, tyX10_ok, nmX10, rfl, rfl, Or.inl (kt1 (i := 56) rfl rfl)⟩
theorem flX10_18 : kbFL "KnockBook$Words" 18 9 2 true (.array .int) := ⟨RX10, TX10, 5, tyX10, rfl, by decide, kbX10_in, tyX10_ok, nmX10, rfl, rfl, Or.inl (kt1 (i := 62) rfl rfl)⟩
theorem flX10_21 : kbFL "KnockBook$Words" 21 9 3 true (.array .int) := ⟨RX10, TX10, 5, tyX10, rfl, by decide, kbX10_in, tyX10_ok, nmX10, rfl, rfl, Or.inl (kt1 (i := 66) rfl rfl)⟩
theorem flX10_24 : kbFL "KnockBook$Words" 24 9 4 false (.int) := ⟨RX10, TX10, 5, tyX10, rfl, by decide, kbX10_in, tyX10_ok, nmX10, rfl, rfl, Or.inl (kt1 (i := 72) rfl rfl)⟩
theorem flX11_10 : kbFL "KnockBook" 10 10 0 true (.object "KnockBook$BookText") := ⟨RX11, TX11, 11, tyX11, rfl, by decide, kbX11_in, tyX11_ok, nmX11, rfl, rfl, Or.inl (kt2 (i := 117) rfl rfl)⟩
theorem flX11_19 : kbFL "KnockBook" 19 10 1 true (.object "KnockBook$State") := ⟨RX11, TX11, 11, tyX11, rfl, by decide, kbX11_in, tyX11_ok, nmX11, rfl, rfl, Or.inl (kt2 (i := 118) rfl rfl)⟩
theorem flX11_23 : kbFL "KnockBook" 23 10 2 true (.object "KnockBook$State") := ⟨RX11, TX11, 11, tyX11, rfl, by decide, kbX11_in, tyX11_ok, nmX11, rfl, rfl, Or.inl (kt2 (i := 119) rfl rfl)⟩
theorem flX11_35 : kbFL "KnockBook" 35 8 0 true (.object "KnockBook$Words") := ⟨RX9, TX9, 8, tyX9, rfl, by decide, kbX9_in, tyX9_ok, nmX9, rfl, rfl, Or.inr ⟨"KnockBook", List.mem_of_getElem? (i := 23) rfl⟩⟩
theorem flX11_42 : kbFL "KnockBook" 42 10 4 true (.object "KnockBook$Joins") := ⟨RX11, TX11, 11, tyX11, rfl, by decide, kbX11_in, tyX11_ok, nmX11, rfl, rfl, Or.inl (kt2 (i := 121) rfl rfl)⟩
theorem flX11_65 : kbFL "KnockBook" 65 10 7 true (.object "KnockBook$Codes") := ⟨RX11, TX11, 11, tyX11, rfl, by decide, kbX11_in, tyX11_ok, nmX11, rfl, rfl, Or.inl (kt2 (i := 124) rfl rfl)⟩
theorem flX11_74 : kbFL "KnockBook" 74 10 8 true (.object "KnockBook$House") := ⟨RX11, TX11, 11, tyX11, rfl, by decide, kbX11_in, tyX11_ok, nmX11, rfl, rfl, Or.inl (kt2 (i := 125) rfl rfl)⟩
theorem flX11_87 : kbFL "KnockBook" 87 0 4 false (.int) := ⟨RX0, TX0, 12, tyX0, rfl, by decide, kbX0_in, tyX0_ok, nmX0, rfl, rfl, Or.inr ⟨"KnockBook", List.mem_of_getElem? (i := 25) rfl⟩⟩
theorem flX11_106 : kbFL "KnockBook" 106 8 4 true (.array .int) := ⟨RX9, TX9, 8, tyX9, rfl, by decide, kbX9_in, tyX9_ok, nmX9, rfl, rfl, Or.inr ⟨"KnockBook", List.mem_of_getElem? (i := 0) rfl⟩⟩
theorem flX11_128 : kbFL "KnockBook" 128 10 10 false (.boolean) := ⟨RX11, TX11, 11, tyX11, rfl, by decide, kbX11_in, tyX11_ok, nmX11, rfl, rfl, Or.inl (kt2 (i := 127) rfl rfl)⟩
theorem flX11_132 : kbFL "KnockBook" 132 0 11 false (.int) := ⟨RX0, TX0, 12, tyX0, rfl, by decide, kbX0_in, tyX0_ok, nmX0, rfl, rfl, Or.inr ⟨"KnockBook", List.mem_of_getElem? (i := 5) rfl⟩⟩
theorem flX11_135 : kbFL "KnockBook" 135 9 4 false (.int) := ⟨RX10, TX10, 5, tyX10, rfl, by decide, kbX10_in, tyX10_ok, nmX10, rfl, rfl, Or.inr ⟨"KnockBook", List.mem_of_getElem? (i := 6) rfl⟩⟩
theorem flX11_151 : kbFL "KnockBook" 151 8 5 false (.int) := ⟨RX9, TX9, 8, tyX9, rfl, by decide, kbX9_in, tyX9_ok, nmX9, rfl, rfl, Or.inr ⟨"KnockBook", List.mem_of_getElem? (i := 9) rfl⟩⟩
theorem flX11_154 : kbFL "KnockBook" 154 8 6 false (.int) := ⟨RX9, TX9, 8, tyX9, rfl, by decide, kbX9_in, tyX9_ok, nmX9, rfl, rfl, Or.inr ⟨"KnockBook", List.mem_of_getElem? (i := 10) rfl⟩⟩
theorem flX12_17 : kbFL "KnockBookModel" 17 11 0 true (.array (.object "java/lang/String")) := ⟨RX12, TX12, 60, tyX12, rfl, by decide, kbX12_in, tyX12_ok, nmX12, rfl, rfl, Or.inl (kt6 (i := 197) rfl rfl)⟩
theorem flX12_29 : kbFL "KnockBookModel" 29 11 1 true (.array (.object "java/lang/String")) := ⟨RX12, TX12, 60, tyX12, rfl, by decide, kbX12_in, tyX12_ok, nmX12, rfl, rfl, Or.inl (kt6 (i := 198) rfl rfl)⟩
theorem flX12_44 : kbFL "KnockBookModel" 44 11 2 true (.array (.object "java/lang/String")) := ⟨RX12, TX12, 60, tyX12, rfl, by decide, kbX12_in, tyX12_ok, nmX12, rfl, rfl, Or.inl (kt6 (i := 199) rfl rfl)⟩
theorem flX12_47 : kbFL "KnockBookModel" 47 11 4 true (.array .int) := ⟨RX12, TX12, 60, tyX12, rfl, by decide, kbX12_in, tyX12_ok, nmX12, rfl, rfl, Or.inl (kt6 (i := 201) rfl rfl)⟩
theorem flX12_51 : kbFL "KnockBookModel" 51 11 5 true (.array .int) := ⟨RX12, TX12, 60, tyX12, rfl, by decide, kbX12_in, tyX12_ok, nmX12, rfl, rfl, Or.inl (kt6 (i := 202) rfl rfl)⟩
theorem flX12_54 : kbFL "KnockBookModel" 54 11 6 true (.array .int) := ⟨RX12, TX12, 60, tyX12, rfl, by decide, kbX12_in, tyX12_ok, nmX12, rfl, rfl, Or.inl (kt6 (i := 203) rfl rfl)⟩
theorem flX12_57 : kbFL "KnockBookModel" 57 11 7 true (.array .int) := ⟨RX12, TX12, 60, tyX12, rfl, by decide, kbX12_in, tyX12_ok, nmX12, rfl, rfl, Or.inl (kt6 (i := 204) rfl rfl)⟩
theorem flX12_60 : kbFL "KnockBookModel" 60 11 8 true (.array .int) := ⟨RX12, TX12, 60, tyX12, rfl, by decide, kbX12_in, tyX12_ok, nmX12, rfl, rfl, Or.inl (kt6 (i := 205) rfl rfl)⟩
theorem flX12_63 : kbFL "KnockBookModel" 63 11 9 true (.array .int) := ⟨RX12, TX12, 60, tyX12, rfl, by decide, kbX12_in, tyX12_ok, nmX12, rfl, rfl, Or.inl (kt6 (i := 206) rfl rfl)⟩
theorem flX12_66 : kbFL "KnockBookModel" 66 11 10 true (.array .int) := ⟨RX12, TX12, 60, tyX12, rfl, by decide, kbX12_in, tyX12_ok, nmX12, rfl, rfl, Or.inl (kt6 (i := 207) rfl rfl)⟩
theorem flX12_69 : kbFL "KnockBookModel" 69 11 11 true (.array .int) := ⟨RX12, TX12, 60, tyX12, rfl, by decide, kbX12_in, tyX12_ok, nmX12, rfl, rfl, Or.inl (kt6 (i := 208) rfl rfl)⟩
theorem flX12_72 : kbFL "KnockBookModel" 72 11 12 true (.array .int) := ⟨RX12, TX12, 60, tyX12, rfl, by decide, kbX12_in, tyX12_ok, nmX12, rfl, rfl, Or.inl (kt6 (i := 209) rfl rfl)⟩
theorem flX12_75 : kbFL "KnockBookModel" 75 11 22 false (.int) := ⟨RX12, TX12, 60, tyX12, rfl, by decide, kbX12_in, tyX12_ok, nmX12, rfl, rfl, Or.inl (kt6 (i := 219) rfl rfl)⟩
theorem flX12_79 : kbFL "KnockBookModel" 79 11 23 true (.array .int) := ⟨RX12, TX12, 60, tyX12, rfl, by decide, kbX12_in, tyX12_ok, nmX12, rfl, rfl, Or.inl (kt6 (i := 220) rfl rfl)⟩
theorem flX12_82 : kbFL "KnockBookModel" 82 11 24 true (.array .int) := ⟨RX12, TX12, 60, tyX12, rfl, by decide, kbX12_in, tyX12_ok, nmX12, rfl, rfl, Or.inl (kt6 (i := 221) rfl rfl)⟩
theorem flX12_85 : kbFL "KnockBookModel" 85 11 25 true (.array .int) := ⟨RX12, TX12, 60, tyX12, rfl, by decide, kbX12_in, tyX12_ok, nmX12, rfl, rfl, Or.inl (kt6 (i := 222) rfl rfl)⟩
theorem flX12_88 : kbFL "KnockBookModel" 88 11 26 true (.array .int) := ⟨RX12, TX12, 60, tyX12, rfl, by decide, kbX12_in, tyX12_ok, nmX12, rfl, rfl, Or.inl (kt6 (i := 223) rfl rfl)⟩
theorem flX12_91 : kbFL "KnockBookModel" 91 11 31 true (.array .int) := ⟨RX12, TX12, 60, tyX12, rfl, by decide, kbX12_in, tyX12_ok, nmX12, rfl, rfl, Or.inl (kt6 (i := 228) rfl rfl)⟩
theorem flX12_94 : kbFL "KnockBookModel" 94 11 32 true (.array .int) := ⟨RX12, TX12, 60, tyX12, rfl, by decide, kbX12_in, tyX12_ok, nmX12, rfl, rfl, Or.inl (kt6 (i := 229) rfl rfl)⟩
theorem flX12_97 : kbFL "KnockBookModel" 97 11 33 true (.array .int) := ⟨RX12, TX12, 60, tyX12, rfl, by decide, kbX12_in, tyX12_ok, nmX12, rfl, rfl, Or.inl (kt6 (i := 230) rfl rfl)⟩
theorem flX12_100 : kbFL "KnockBookModel" 100 11 34 true (.array .int) := ⟨RX12, TX12, 60, tyX12, rfl, by decide, kbX12_in, tyX12_ok, nmX12, rfl, rfl, Or.inl (kt6 (i := 231) rfl rfl)⟩
theorem flX12_103 : kbFL "KnockBookModel" 103 11 35 true (.array .int) := ⟨RX12, TX12, 60, tyX12, rfl, by decide, kbX12_in, tyX12_ok, nmX12, rfl, rfl, Or.inl (kt6 (i := 232) rfl rfl)⟩
theorem flX12_106 : kbFL "KnockBookModel" 106 11 36 true (.array .int) := ⟨RX12, TX12, 60, tyX12, rfl, by decide, kbX12_in, tyX12_ok, nmX12, rfl, rfl, Or.inl (kt6 (i := 233) rfl rfl)⟩
theorem flX12_109 : kbFL "KnockBookModel" 109 11 37 true (.array .long) := ⟨RX12, TX12, 60, tyX12, rfl, by decide, kbX12_in, tyX12_ok, nmX12, rfl, rfl, Or.inl (kt6 (i := 234) rfl rfl)⟩
theorem flX12_113 : kbFL "KnockBookModel" 113 11 39 true (.array .int) := ⟨RX12, TX12, 60, tyX12, rfl, by decide, kbX12_in, tyX12_ok, nmX12, rfl, rfl, Or.inl (kt6 (i := 236) rfl rfl)⟩
theorem flX12_116 : kbFL "KnockBookModel" 116 11 40 true (.array .int) := ⟨RX12, TX12, 60, tyX12, rfl, by decide, kbX12_in, tyX12_ok, nmX12, rfl, rfl, Or.inl (kt6 (i := 237) rfl rfl)⟩
theorem flX12_118 : kbFL "KnockBookModel" 118 11 41 true (.array .int) := ⟨RX12, TX12, 60, tyX12, rfl, by decide, kbX12_in, tyX12_ok, nmX12, rfl, rfl, Or.inl (kt6 (i := 238) rfl rfl)⟩
theorem flX12_120 : kbFL "KnockBookModel" 120 11 42 true (.array .int) := ⟨RX12, TX12, 60, tyX12, rfl, by decide, kbX12_in, tyX12_ok, nmX12, rfl, rfl, Or.inl (kt6 (i := 239) rfl rfl)⟩
theorem flX12_123 : kbFL "KnockBookModel" 123 11 43 true (.array .int) := ⟨RX12, TX12, 60, tyX12, rfl, by decide, kbX12_in, tyX12_ok, nmX12, rfl, rfl, Or.inl (kt7 (i := 0) rfl rfl)⟩
theorem flX12_126 : kbFL "KnockBookModel" 126 11 44 true (.array .int) := ⟨RX12, TX12, 60, tyX12, rfl, by decide, kbX12_in, tyX12_ok, nmX12, rfl, rfl, Or.inl (kt7 (i := 1) rfl rfl)⟩
theorem flX12_129 : kbFL "KnockBookModel" 129 11 46 true (.array .int) := ⟨RX12, TX12, 60, tyX12, rfl, by decide, kbX12_in, tyX12_ok, nmX12, rfl, rfl, Or.inl (kt7 (i := 3) rfl rfl)⟩
theorem flX12_132 : kbFL "KnockBookModel" 132 11 47 true (.array .long) := ⟨RX12, TX12, 60, tyX12, rfl, by decide, kbX12_in, tyX12_ok, nmX12, rfl, rfl, Or.inl (kt7 (i := 4) rfl rfl)⟩
theorem flX12_135 : kbFL "KnockBookModel" 135 11 48 true (.array .int) := ⟨RX12, TX12, 60, tyX12, rfl, by decide, kbX12_in, tyX12_ok, nmX12, rfl, rfl, Or.inl (kt7 (i := 5) rfl rfl)⟩
theorem flX12_138 : kbFL "KnockBookModel" 138 11 49 true (.array .int) := ⟨RX12, TX12, 60, tyX12, rfl, by decide, kbX12_in, tyX12_ok, nmX12, rfl, rfl, Or.inl (kt7 (i := 6) rfl rfl)⟩
theorem flX12_141 : kbFL "KnockBookModel" 141 11 50 true (.array .int) := ⟨RX12, TX12, 60, tyX12, rfl, by decide, kbX12_in, tyX12_ok, nmX12, rfl, rfl, Or.inl (kt7 (i := 7) rfl rfl)⟩
theorem flX12_144 : kbFL "KnockBookModel" 144 11 55 true (.array .int) := ⟨RX12, TX12, 60, tyX12, rfl, by decide, kbX12_in, tyX12_ok, nmX12, rfl, rfl, Or.inl (kt7 (i := 12) rfl rfl)⟩
theorem flX12_147 : kbFL "KnockBookModel" 147 11 56 true (.array .int) := ⟨RX12, TX12, 60, tyX12, rfl, by decide, kbX12_in, tyX12_ok, nmX12, rfl, rfl, Or.inl (kt7 (i := 13) rfl rfl)⟩
theorem flX12_150 : kbFL "KnockBookModel" 150 11 57 true (.array .int) := ⟨RX12, TX12, 60, tyX12, rfl, by decide, kbX12_in, tyX12_ok, nmX12, rfl, rfl, Or.inl (kt7 (i := 14) rfl rfl)⟩
theorem flX12_153 : kbFL "KnockBookModel" 153 11 58 true (.array .int) := ⟨RX12, TX12, 60, tyX12, rfl, by decide, kbX12_in, tyX12_ok, nmX12, rfl, rfl, Or.inl (kt7 (i := 15) rfl rfl)⟩
theorem flX12_156 : kbFL "KnockBookModel" 156 11 59 true (.array .int) := ⟨RX12, TX12, 60, tyX12, rfl, by decide, kbX12_in, tyX12_ok, nmX12, rfl, rfl, Or.inl (kt7 (i := 16) rfl rfl)⟩
theorem flX12_159 : kbFL "KnockBookModel" 159 11 3 false (.int) := ⟨RX12, TX12, 60, tyX12, rfl, by decide, kbX12_in, tyX12_ok, nmX12, rfl, rfl, Or.inl (kt6 (i := 200) rfl rfl)⟩
theorem flX12_162 : kbFL "KnockBookModel" 162 11 27 false (.int) := ⟨RX12, TX12, 60, tyX12, rfl, by decide, kbX12_in, tyX12_ok, nmX12, rfl, rfl, Or.inl (kt6 (i := 224) rfl rfl)⟩
theorem flX12_170 : kbFL "KnockBookModel" 170 11 13 false (.int) := ⟨RX12, TX12, 60, tyX12, rfl, by decide, kbX12_in, tyX12_ok, nmX12, rfl, rfl, Or.inl (kt6 (i := 210) rfl rfl)⟩
theorem flX12_173 : kbFL "KnockBookModel" 173 11 15 false (.int) := ⟨RX12, TX12, 60, tyX12, rfl, by decide, kbX12_in, tyX12_ok, nmX12, rfl, rfl, Or.inl (kt6 (i := 212) rfl rfl)⟩
theorem flX12_176 : kbFL "KnockBookModel" 176 11 14 false (.int) := ⟨RX12, TX12, 60, tyX12, rfl, by decide, kbX12_in, tyX12_ok, nmX12, rfl, rfl, Or.inl (kt6 (i := 211) rfl rfl)⟩
theorem flX12_183 : kbFL "KnockBookModel" 183 11 18 false (.int) := ⟨RX12, TX12, 60, tyX12, rfl, by decide, kbX12_in, tyX12_ok, nmX12, rfl, rfl, Or.inl (kt6 (i := 215) rfl rfl)⟩
theorem flX12_186 : kbFL "KnockBookModel" 186 11 16 false (.int) := ⟨RX12, TX12, 60, tyX12, rfl, by decide, kbX12_in, tyX12_ok, nmX12, rfl, rfl, Or.inl (kt6 (i := 213) rfl rfl)⟩
theorem flX12_196 : kbFL "KnockBookModel" 196 11 17 false (.int) := ⟨RX12, TX12, 60, tyX12, rfl, by decide, kbX12_in, tyX12_ok, nmX12, rfl, rfl, Or.inl (kt6 (i := 214) rfl rfl)⟩
theorem flX12_209 : kbFL "KnockBookModel" 209 11 19 false (.int) := ⟨RX12, TX12, 60, tyX12, rfl, by decide, kbX12_in, tyX12_ok, nmX12, rfl, rfl, Or.inl (kt6 (i := 216) rfl rfl)⟩
theorem flX12_212 : kbFL "KnockBookModel" 212 11 20 false (.int) := ⟨RX12, TX12, 60, tyX12, rfl, by decide, kbX12_in, tyX12_ok, nmX12, rfl, rfl, Or.inl (kt6 (i := 217) rfl rfl)⟩
theorem flX12_215 : kbFL "KnockBookModel" 215 11 21 false (.int) := ⟨RX12, TX12, 60, tyX12, rfl, by decide, kbX12_in, tyX12_ok, nmX12, rfl, rfl, Or.inl (kt6 (i := 218) rfl rfl)⟩
theorem flX12_305 : kbFL "KnockBookModel" 305 11 28 false (.int) := ⟨RX12, TX12, 60, tyX12, rfl, by decide, kbX12_in, tyX12_ok, nmX12, rfl, rfl, Or.inl (kt6 (i := 225) rfl rfl)⟩
theorem flX12_308 : kbFL "KnockBookModel" 308 11 29 false (.int) := ⟨RX12, TX12, 60, tyX12, rfl, by decide, kbX12_in, tyX12_ok, nmX12, rfl, rfl, Or.inl (kt6 (i := 226) rfl rfl)⟩
theorem flX12_311 : kbFL "KnockBookModel" 311 11 30 false (.int) := ⟨RX12, TX12, 60, tyX12, rfl, by decide, kbX12_in, tyX12_ok, nmX12, rfl, rfl, Or.inl (kt6 (i := 227) rfl rfl)⟩
theorem flX12_314 : kbFL "KnockBookModel" 314 11 52 false (.boolean) := ⟨RX12, TX12, 60, tyX12, rfl, by decide, kbX12_in, tyX12_ok, nmX12, rfl, rfl, Or.inl (kt7 (i := 9) rfl rfl)⟩
theorem flX12_355 : kbFL "KnockBookModel" 355 11 38 false (.int) := ⟨RX12, TX12, 60, tyX12, rfl, by decide, kbX12_in, tyX12_ok, nmX12, rfl, rfl, Or.inl (kt6 (i := 235) rfl rfl)⟩
theorem flX12_411 : kbFL "KnockBookModel" 411 11 45 false (.int) := ⟨RX12, TX12, 60, tyX12, rfl, by decide, kbX12_in, tyX12_ok, nmX12, rfl, rfl, Or.inl (kt7 (i := 2) rfl rfl)⟩
theorem flX12_453 : kbFL "KnockBookModel" 453 11 51 false (.int) := ⟨RX12, TX12, 60, tyX12, rfl, by decide, kbX12_in, tyX12_ok, nmX12, rfl, rfl, Or.inl (kt7 (i := 8) rfl rfl)⟩
theorem flX12_465 : kbFL "KnockBookModel" 465 11 53 false (.int) := ⟨RX12, TX12, 60, tyX12, rfl, by decide, kbX12_in, tyX12_ok, nmX12, rfl, rfl, Or.inl (kt7 (i := 10) rfl rfl)⟩
theorem flX12_468 : kbFL "KnockBookModel" 468 11 54 false (.int) := ⟨RX12, TX12, 60, tyX12, rfl, by decide, kbX12_in, tyX12_ok, nmX12, rfl, rfl, Or.inl (kt7 (i := 11) rfl rfl)⟩
theorem flX2_9 : kbFL "KnockBook$Doors" 9 2 0 true (.array .int) := ⟨RX2, TX2, 3, tyX2, rfl, by decide, kbX2_in, tyX2_ok, nmX2, rfl, rfl, Or.inl (kt1 (i := 98) rfl rfl)⟩
theorem flX2_15 : kbFL "KnockBook$Doors" 15 2 1 true (.array .int) := ⟨RX2, TX2, 3, tyX2, rfl, by decide, kbX2_in, tyX2_ok, nmX2, rfl, rfl, Or.inl (kt1 (i := 100) rfl rfl)⟩
theorem flX2_18 : kbFL "KnockBook$Doors" 18 2 2 false (.int) := ⟨RX2, TX2, 3, tyX2, rfl, by decide, kbX2_in, tyX2_ok, nmX2, rfl, rfl, Or.inl (kt1 (i := 103) rfl rfl)⟩
theorem flX3_9 : kbFL "KnockBook$House" 9 3 3 true (.array .int) := ⟨RX3, TX3, 5, tyX3, rfl, by decide, kbX3_in, tyX3_ok, nmX3, rfl, rfl, Or.inl (kt2 (i := 59) rfl rfl)⟩
theorem flX3_15 : kbFL "KnockBook$House" 15 3 4 true (.array .int) := ⟨RX3, TX3, 5, tyX3, rfl, by decide, kbX3_in, tyX3_ok, nmX3, rfl, rfl, Or.inl (kt2 (i := 60) rfl rfl)⟩
theorem flX3_18 : kbFL "KnockBook$House" 18 3 0 true (.object "KnockBook$Doors") := ⟨RX3, TX3, 5, tyX3, rfl, by decide, kbX3_in, tyX3_ok, nmX3, rfl, rfl, Or.inl (kt2 (i := 54) rfl rfl)⟩
theorem flX3_22 : kbFL "KnockBook$House" 22 3 1 true (.object "KnockBook$State") := ⟨RX3, TX3, 5, tyX3, rfl, by decide, kbX3_in, tyX3_ok, nmX3, rfl, rfl, Or.inl (kt2 (i := 56) rfl rfl)⟩
theorem flX3_32 : kbFL "KnockBook$House" 32 3 2 true (.object "KnockBook$Words") := ⟨RX3, TX3, 5, tyX3, rfl, by decide, kbX3_in, tyX3_ok, nmX3, rfl, rfl, Or.inl (kt2 (i := 58) rfl rfl)⟩
theorem flX3_48 : kbFL "KnockBook$House" 48 9 0 true (.array .int) := ⟨RX10, TX10, 5, tyX10, rfl, by decide, kbX10_in, tyX10_ok, nmX10, rfl, rfl, Or.inr ⟨"KnockBook", List.mem_of_getElem? (i := 36) rfl⟩⟩
theorem flX3_57 : kbFL "KnockBook$House" 57 2 2 false (.int) := ⟨RX2, TX2, 3, tyX2, rfl, by decide, kbX2_in, tyX2_ok, nmX2, rfl, rfl, Or.inr ⟨"KnockBook", List.mem_of_getElem? (i := 37) rfl⟩⟩
theorem flX3_62 : kbFL "KnockBook$House" 62 9 4 false (.int) := ⟨RX10, TX10, 5, tyX10, rfl, by decide, kbX10_in, tyX10_ok, nmX10, rfl, rfl, Or.inr ⟨"KnockBook", List.mem_of_getElem? (i := 38) rfl⟩⟩
theorem flX3_108 : kbFL "KnockBook$House" 108 2 1 true (.array .int) := ⟨RX2, TX2, 3, tyX2, rfl, by decide, kbX2_in, tyX2_ok, nmX2, rfl, rfl, Or.inr ⟨"KnockBook", List.mem_of_getElem? (i := 31) rfl⟩⟩
theorem flX3_114 : kbFL "KnockBook$House" 114 8 6 false (.int) := ⟨RX9, TX9, 8, tyX9, rfl, by decide, kbX9_in, tyX9_ok, nmX9, rfl, rfl, Or.inr ⟨"KnockBook", List.mem_of_getElem? (i := 32) rfl⟩⟩
theorem flX3_117 : kbFL "KnockBook$House" 117 8 2 true (.array .int) := ⟨RX9, TX9, 8, tyX9, rfl, by decide, kbX9_in, tyX9_ok, nmX9, rfl, rfl, Or.inr ⟨"KnockBook", List.mem_of_getElem? (i := 33) rfl⟩⟩
theorem flX3_120 : kbFL "KnockBook$House" 120 8 3 true (.array .int) := ⟨RX9, TX9, 8, tyX9, rfl, by decide, kbX9_in, tyX9_ok, nmX9, rfl, rfl, Or.inr ⟨"KnockBook", List.mem_of_getElem? (i := 34) rfl⟩⟩
theorem flX4_9 : kbFL "KnockBook$Joins" 9 4 1 true (.array .int) := ⟨RX4, TX4, 5, tyX4, rfl, by decide, kbX4_in, tyX4_ok, nmX4, rfl, rfl, Or.inl (kt1 (i := 211) rfl rfl)⟩
theorem flX4_15 : kbFL "KnockBook$Joins" 15 4 2 true (.array .int) := ⟨RX4, TX4, 5, tyX4, rfl, by decide, kbX4_in, tyX4_ok, nmX4, rfl, rfl, Or.inl (kt1 (i := 212) rfl rfl)⟩
theorem flX4_18 : kbFL "KnockBook$Joins" 18 4 3 true (.array .int) := ⟨RX4, TX4, 5, tyX4, rfl, by decide, kbX4_in, tyX4_ok, nmX4, rfl, rfl, Or.inl (kt1 (i := 213) rfl rfl)⟩
theorem flX4_21 : kbFL "KnockBook$Joins" 21 4 0 true (.object "KnockBook$Words") := ⟨RX4, TX4, 5, tyX4, rfl, by decide, kbX4_in, tyX4_ok, nmX4, rfl, rfl, Or.inl (kt1 (i := 210) rfl rfl)⟩
theorem flX4_37 : kbFL "KnockBook$Joins" 37 4 4 false (.int) := ⟨RX4, TX4, 5, tyX4, rfl, by decide, kbX4_in, tyX4_ok, nmX4, rfl, rfl, Or.inl (kt1 (i := 214) rfl rfl)⟩
theorem flX4_60 : kbFL "KnockBook$Joins" 60 9 2 true (.array .int) := ⟨RX10, TX10, 5, tyX10, rfl, by decide, kbX10_in, tyX10_ok, nmX10, rfl, rfl, Or.inr ⟨"KnockBook", List.mem_of_getElem? (i := 40) rfl⟩⟩
theorem flX4_65 : kbFL "KnockBook$Joins" 65 9 3 true (.array .int) := ⟨RX10, TX10, 5, tyX10, rfl, by decide, kbX10_in, tyX10_ok, nmX10, rfl, rfl, Or.inr ⟨"KnockBook", List.mem_of_getElem? (i := 41) rfl⟩⟩
theorem flX4_68 : kbFL "KnockBook$Joins" 68 9 1 true (.array .int) := ⟨RX10, TX10, 5, tyX10, rfl, by decide, kbX10_in, tyX10_ok, nmX10, rfl, rfl, Or.inr ⟨"KnockBook", List.mem_of_getElem? (i := 42) rfl⟩⟩
theorem flX5_9 : kbFL "KnockBook$Play" 9 5 3 true (.array .int) := ⟨RX5, TX5, 11, tyX5, rfl, by decide, kbX5_in, tyX5_ok, nmX5, rfl, rfl, Or.inl (kt2 (i := 81) rfl rfl)⟩
theorem flX5_15 : kbFL "KnockBook$Play" 15 5 4 true (.array .int) := ⟨RX5, TX5, 11, tyX5, rfl, by decide, kbX5_in, tyX5_ok, nmX5, rfl, rfl, Or.inl (kt2 (i := 82) rfl rfl)⟩
theorem flX5_18 : kbFL "KnockBook$Play" 18 5 0 true (.object "KnockBook$House") := ⟨RX5, TX5, 11, tyX5, rfl, by decide, kbX5_in, tyX5_ok, nmX5, rfl, rfl, Or.inl (kt2 (i := 78) rfl rfl)⟩
theorem flX5_22 : kbFL "KnockBook$Play" 22 5 1 true (.object "KnockBook$Ruler") := ⟨RX5, TX5, 11, tyX5, rfl, by decide, kbX5_in, tyX5_ok, nmX5, rfl, rfl, Or.inl (kt2 (i := 79) rfl rfl)⟩
theorem flX5_32 : kbFL "KnockBook$Play" 32 5 2 true (.object "KnockBook$Words") := ⟨RX5, TX5, 11, tyX5, rfl, by decide, kbX5_in, tyX5_ok, nmX5, rfl, rfl, Or.inl (kt2 (i := 80) rfl rfl)⟩
theorem flX5_33 : kbFL "KnockBook$Play" 33 9 4 false (.int) := ⟨RX10, TX10, 5, tyX10, rfl, by decide, kbX10_in, tyX10_ok, nmX10, rfl, rfl, Or.inr ⟨"KnockBook", List.mem_of_getElem? (i := 44) rfl⟩⟩
theorem flX5_46 : kbFL "KnockBook$Play" 46 9 0 true (.array .int) := ⟨RX10, TX10, 5, tyX10, rfl, by decide, kbX10_in, tyX10_ok, nmX10, rfl, rfl, Or.inr ⟨"KnockBook", List.mem_of_getElem? (i := 45) rfl⟩⟩
theorem flX5_63 : kbFL "KnockBook$Play" 63 5 5 false (.int) := ⟨RX5, TX5, 11, tyX5, rfl, by decide, kbX5_in, tyX5_ok, nmX5, rfl, rfl, Or.inl (kt2 (i := 83) rfl rfl)⟩
theorem flX5_66 : kbFL "KnockBook$Play" 66 5 6 false (.int) := ⟨RX5, TX5, 11, tyX5, rfl, by decide, kbX5_in, tyX5_ok, nmX5, rfl, rfl, Or.inl (kt2 (i := 85) rfl rfl)⟩
theorem flX5_73 : kbFL "KnockBook$Play" 73 9 3 true (.array .int) := ⟨RX10, TX10, 5, tyX10, rfl, by decide, kbX10_in, tyX10_ok, nmX10, rfl, rfl, Or.inr ⟨"KnockBook", List.mem_of_getElem? (i := 46) rfl⟩⟩
theorem flX5_80 : kbFL "KnockBook$Play" 80 5 7 false (.int) := ⟨RX5, TX5, 11, tyX5, rfl, by decide, kbX5_in, tyX5_ok, nmX5, rfl, rfl, Or.inl (kt2 (i := 87) rfl rfl)⟩
theorem flX5_83 : kbFL "KnockBook$Play" 83 5 8 false (.int) := ⟨RX5, TX5, 11, tyX5, rfl, by decide, kbX5_in, tyX5_ok, nmX5, rfl, rfl, Or.inl (kt2 (i := 88) rfl rfl)⟩
theorem flX5_86 : kbFL "KnockBook$Play" 86 5 9 false (.int) := ⟨RX5, TX5, 11, tyX5, rfl, by decide, kbX5_in, tyX5_ok, nmX5, rfl, rfl, Or.inl (kt2 (i := 90) rfl rfl)⟩
theorem flX5_89 : kbFL "KnockBook$Play" 89 5 10 false (.int) := ⟨RX5, TX5, 11, tyX5, rfl, by decide, kbX5_in, tyX5_ok, nmX5, rfl, rfl, Or.inl (kt2 (i := 92) rfl rfl)⟩
theorem flX5_92 : kbFL "KnockBook$Play" 92 3 0 true (.object "KnockBook$Doors") := ⟨RX3, TX3, 5, tyX3, rfl, by decide, kbX3_in, tyX3_ok, nmX3, rfl, rfl, Or.inr ⟨"KnockBook", List.mem_of_getElem? (i := 47) rfl⟩⟩
theorem flX5_96 : kbFL "KnockBook$Play" 96 2 2 false (.int) := ⟨RX2, TX2, 3, tyX2, rfl, by decide, kbX2_in, tyX2_ok, nmX2, rfl, rfl, Or.inr ⟨"KnockBook", List.mem_of_getElem? (i := 48) rfl⟩⟩
theorem flX7_9 : kbFL "KnockBook$Ruler" 9 6 1 true (.array .int) := ⟨RX7, TX7, 4, tyX7, rfl, by decide, kbX7_in, tyX7_ok, nmX7, rfl, rfl, Or.inl (kt1 (i := 233) rfl rfl)⟩
theorem flX7_15 : kbFL "KnockBook$Ruler" 15 6 2 true (.array .int) := ⟨RX7, TX7, 4, tyX7, rfl, by decide, kbX7_in, tyX7_ok, nmX7, rfl, rfl, Or.inl (kt1 (i := 234) rfl rfl)⟩
theorem flX7_18 : kbFL "KnockBook$Ruler" 18 6 3 true (.array .int) := ⟨RX7, TX7, 4, tyX7, rfl, by decide, kbX7_in, tyX7_ok, nmX7, rfl, rfl, Or.inl (kt1 (i := 235) rfl rfl)⟩
theorem flX7_21 : kbFL "KnockBook$Ruler" 21 6 0 true (.object "KnockBook$Words") := ⟨RX7, TX7, 4, tyX7, rfl, by decide, kbX7_in, tyX7_ok, nmX7, rfl, rfl, Or.inl (kt1 (i := 232) rfl rfl)⟩
theorem flX7_36 : kbFL "KnockBook$Ruler" 36 9 4 false (.int) := ⟨RX10, TX10, 5, tyX10, rfl, by decide, kbX10_in, tyX10_ok, nmX10, rfl, rfl, Or.inr ⟨"KnockBook", List.mem_of_getElem? (i := 49) rfl⟩⟩
theorem flX7_42 : kbFL "KnockBook$Ruler" 42 9 1 true (.array .int) := ⟨RX10, TX10, 5, tyX10, rfl, by decide, kbX10_in, tyX10_ok, nmX10, rfl, rfl, Or.inr ⟨"KnockBook", List.mem_of_getElem? (i := 50) rfl⟩⟩
theorem flX7_51 : kbFL "KnockBook$Ruler" 51 9 0 true (.array .int) := ⟨RX10, TX10, 5, tyX10, rfl, by decide, kbX10_in, tyX10_ok, nmX10, rfl, rfl, Or.inr ⟨"KnockBook", List.mem_of_getElem? (i := 51) rfl⟩⟩
theorem flX8_9 : kbFL "KnockBook$Speech" 9 7 2 true (.array .long) := ⟨RX8, TX8, 6, tyX8, rfl, by decide, kbX8_in, tyX8_ok, nmX8, rfl, rfl, Or.inl (kt2 (i := 13) rfl rfl)⟩
theorem flX8_15 : kbFL "KnockBook$Speech" 15 7 3 true (.array .int) := ⟨RX8, TX8, 6, tyX8, rfl, by decide, kbX8_in, tyX8_ok, nmX8, rfl, rfl, Or.inl (kt2 (i := 14) rfl rfl)⟩
theorem flX8_19 : kbFL "KnockBook$Speech" 19 7 4 true (.array .int) := ⟨RX8, TX8, 6, tyX8, rfl, by decide, kbX8_in, tyX8_ok, nmX8, rfl, rfl, Or.inl (kt2 (i := 15) rfl rfl)⟩
theorem flX8_22 : kbFL "KnockBook$Speech" 22 7 5 true (.array .int) := ⟨RX8, TX8, 6, tyX8, rfl, by decide, kbX8_in, tyX8_ok, nmX8, rfl, rfl, Or.inl (kt2 (i := 16) rfl rfl)⟩
theorem flX8_25 : kbFL "KnockBook$Speech" 25 7 0 true (.object "KnockBook$Words") := ⟨RX8, TX8, 6, tyX8, rfl, by decide, kbX8_in, tyX8_ok, nmX8, rfl, rfl, Or.inl (kt2 (i := 11) rfl rfl)⟩
theorem flX8_29 : kbFL "KnockBook$Speech" 29 7 1 true (.object "KnockBook$Joins") := ⟨RX8, TX8, 6, tyX8, rfl, by decide, kbX8_in, tyX8_ok, nmX8, rfl, rfl, Or.inl (kt2 (i := 12) rfl rfl)⟩
theorem flX8_39 : kbFL "KnockBook$Speech" 39 9 4 false (.int) := ⟨RX10, TX10, 5, tyX10, rfl, by decide, kbX10_in, tyX10_ok, nmX10, rfl, rfl, Or.inr ⟨"KnockBook", List.mem_of_getElem? (i := 52) rfl⟩⟩
theorem flX8_49 : kbFL "KnockBook$Speech" 49 9 1 true (.array .int) := ⟨RX10, TX10, 5, tyX10, rfl, by decide, kbX10_in, tyX10_ok, nmX10, rfl, rfl, Or.inr ⟨"KnockBook", List.mem_of_getElem? (i := 53) rfl⟩⟩
theorem flX8_55 : kbFL "KnockBook$Speech" 55 9 0 true (.array .int) := ⟨RX10, TX10, 5, tyX10, rfl, by decide, kbX10_in, tyX10_ok, nmX10, rfl, rfl, Or.inr ⟨"KnockBook", List.mem_of_getElem? (i := 54) rfl⟩⟩
theorem flX8_88 : kbFL "KnockBook$Speech" 88 9 3 true (.array .int) := ⟨RX10, TX10, 5, tyX10, rfl, by decide, kbX10_in, tyX10_ok, nmX10, rfl, rfl, Or.inr ⟨"KnockBook", List.mem_of_getElem? (i := 55) rfl⟩⟩
theorem flX9_12 : kbFL "KnockBook$State" 12 8 0 true (.object "KnockBook$Words") := ⟨RX9, TX9, 8, tyX9, rfl, by decide, kbX9_in, tyX9_ok, nmX9, rfl, rfl, Or.inl (kt1 (i := 166) rfl rfl)⟩
theorem flX9_18 : kbFL "KnockBook$State" 18 8 1 true (.array .int) := ⟨RX9, TX9, 8, tyX9, rfl, by decide, kbX9_in, tyX9_ok, nmX9, rfl, rfl, Or.inl (kt1 (i := 169) rfl rfl)⟩
theorem flX9_22 : kbFL "KnockBook$State" 22 8 2 true (.array .int) := ⟨RX9, TX9, 8, tyX9, rfl, by decide, kbX9_in, tyX9_ok, nmX9, rfl, rfl, Or.inl (kt1 (i := 170) rfl rfl)⟩
theorem flX9_25 : kbFL "KnockBook$State" 25 8 3 true (.array .int) := ⟨RX9, TX9, 8, tyX9, rfl, by decide, kbX9_in, tyX9_ok, nmX9, rfl, rfl, Or.inl (kt1 (i := 173) rfl rfl)⟩
theorem flX9_28 : kbFL "KnockBook$State" 28 8 4 true (.array .int) := ⟨RX9, TX9, 8, tyX9, rfl, by decide, kbX9_in, tyX9_ok, nmX9, rfl, rfl, Or.inl (kt1 (i := 176) rfl rfl)⟩
theorem flX9_35 : kbFL "KnockBook$State" 35 8 5 false (.int) := ⟨RX9, TX9, 8, tyX9, rfl, by decide, kbX9_in, tyX9_ok, nmX9, rfl, rfl, Or.inl (kt1 (i := 178) rfl rfl)⟩
theorem flX9_39 : kbFL "KnockBook$State" 39 8 6 false (.int) := ⟨RX9, TX9, 8, tyX9, rfl, by decide, kbX9_in, tyX9_ok, nmX9, rfl, rfl, Or.inl (kt1 (i := 180) rfl rfl)⟩
theorem flX9_42 : kbFL "KnockBook$State" 42 8 7 false (.int) := ⟨RX9, TX9, 8, tyX9, rfl, by decide, kbX9_in, tyX9_ok, nmX9, rfl, rfl, Or.inl (kt1 (i := 183) rfl rfl)⟩
theorem flX9_51 : kbFL "KnockBook$State" 51 9 0 true (.array .int) := ⟨RX10, TX10, 5, tyX10, rfl, by decide, kbX10_in, tyX10_ok, nmX10, rfl, rfl, Or.inr ⟨"KnockBook", List.mem_of_getElem? (i := 56) rfl⟩⟩
theorem flX9_54 : kbFL "KnockBook$State" 54 9 2 true (.array .int) := ⟨RX10, TX10, 5, tyX10, rfl, by decide, kbX10_in, tyX10_ok, nmX10, rfl, rfl, Or.inr ⟨"KnockBook", List.mem_of_getElem? (i := 57) rfl⟩⟩
theorem flX9_57 : kbFL "KnockBook$State" 57 9 3 true (.array .int) := ⟨RX10, TX10, 5, tyX10, rfl, by decide, kbX10_in, tyX10_ok, nmX10, rfl, rfl, Or.inr ⟨"KnockBook", List.mem_of_getElem? (i := 58) rfl⟩⟩
theorem mfX0_append : MX0_append.1.cls ≠ "java/lang/invoke/MethodHandle" ∧ MX0_append.1.cls ≠ "java/lang/invoke/VarHandle" ∧ (parseMethodDescriptor MX0_append.1.desc).map (fun d => d.parameters.length) = some 1 ∧ MX0_append.2.2.1 ≤ 29 := by decide +kernel
theorem wcX0_append : Cond.code MX0_append.1 MX0_append.2.1 MX0_append.2.2.1 MX0_append.2.2.2 ∈ kbT := kt2 (i := 158) rfl rfl
theorem wzX0_append : Cond.initialized MX0_append.1.cls ∈ kbT := kt1 (i := 2) rfl rfl
theorem wiX0_append : Cond.instanceMethod MX0_append.1 ∈ kbT := kt2 (i := 156) rfl rfl
theorem wsX0_append : Cond.selects MX0_append.1.cls MX0_append.1 MX0_append.1 ∈ kbT := kt2 (i := 157) rfl rfl
theorem cvX11_91 : kbCV "KnockBook" 91 MX0_append 1 := ⟨kb_all5 (kt2 (i := 155) rfl rfl) wiX0_append wsX0_append wzX0_append wcX0_append, mfX0_append⟩
theorem mfX10_find : MX10_find.1.cls ≠ "java/lang/invoke/MethodHandle" ∧ MX10_find.1.cls ≠ "java/lang/invoke/VarHandle" ∧ (parseMethodDescriptor MX10_find.1.desc).map (fun d => d.parameters.length) = some 1 ∧ MX10_find.2.2.1 ≤ 29 := by decide +kernel
theorem wcX10_find : Cond.code MX10_find.1 MX10_find.2.1 MX10_find.2.2.1 MX10_find.2.2.2 ∈ kbT := kt2 (i := 179) rfl rfl
theorem wzX10_find : Cond.initialized MX10_find.1.cls ∈ kbT := kt1 (i := 3) rfl rfl
theorem wiX10_find : Cond.instanceMethod MX10_find.1 ∈ kbT := kt2 (i := 177) rfl rfl
theorem wsX10_find : Cond.selects MX10_find.1.cls MX10_find.1 MX10_find.1 ∈ kbT := kt2 (i := 178) rfl rfl
theorem cvX11_242 : kbCV "KnockBook" 242 MX10_find 1 := ⟨kb_all5 (kt2 (i := 176) rfl rfl) wiX10_find wsX10_find wzX10_find wcX10_find, mfX10_find⟩
theorem mfX11_refuseAct : MX11_refuseAct.1.cls ≠ "java/lang/invoke/MethodHandle" ∧ MX11_refuseAct.1.cls ≠ "java/lang/invoke/VarHandle" ∧ (parseMethodDescriptor MX11_refuseAct.1.desc).map (fun d => d.parameters.length) = some 0 ∧ MX11_refuseAct.2.2.1 ≤ 29 := by decide +kernel
theorem wcX11_refuseAct : Cond.code MX11_refuseAct.1 MX11_refuseAct.2.1 MX11_refuseAct.2.2.1 MX11_refuseAct.2.2.2 ∈ kbT := kt2 (i := 189) rfl rfl
theorem wzX11_refuseAct : Cond.initialized MX11_refuseAct.1.cls ∈ kbT := kt1 (i := 1) rfl rfl
theorem wiX11_refuseAct : Cond.instanceMethod MX11_refuseAct.1 ∈ kbT := kt2 (i := 188) rfl rfl
theorem wsX11_refuseAct : Cond.selects MX11_refuseAct.1.cls MX11_refuseAct.1 MX11_refuseAct.1 ∈ kbT := kts (i := 0) rfl
theorem cvX11_251 : kbCV "KnockBook" 251 MX11_refuseAct 0 := ⟨kb_all5 (kt2 (i := 186) rfl rfl) wiX11_refuseAct wsX11_refuseAct wzX11_refuseAct wcX11_refuseAct, mfX11_refuseAct⟩
theorem mfX10_insert : MX10_insert.1.cls ≠ "java/lang/invoke/MethodHandle" ∧ MX10_insert.1.cls ≠ "java/lang/invoke/VarHandle" ∧ (parseMethodDescriptor MX10_insert.1.desc).map (fun d => d.parameters.length) = some 4 ∧ MX10_insert.2.2.1 ≤ 29 := by decide +kernel
theorem wcX10_insert : Cond.code MX10_insert.1 MX10_insert.2.1 MX10_insert.2.2.1 MX10_insert.2.2.2 ∈ kbT := kt2 (i := 193) rfl rfl
theorem wzX10_insert : Cond.initialized MX10_insert.1.cls ∈ kbT := kt1 (i := 3) rfl rfl
theorem wiX10_insert : Cond.instanceMethod MX10_insert.1 ∈ kbT := kt2 (i := 191) rfl rfl
theorem wsX10_insert : Cond.selects MX10_insert.1.cls MX10_insert.1 MX10_insert.1 ∈ kbT := kt2 (i := 192) rfl rfl
theorem cvX11_254 : kbCV "KnockBook" 254 MX10_insert 4 := ⟨kb_all5 (kt2 (i := 190) rfl rfl) wiX10_insert wsX10_insert wzX10_insert wcX10_insert, mfX10_insert⟩
theorem mfX9_keepAct : MX9_keepAct.1.cls ≠ "java/lang/invoke/MethodHandle" ∧ MX9_keepAct.1.cls ≠ "java/lang/invoke/VarHandle" ∧ (parseMethodDescriptor MX9_keepAct.1.desc).map (fun d => d.parameters.length) = some 5 ∧ MX9_keepAct.2.2.1 ≤ 29 := by decide +kernel
theorem wcX9_keepAct : Cond.code MX9_keepAct.1 MX9_keepAct.2.1 MX9_keepAct.2.2.1 MX9_keepAct.2.2.2 ∈ kbT := kt2 (i := 202) rfl rfl
theorem wzX9_keepAct : Cond.initialized MX9_keepAct.1.cls ∈ kbT := kt1 (i := 5) rfl rfl
theorem wiX9_keepAct : Cond.instanceMethod MX9_keepAct.1 ∈ kbT := kt2 (i := 200) rfl rfl
theorem wsX9_keepAct : Cond.selects MX9_keepAct.1.cls MX9_keepAct.1 MX9_keepAct.1 ∈ kbT := kt2 (i := 201) rfl rfl
theorem cvX11_258 : kbCV "KnockBook" 258 MX9_keepAct 5 := ⟨kb_all5 (kt2 (i := 199) rfl rfl) wiX9_keepAct wsX9_keepAct wzX9_keepAct wcX9_keepAct, mfX9_keepAct⟩
theorem mfX4_renew : MX4_renew.1.cls ≠ "java/lang/invoke/MethodHandle" ∧ MX4_renew.1.cls ≠ "java/lang/invoke/VarHandle" ∧ (parseMethodDescriptor MX4_renew.1.desc).map (fun d => d.parameters.length) = some 0 ∧ MX4_renew.2.2.1 ≤ 29 := by decide +kernel
theorem wcX4_renew : Cond.code MX4_renew.1 MX4_renew.2.1 MX4_renew.2.2.1 MX4_renew.2.2.2 ∈ kbT := kt2 (i := 209) rfl rfl
theorem wzX4_renew : Cond.initialized MX4_renew.1.cls ∈ kbT := kt1 (i := 6) rfl rfl
theorem wiX4_renew : Cond.instanceMethod MX4_renew.1 ∈ kbT := kt2 (i := 207) rfl rfl
theorem wsX4_renew : Cond.selects MX4_renew.1.cls MX4_renew.1 MX4_renew.1 ∈ kbT := kt2 (i := 208) rfl rfl
theorem cvX11_262 : kbCV "KnockBook" 262 MX4_renew 0 := ⟨kb_all5 (kt2 (i := 206) rfl rfl) wiX4_renew wsX4_renew wzX4_renew wcX4_renew, mfX4_renew⟩
theorem mfX9_undoLast : MX9_undoLast.1.cls ≠ "java/lang/invoke/MethodHandle" ∧ MX9_undoLast.1.cls ≠ "java/lang/invoke/VarHandle" ∧ (parseMethodDescriptor MX9_undoLast.1.desc).map (fun d => d.parameters.length) = some 0 ∧ MX9_undoLast.2.2.1 ≤ 29 := by decide +kernel
theorem wcX9_undoLast : Cond.code MX9_undoLast.1 MX9_undoLast.2.1 MX9_undoLast.2.2.1 MX9_undoLast.2.2.2 ∈ kbT := kt2 (i := 220) rfl rfl
theorem wzX9_undoLast : Cond.initialized MX9_undoLast.1.cls ∈ kbT := kt1 (i := 5) rfl rfl
theorem wiX9_undoLast : Cond.instanceMethod MX9_undoLast.1 ∈ kbT := kt2 (i := 218) rfl rfl
theorem wsX9_undoLast : Cond.selects MX9_undoLast.1.cls MX9_undoLast.1 MX9_undoLast.1 ∈ kbT := kt2 (i := 219) rfl rfl
theorem cvX11_278 : kbCV "KnockBook" 278 MX9_undoLast 0 := ⟨kb_all5 (kt2 (i := 217) rfl rfl) wiX9_undoLast wsX9_undoLast wzX9_undoLast wcX9_undoLast, mfX9_undoLast⟩
theorem mfX1_shortestAmbiguous : MX1_shortestAmbiguous.1.cls ≠ "java/lang/invoke/MethodHandle" ∧ MX1_shortestAmbiguous.1.cls ≠ "java/lang/invoke/VarHandle" ∧ (parseMethodDescriptor MX1_shortestAmbiguous.1.desc).map (fun d => d.parameters.length) = some 0 ∧ MX1_shortestAmbiguous.2.2.1 ≤ 29 := by decide +kernel
theorem wcX1_shortestAmbiguous : Cond.code MX1_shortestAmbiguous.1 MX1_shortestAmbiguous.2.1 MX1_shortestAmbiguous.2.2.1 MX1_shortestAmbiguous.2.2.2 ∈ kbT := kt3 (i := 1) rfl rfl
theorem wzX1_shortestAmbiguous : Cond.initialized MX1_shortestAmbiguous.1.cls ∈ kbT := kt1 (i := 9) rfl rfl
theorem wiX1_shortestAmbiguous : Cond.instanceMethod MX1_shortestAmbiguous.1 ∈ kbT := kt2 (i := 239) rfl rfl
theorem wsX1_shortestAmbiguous : Cond.selects MX1_shortestAmbiguous.1.cls MX1_shortestAmbiguous.1 MX1_shortestAmbiguous.1 ∈ kbT := kt3 (i := 0) rfl rfl
theorem cvX11_284 : kbCV "KnockBook" 284 MX1_shortestAmbiguous 0 := ⟨kb_all5 (kt2 (i := 238) rfl rfl) wiX1_shortestAmbiguous wsX1_shortestAmbiguous wzX1_shortestAmbiguous wcX1_shortestAmbiguous, mfX1_shortestAmbiguous⟩
theorem mfX1_prefixCouples : MX1_prefixCouples.1.cls ≠ "java/lang/invoke/MethodHandle" ∧ MX1_prefixCouples.1.cls ≠ "java/lang/invoke/VarHandle" ∧ (parseMethodDescriptor MX1_prefixCouples.1.desc).map (fun d => d.parameters.length) = some 0 ∧ MX1_prefixCouples.2.2.1 ≤ 29 := by decide +kernel
theorem wcX1_prefixCouples : Cond.code MX1_prefixCouples.1 MX1_prefixCouples.2.1 MX1_prefixCouples.2.2.1 MX1_prefixCouples.2.2.2 ∈ kbT := kt3 (i := 37) rfl rfl
theorem wzX1_prefixCouples : Cond.initialized MX1_prefixCouples.1.cls ∈ kbT := kt1 (i := 9) rfl rfl
theorem wiX1_prefixCouples : Cond.instanceMethod MX1_prefixCouples.1 ∈ kbT := kt3 (i := 35) rfl rfl
theorem wsX1_prefixCouples : Cond.selects MX1_prefixCouples.1.cls MX1_prefixCouples.1 MX1_prefixCouples.1 ∈ kbT := kt3 (i := 36) rfl rfl
theorem cvX11_287 : kbCV "KnockBook" 287 MX1_prefixCouples 0 := ⟨kb_all5 (kt3 (i := 34) rfl rfl) wiX1_prefixCouples wsX1_prefixCouples wzX1_prefixCouples wcX1_prefixCouples, mfX1_prefixCouples⟩
theorem mfX3_fewestDoors : MX3_fewestDoors.1.cls ≠ "java/lang/invoke/MethodHandle" ∧ MX3_fewestDoors.1.cls ≠ "java/lang/invoke/VarHandle" ∧ (parseMethodDescriptor MX3_fewestDoors.1.desc).map (fun d => d.parameters.length) = some 0 ∧ MX3_fewestDoors.2.2.1 ≤ 29 := by decide +kernel
theorem wcX3_fewestDoors : Cond.code MX3_fewestDoors.1 MX3_fewestDoors.2.1 MX3_fewestDoors.2.2.1 MX3_fewestDoors.2.2.2 ∈ kbT := kt3 (i := 45) rfl rfl
theorem wzX3_fewestDoors : Cond.initialized MX3_fewestDoors.1.cls ∈ kbT := kt1 (i := 10) rfl rfl
theorem wiX3_fewestDoors : Cond.instanceMethod MX3_fewestDoors.1 ∈ kbT := kt3 (i := 43) rfl rfl
theorem wsX3_fewestDoors : Cond.selects MX3_fewestDoors.1.cls MX3_fewestDoors.1 MX3_fewestDoors.1 ∈ kbT := kt3 (i := 44) rfl rfl
theorem cvX11_290 : kbCV "KnockBook" 290 MX3_fewestDoors 0 := ⟨kb_all5 (kt3 (i := 42) rfl rfl) wiX3_fewestDoors wsX3_fewestDoors wzX3_fewestDoors wcX3_fewestDoors, mfX3_fewestDoors⟩
theorem mfX3_wordsHeard : MX3_wordsHeard.1.cls ≠ "java/lang/invoke/MethodHandle" ∧ MX3_wordsHeard.1.cls ≠ "java/lang/invoke/VarHandle" ∧ (parseMethodDescriptor MX3_wordsHeard.1.desc).map (fun d => d.parameters.length) = some 0 ∧ MX3_wordsHeard.2.2.1 ≤ 29 := by decide +kernel
theorem wcX3_wordsHeard : Cond.code MX3_wordsHeard.1 MX3_wordsHeard.2.1 MX3_wordsHeard.2.2.1 MX3_wordsHeard.2.2.2 ∈ kbT := kt3 (i := 104) rfl rfl
theorem wzX3_wordsHeard : Cond.initialized MX3_wordsHeard.1.cls ∈ kbT := kt1 (i := 10) rfl rfl
theorem wiX3_wordsHeard : Cond.instanceMethod MX3_wordsHeard.1 ∈ kbT := kt3 (i := 102) rfl rfl
theorem wsX3_wordsHeard : Cond.selects MX3_wordsHeard.1.cls MX3_wordsHeard.1 MX3_wordsHeard.1 ∈ kbT := kt3 (i := 103) rfl rfl
theorem cvX11_318 : kbCV "KnockBook" 318 MX3_wordsHeard 0 := ⟨kb_all5 (kt3 (i := 101) rfl rfl) wiX3_wordsHeard wsX3_wordsHeard wzX3_wordsHeard wcX3_wordsHeard, mfX3_wordsHeard⟩
theorem mfX9_copyFrom : MX9_copyFrom.1.cls ≠ "java/lang/invoke/MethodHandle" ∧ MX9_copyFrom.1.cls ≠ "java/lang/invoke/VarHandle" ∧ (parseMethodDescriptor MX9_copyFrom.1.desc).map (fun d => d.parameters.length) = some 1 ∧ MX9_copyFrom.2.2.1 ≤ 29 := by decide +kernel
theorem wcX9_copyFrom : Cond.code MX9_copyFrom.1 MX9_copyFrom.2.1 MX9_copyFrom.2.2.1 MX9_copyFrom.2.2.2 ∈ kbT := kt3 (i := 120) rfl rfl
theorem wzX9_copyFrom : Cond.initialized MX9_copyFrom.1.cls ∈ kbT := kt1 (i := 5) rfl rfl
theorem wiX9_copyFrom : Cond.instanceMethod MX9_copyFrom.1 ∈ kbT := kt3 (i := 118) rfl rfl
theorem wsX9_copyFrom : Cond.selects MX9_copyFrom.1.cls MX9_copyFrom.1 MX9_copyFrom.1 ∈ kbT := kt3 (i := 119) rfl rfl
theorem cvX11_355 : kbCV "KnockBook" 355 MX9_copyFrom 1 := ⟨kb_all5 (kt3 (i := 117) rfl rfl) wiX9_copyFrom wsX9_copyFrom wzX9_copyFrom wcX9_copyFrom, mfX9_copyFrom⟩
theorem mfX0_advance : MX0_advance.1.cls ≠ "java/lang/invoke/MethodHandle" ∧ MX0_advance.1.cls ≠ "java/lang/invoke/VarHandle" ∧ (parseMethodDescriptor MX0_advance.1.desc).map (fun d => d.parameters.length) = some 0 ∧ MX0_advance.2.2.1 ≤ 29 := by decide +kernel
theorem wcX0_advance : Cond.code MX0_advance.1 MX0_advance.2.1 MX0_advance.2.2.1 MX0_advance.2.2.2 ∈ kbT := kt3 (i := 212) rfl rfl
theorem wzX0_advance : Cond.initialized MX0_advance.1.cls ∈ kbT := kt1 (i := 2) rfl rfl
theorem wiX0_advance : Cond.instanceMethod MX0_advance.1 ∈ kbT := kt3 (i := 211) rfl rfl
theorem wsX0_advance : Cond.selects MX0_advance.1.cls MX0_advance.1 MX0_advance.1 ∈ kbT := kts (i := 14) rfl
theorem cvX0_55 : kbCV "KnockBook$BookText" 55 MX0_advance 0 := ⟨kb_all5 (kt3 (i := 209) rfl rfl) wiX0_advance wsX0_advance wzX0_advance wcX0_advance, mfX0_advance⟩
theorem mfX0_line : MX0_line.1.cls ≠ "java/lang/invoke/MethodHandle" ∧ MX0_line.1.cls ≠ "java/lang/invoke/VarHandle" ∧ (parseMethodDescriptor MX0_line.1.desc).map (fun d => d.parameters.length) = some 0 ∧ MX0_line.2.2.1 ≤ 29 := by decide +kernel
theorem wcX0_line : Cond.code MX0_line.1 MX0_line.2.1 MX0_line.2.2.1 MX0_line.2.2.2 ∈ kbT := kt4 (i := 75) rfl rfl
theorem wzX0_line : Cond.initialized MX0_line.1.cls ∈ kbT := kt1 (i := 2) rfl rfl
theorem wiX0_line : Cond.instanceMethod MX0_line.1 ∈ kbT := kt4 (i := 74) rfl rfl
theorem wsX0_line : Cond.selects MX0_line.1.cls MX0_line.1 MX0_line.1 ∈ kbT := kts (i := 16) rfl
theorem cvX0_61 : kbCV "KnockBook$BookText" 61 MX0_line 0 := ⟨kb_all5 (kt4 (i := 72) rfl rfl) wiX0_line wsX0_line wzX0_line wcX0_line, mfX0_line⟩
theorem mfX0_partNamed : MX0_partNamed.1.cls ≠ "java/lang/invoke/MethodHandle" ∧ MX0_partNamed.1.cls ≠ "java/lang/invoke/VarHandle" ∧ (parseMethodDescriptor MX0_partNamed.1.desc).map (fun d => d.parameters.length) = some 0 ∧ MX0_partNamed.2.2.1 ≤ 29 := by decide +kernel
theorem wcX0_partNamed : Cond.code MX0_partNamed.1 MX0_partNamed.2.1 MX0_partNamed.2.2.1 MX0_partNamed.2.2.2 ∈ kbT := kt4 (i := 79) rfl rfl
theorem wzX0_partNamed : Cond.initialized MX0_partNamed.1.cls ∈ kbT := kt1 (i := 2) rfl rfl
theorem wiX0_partNamed : Cond.instanceMethod MX0_partNamed.1 ∈ kbT := kt4 (i := 78) rfl rfl
theorem wsX0_partNamed : Cond.selects MX0_partNamed.1.cls MX0_partNamed.1 MX0_partNamed.1 ∈ kbT := kts (i := 17) rfl
theorem cvX0_64 : kbCV "KnockBook$BookText" 64 MX0_partNamed 0 := ⟨kb_all5 (kt4 (i := 76) rfl rfl) wiX0_partNamed wsX0_partNamed wzX0_partNamed wcX0_partNamed, mfX0_partNamed⟩
theorem mfX0_woodNamed : MX0_woodNamed.1.cls ≠ "java/lang/invoke/MethodHandle" ∧ MX0_woodNamed.1.cls ≠ "java/lang/invoke/VarHandle" ∧ (parseMethodDescriptor MX0_woodNamed.1.desc).map (fun d => d.parameters.length) = some 0 ∧ MX0_woodNamed.2.2.1 ≤ 29 := by decide +kernel
theorem wcX0_woodNamed : Cond.code MX0_woodNamed.1 MX0_woodNamed.2.1 MX0_woodNamed.2.2.1 MX0_woodNamed.2.2.2 ∈ kbT := kt4 (i := 111) rfl rfl
theorem wzX0_woodNamed : Cond.initialized MX0_woodNamed.1.cls ∈ kbT := kt1 (i := 2) rfl rfl
theorem wiX0_woodNamed : Cond.instanceMethod MX0_woodNamed.1 ∈ kbT := kt4 (i := 110) rfl rfl
theorem wsX0_woodNamed : Cond.selects MX0_woodNamed.1.cls MX0_woodNamed.1 MX0_woodNamed.1 ∈ kbT := kts (i := 19) rfl
theorem cvX0_68 : kbCV "KnockBook$BookText" 68 MX0_woodNamed 0 := ⟨kb_all5 (kt4 (i := 108) rfl rfl) wiX0_woodNamed wsX0_woodNamed wzX0_woodNamed wcX0_woodNamed, mfX0_woodNamed⟩
theorem mfX0_wordLine : MX0_wordLine.1.cls ≠ "java/lang/invoke/MethodHandle" ∧ MX0_wordLine.1.cls ≠ "java/lang/invoke/VarHandle" ∧ (parseMethodDescriptor MX0_wordLine.1.desc).map (fun d => d.parameters.length) = some 1 ∧ MX0_wordLine.2.2.1 ≤ 29 := by decide +kernel
theorem wcX0_wordLine : Cond.code MX0_wordLine.1 MX0_wordLine.2.1 MX0_wordLine.2.2.1 MX0_wordLine.2.2.2 ∈ kbT := kt4 (i := 119) rfl rfl
theorem wzX0_wordLine : Cond.initialized MX0_wordLine.1.cls ∈ kbT := kt1 (i := 2) rfl rfl
theorem wiX0_wordLine : Cond.instanceMethod MX0_wordLine.1 ∈ kbT := kt4 (i := 118) rfl rfl
theorem wsX0_wordLine : Cond.selects MX0_wordLine.1.cls MX0_wordLine.1 MX0_wordLine.1 ∈ kbT := kts (i := 20) rfl
theorem cvX0_71 : kbCV "KnockBook$BookText" 71 MX0_wordLine 1 := ⟨kb_all5 (kt4 (i := 116) rfl rfl) wiX0_wordLine wsX0_wordLine wzX0_wordLine wcX0_wordLine, mfX0_wordLine⟩
theorem mfX0_doorLine : MX0_doorLine.1.cls ≠ "java/lang/invoke/MethodHandle" ∧ MX0_doorLine.1.cls ≠ "java/lang/invoke/VarHandle" ∧ (parseMethodDescriptor MX0_doorLine.1.desc).map (fun d => d.parameters.length) = some 1 ∧ MX0_doorLine.2.2.1 ≤ 29 := by decide +kernel
theorem wcX0_doorLine : Cond.code MX0_doorLine.1 MX0_doorLine.2.1 MX0_doorLine.2.2.1 MX0_doorLine.2.2.2 ∈ kbT := kt4 (i := 148) rfl rfl
theorem wzX0_doorLine : Cond.initialized MX0_doorLine.1.cls ∈ kbT := kt1 (i := 2) rfl rfl
theorem wiX0_doorLine : Cond.instanceMethod MX0_doorLine.1 ∈ kbT := kt4 (i := 147) rfl rfl
theorem wsX0_doorLine : Cond.selects MX0_doorLine.1.cls MX0_doorLine.1 MX0_doorLine.1 ∈ kbT := kts (i := 26) rfl
theorem cvX0_75 : kbCV "KnockBook$BookText" 75 MX0_doorLine 1 := ⟨kb_all5 (kt4 (i := 145) rfl rfl) wiX0_doorLine wsX0_doorLine wzX0_doorLine wcX0_doorLine, mfX0_doorLine⟩
theorem mfX0_isNamed : MX0_isNamed.1.cls ≠ "java/lang/invoke/MethodHandle" ∧ MX0_isNamed.1.cls ≠ "java/lang/invoke/VarHandle" ∧ (parseMethodDescriptor MX0_isNamed.1.desc).map (fun d => d.parameters.length) = some 1 ∧ MX0_isNamed.2.2.1 ≤ 29 := by decide +kernel
theorem wcX0_isNamed : Cond.code MX0_isNamed.1 MX0_isNamed.2.1 MX0_isNamed.2.2.1 MX0_isNamed.2.2.2 ∈ kbT := kt4 (i := 84) rfl rfl
theorem wzX0_isNamed : Cond.initialized MX0_isNamed.1.cls ∈ kbT := kt1 (i := 2) rfl rfl
theorem wiX0_isNamed : Cond.instanceMethod MX0_isNamed.1 ∈ kbT := kt4 (i := 83) rfl rfl
theorem wsX0_isNamed : Cond.selects MX0_isNamed.1.cls MX0_isNamed.1 MX0_isNamed.1 ∈ kbT := kts (i := 18) rfl
theorem cvX0_80 : kbCV "KnockBook$BookText" 80 MX0_isNamed 1 := ⟨kb_all5 (kt4 (i := 81) rfl rfl) wiX0_isNamed wsX0_isNamed wzX0_isNamed wcX0_isNamed, mfX0_isNamed⟩
theorem mfX0_joinsLine : MX0_joinsLine.1.cls ≠ "java/lang/invoke/MethodHandle" ∧ MX0_joinsLine.1.cls ≠ "java/lang/invoke/VarHandle" ∧ (parseMethodDescriptor MX0_joinsLine.1.desc).map (fun d => d.parameters.length) = some 0 ∧ MX0_joinsLine.2.2.1 ≤ 29 := by decide +kernel
theorem wcX0_joinsLine : Cond.code MX0_joinsLine.1 MX0_joinsLine.2.1 MX0_joinsLine.2.2.1 MX0_joinsLine.2.2.2 ∈ kbT := kt4 (i := 164) rfl rfl
theorem wzX0_joinsLine : Cond.initialized MX0_joinsLine.1.cls ∈ kbT := kt1 (i := 2) rfl rfl
theorem wiX0_joinsLine : Cond.instanceMethod MX0_joinsLine.1 ∈ kbT := kt4 (i := 163) rfl rfl
theorem wsX0_joinsLine : Cond.selects MX0_joinsLine.1.cls MX0_joinsLine.1 MX0_joinsLine.1 ∈ kbT := kts (i := 28) rfl
theorem cvX0_84 : kbCV "KnockBook$BookText" 84 MX0_joinsLine 0 := ⟨kb_all5 (kt4 (i := 161) rfl rfl) wiX0_joinsLine wsX0_joinsLine wzX0_joinsLine wcX0_joinsLine, mfX0_joinsLine⟩
theorem mfX0_fail : MX0_fail.1.cls ≠ "java/lang/invoke/MethodHandle" ∧ MX0_fail.1.cls ≠ "java/lang/invoke/VarHandle" ∧ (parseMethodDescriptor MX0_fail.1.desc).map (fun d => d.parameters.length) = some 1 ∧ MX0_fail.2.2.1 ≤ 29 := by decide +kernel
theorem wcX0_fail : Cond.code MX0_fail.1 MX0_fail.2.1 MX0_fail.2.2.1 MX0_fail.2.2.2 ∈ kbT := kt4 (i := 123) rfl rfl
theorem wzX0_fail : Cond.initialized MX0_fail.1.cls ∈ kbT := kt1 (i := 2) rfl rfl
theorem wiX0_fail : Cond.instanceMethod MX0_fail.1 ∈ kbT := kt4 (i := 122) rfl rfl
theorem wsX0_fail : Cond.selects MX0_fail.1.cls MX0_fail.1 MX0_fail.1 ∈ kbT := kts (i := 21) rfl
theorem cvX0_87 : kbCV "KnockBook$BookText" 87 MX0_fail 1 := ⟨kb_all5 (kt4 (i := 120) rfl rfl) wiX0_fail wsX0_fail wzX0_fail wcX0_fail, mfX0_fail⟩
theorem mfX0_passSign : MX0_passSign.1.cls ≠ "java/lang/invoke/MethodHandle" ∧ MX0_passSign.1.cls ≠ "java/lang/invoke/VarHandle" ∧ (parseMethodDescriptor MX0_passSign.1.desc).map (fun d => d.parameters.length) = some 1 ∧ MX0_passSign.2.2.1 ≤ 29 := by decide +kernel
theorem wcX0_passSign : Cond.code MX0_passSign.1 MX0_passSign.2.1 MX0_passSign.2.2.1 MX0_passSign.2.2.2 ∈ kbT := kt4 (i := 211) rfl rfl
theorem wzX0_passSign : Cond.initialized MX0_passSign.1.cls ∈ kbT := kt1 (i := 2) rfl rfl
theorem wiX0_passSign : Cond.instanceMethod MX0_passSign.1 ∈ kbT := kt4 (i := 210) rfl rfl
theorem wsX0_passSign : Cond.selects MX0_passSign.1.cls MX0_passSign.1 MX0_passSign.1 ∈ kbT := kts (i := 38) rfl
theorem cvX0_91 : kbCV "KnockBook$BookText" 91 MX0_passSign 1 := ⟨kb_all5 (kt4 (i := 208) rfl rfl) wiX0_passSign wsX0_passSign wzX0_passSign wcX0_passSign, mfX0_passSign⟩
theorem mfX0_rowTold : MX0_rowTold.1.cls ≠ "java/lang/invoke/MethodHandle" ∧ MX0_rowTold.1.cls ≠ "java/lang/invoke/VarHandle" ∧ (parseMethodDescriptor MX0_rowTold.1.desc).map (fun d => d.parameters.length) = some 0 ∧ MX0_rowTold.2.2.1 ≤ 29 := by decide +kernel
theorem wcX0_rowTold : Cond.code MX0_rowTold.1 MX0_rowTold.2.1 MX0_rowTold.2.2.1 MX0_rowTold.2.2.2 ∈ kbT := kt4 (i := 127) rfl rfl
theorem wzX0_rowTold : Cond.initialized MX0_rowTold.1.cls ∈ kbT := kt1 (i := 2) rfl rfl
theorem wiX0_rowTold : Cond.instanceMethod MX0_rowTold.1 ∈ kbT := kt4 (i := 126) rfl rfl
theorem wsX0_rowTold : Cond.selects MX0_rowTold.1.cls MX0_rowTold.1 MX0_rowTold.1 ∈ kbT := kts (i := 22) rfl
theorem cvX0_95 : kbCV "KnockBook$BookText" 95 MX0_rowTold 0 := ⟨kb_all5 (kt4 (i := 124) rfl rfl) wiX0_rowTold wsX0_rowTold wzX0_rowTold wcX0_rowTold, mfX0_rowTold⟩
theorem mfX0_worthTold : MX0_worthTold.1.cls ≠ "java/lang/invoke/MethodHandle" ∧ MX0_worthTold.1.cls ≠ "java/lang/invoke/VarHandle" ∧ (parseMethodDescriptor MX0_worthTold.1.desc).map (fun d => d.parameters.length) = some 0 ∧ MX0_worthTold.2.2.1 ≤ 29 := by decide +kernel
theorem wcX0_worthTold : Cond.code MX0_worthTold.1 MX0_worthTold.2.1 MX0_worthTold.2.2.1 MX0_worthTold.2.2.2 ∈ kbT := kt4 (i := 139) rfl rfl
theorem wzX0_worthTold : Cond.initialized MX0_worthTold.1.cls ∈ kbT := kt1 (i := 2) rfl rfl
theorem wiX0_worthTold : Cond.instanceMethod MX0_worthTold.1 ∈ kbT := kt4 (i := 138) rfl rfl
theorem wsX0_worthTold : Cond.selects MX0_worthTold.1.cls MX0_worthTold.1 MX0_worthTold.1 ∈ kbT := kts (i := 24) rfl
theorem cvX0_98 : kbCV "KnockBook$BookText" 98 MX0_worthTold 0 := ⟨kb_all5 (kt4 (i := 136) rfl rfl) wiX0_worthTold wsX0_worthTold wzX0_worthTold wcX0_worthTold, mfX0_worthTold⟩
theorem cvX0_101 : kbCV "KnockBook$BookText" 101 MX10_insert 4 := ⟨kb_all5 (kt4 (i := 144) rfl rfl) wiX10_insert wsX10_insert wzX10_insert wcX10_insert, mfX10_insert⟩
theorem mfX0_handTold : MX0_handTold.1.cls ≠ "java/lang/invoke/MethodHandle" ∧ MX0_handTold.1.cls ≠ "java/lang/invoke/VarHandle" ∧ (parseMethodDescriptor MX0_handTold.1.desc).map (fun d => d.parameters.length) = some 0 ∧ MX0_handTold.2.2.1 ≤ 29 := by decide +kernel
theorem wcX0_handTold : Cond.code MX0_handTold.1 MX0_handTold.2.1 MX0_handTold.2.2.1 MX0_handTold.2.2.2 ∈ kbT := kt4 (i := 152) rfl rfl
theorem wzX0_handTold : Cond.initialized MX0_handTold.1.cls ∈ kbT := kt1 (i := 2) rfl rfl
theorem wiX0_handTold : Cond.instanceMethod MX0_handTold.1 ∈ kbT := kt4 (i := 151) rfl rfl
theorem wsX0_handTold : Cond.selects MX0_handTold.1.cls MX0_handTold.1 MX0_handTold.1 ∈ kbT := kts (i := 27) rfl
theorem cvX0_105 : kbCV "KnockBook$BookText" 105 MX0_handTold 0 := ⟨kb_all5 (kt4 (i := 149) rfl rfl) wiX0_handTold wsX0_handTold wzX0_handTold wcX0_handTold, mfX0_handTold⟩
theorem mfX2_add : MX2_add.1.cls ≠ "java/lang/invoke/MethodHandle" ∧ MX2_add.1.cls ≠ "java/lang/invoke/VarHandle" ∧ (parseMethodDescriptor MX2_add.1.desc).map (fun d => d.parameters.length) = some 2 ∧ MX2_add.2.2.1 ≤ 29 := by decide +kernel
theorem wcX2_add : Cond.code MX2_add.1 MX2_add.2.1 MX2_add.2.2.1 MX2_add.2.2.2 ∈ kbT := kt4 (i := 159) rfl rfl
theorem wzX2_add : Cond.initialized MX2_add.1.cls ∈ kbT := kt1 (i := 4) rfl rfl
theorem wiX2_add : Cond.instanceMethod MX2_add.1 ∈ kbT := kt4 (i := 157) rfl rfl
theorem wsX2_add : Cond.selects MX2_add.1.cls MX2_add.1 MX2_add.1 ∈ kbT := kt4 (i := 158) rfl rfl
theorem cvX0_108 : kbCV "KnockBook$BookText" 108 MX2_add 2 := ⟨kb_all5 (kt4 (i := 156) rfl rfl) wiX2_add wsX2_add wzX2_add wcX2_add, mfX2_add⟩
theorem mfX0_expr : MX0_expr.1.cls ≠ "java/lang/invoke/MethodHandle" ∧ MX0_expr.1.cls ≠ "java/lang/invoke/VarHandle" ∧ (parseMethodDescriptor MX0_expr.1.desc).map (fun d => d.parameters.length) = some 1 ∧ MX0_expr.2.2.1 ≤ 29 := by decide +kernel
theorem wcX0_expr : Cond.code MX0_expr.1 MX0_expr.2.1 MX0_expr.2.2.1 MX0_expr.2.2.2 ∈ kbT := kt4 (i := 168) rfl rfl
theorem wzX0_expr : Cond.initialized MX0_expr.1.cls ∈ kbT := kt1 (i := 2) rfl rfl
theorem wiX0_expr : Cond.instanceMethod MX0_expr.1 ∈ kbT := kt4 (i := 167) rfl rfl
theorem wsX0_expr : Cond.selects MX0_expr.1.cls MX0_expr.1 MX0_expr.1 ∈ kbT := kts (i := 29) rfl
theorem cvX0_112 : kbCV "KnockBook$BookText" 112 MX0_expr 1 := ⟨kb_all5 (kt4 (i := 165) rfl rfl) wiX0_expr wsX0_expr wzX0_expr wcX0_expr, mfX0_expr⟩
theorem mfX0_isOfSounds : MX0_isOfSounds.1.cls ≠ "java/lang/invoke/MethodHandle" ∧ MX0_isOfSounds.1.cls ≠ "java/lang/invoke/VarHandle" ∧ (parseMethodDescriptor MX0_isOfSounds.1.desc).map (fun d => d.parameters.length) = some 0 ∧ MX0_isOfSounds.2.2.1 ≤ 29 := by decide +kernel
theorem wcX0_isOfSounds : Cond.code MX0_isOfSounds.1 MX0_isOfSounds.2.1 MX0_isOfSounds.2.2.1 MX0_isOfSounds.2.2.2 ∈ kbT := kt4 (i := 131) rfl rfl
theorem wzX0_isOfSounds : Cond.initialized MX0_isOfSounds.1.cls ∈ kbT := kt1 (i := 2) rfl rfl
theorem wiX0_isOfSounds : Cond.instanceMethod MX0_isOfSounds.1 ∈ kbT := kt4 (i := 130) rfl rfl
theorem wsX0_isOfSounds : Cond.selects MX0_isOfSounds.1.cls MX0_isOfSounds.1 MX0_isOfSounds.1 ∈ kbT := kts (i := 23) rfl
theorem cvX0_115 : kbCV "KnockBook$BookText" 115 MX0_isOfSounds 0 := ⟨kb_all5 (kt4 (i := 128) rfl rfl) wiX0_isOfSounds wsX0_isOfSounds wzX0_isOfSounds wcX0_isOfSounds, mfX0_isOfSounds⟩
theorem mfX0_byteAt : MX0_byteAt.1.cls ≠ "java/lang/invoke/MethodHandle" ∧ MX0_byteAt.1.cls ≠ "java/lang/invoke/VarHandle" ∧ (parseMethodDescriptor MX0_byteAt.1.desc).map (fun d => d.parameters.length) = some 1 ∧ MX0_byteAt.2.2.1 ≤ 29 := by decide +kernel
theorem wcX0_byteAt : Cond.code MX0_byteAt.1 MX0_byteAt.2.1 MX0_byteAt.2.2.1 MX0_byteAt.2.2.2 ∈ kbT := kt3 (i := 216) rfl rfl
theorem wzX0_byteAt : Cond.initialized MX0_byteAt.1.cls ∈ kbT := kt1 (i := 2) rfl rfl
theorem wiX0_byteAt : Cond.instanceMethod MX0_byteAt.1 ∈ kbT := kt3 (i := 215) rfl rfl
theorem wsX0_byteAt : Cond.selects MX0_byteAt.1.cls MX0_byteAt.1 MX0_byteAt.1 ∈ kbT := kts (i := 15) rfl
theorem cvX0_122 : kbCV "KnockBook$BookText" 122 MX0_byteAt 1 := ⟨kb_all5 (kt3 (i := 213) rfl rfl) wiX0_byteAt wsX0_byteAt wzX0_byteAt wcX0_byteAt, mfX0_byteAt⟩
theorem cvX0_128 : kbCV "KnockBook$BookText" 128 MX10_find 1 := ⟨kb_all5 (kt4 (i := 135) rfl rfl) wiX10_find wsX10_find wzX10_find wcX10_find, mfX10_find⟩
theorem mfX0_numberTold : MX0_numberTold.1.cls ≠ "java/lang/invoke/MethodHandle" ∧ MX0_numberTold.1.cls ≠ "java/lang/invoke/VarHandle" ∧ (parseMethodDescriptor MX0_numberTold.1.desc).map (fun d => d.parameters.length) = some 0 ∧ MX0_numberTold.2.2.1 ≤ 29 := by decide +kernel
theorem wcX0_numberTold : Cond.code MX0_numberTold.1 MX0_numberTold.2.1 MX0_numberTold.2.2.1 MX0_numberTold.2.2.2 ∈ kbT := kt4 (i := 143) rfl rfl
theorem wzX0_numberTold : Cond.initialized MX0_numberTold.1.cls ∈ kbT := kt1 (i := 2) rfl rfl
theorem wiX0_numberTold : Cond.instanceMethod MX0_numberTold.1 ∈ kbT := kt4 (i := 142) rfl rfl
theorem wsX0_numberTold : Cond.selects MX0_numberTold.1.cls MX0_numberTold.1 MX0_numberTold.1 ∈ kbT := kts (i := 25) rfl
theorem cvX0_136 : kbCV "KnockBook$BookText" 136 MX0_numberTold 0 := ⟨kb_all5 (kt4 (i := 140) rfl rfl) wiX0_numberTold wsX0_numberTold wzX0_numberTold wcX0_numberTold, mfX0_numberTold⟩
theorem mfX0_conjunction : MX0_conjunction.1.cls ≠ "java/lang/invoke/MethodHandle" ∧ MX0_conjunction.1.cls ≠ "java/lang/invoke/VarHandle" ∧ (parseMethodDescriptor MX0_conjunction.1.desc).map (fun d => d.parameters.length) = some 1 ∧ MX0_conjunction.2.2.1 ≤ 29 := by decide +kernel
theorem wcX0_conjunction : Cond.code MX0_conjunction.1 MX0_conjunction.2.1 MX0_conjunction.2.2.1 MX0_conjunction.2.2.2 ∈ kbT := kt4 (i := 172) rfl rfl
theorem wzX0_conjunction : Cond.initialized MX0_conjunction.1.cls ∈ kbT := kt1 (i := 2) rfl rfl
theorem wiX0_conjunction : Cond.instanceMethod MX0_conjunction.1 ∈ kbT := kt4 (i := 171) rfl rfl
theorem wsX0_conjunction : Cond.selects MX0_conjunction.1.cls MX0_conjunction.1 MX0_conjunction.1 ∈ kbT := kts (i := 30) rfl
theorem cvX0_139 : kbCV "KnockBook$BookText" 139 MX0_conjunction 1 := ⟨kb_all5 (kt4 (i := 169) rfl rfl) wiX0_conjunction wsX0_conjunction wzX0_conjunction wcX0_conjunction, mfX0_conjunction⟩
theorem mfX0_emit : MX0_emit.1.cls ≠ "java/lang/invoke/MethodHandle" ∧ MX0_emit.1.cls ≠ "java/lang/invoke/VarHandle" ∧ (parseMethodDescriptor MX0_emit.1.desc).map (fun d => d.parameters.length) = some 1 ∧ MX0_emit.2.2.1 ≤ 29 := by decide +kernel
theorem wcX0_emit : Cond.code MX0_emit.1 MX0_emit.2.1 MX0_emit.2.2.1 MX0_emit.2.2.2 ∈ kbT := kt4 (i := 197) rfl rfl
theorem wzX0_emit : Cond.initialized MX0_emit.1.cls ∈ kbT := kt1 (i := 2) rfl rfl
theorem wiX0_emit : Cond.instanceMethod MX0_emit.1 ∈ kbT := kt4 (i := 196) rfl rfl
theorem wsX0_emit : Cond.selects MX0_emit.1.cls MX0_emit.1 MX0_emit.1 ∈ kbT := kts (i := 36) rfl
theorem cvX0_146 : kbCV "KnockBook$BookText" 146 MX0_emit 1 := ⟨kb_all5 (kt4 (i := 194) rfl rfl) wiX0_emit wsX0_emit wzX0_emit wcX0_emit, mfX0_emit⟩
theorem mfX0_negation : MX0_negation.1.cls ≠ "java/lang/invoke/MethodHandle" ∧ MX0_negation.1.cls ≠ "java/lang/invoke/VarHandle" ∧ (parseMethodDescriptor MX0_negation.1.desc).map (fun d => d.parameters.length) = some 1 ∧ MX0_negation.2.2.1 ≤ 29 := by decide +kernel
theorem wcX0_negation : Cond.code MX0_negation.1 MX0_negation.2.1 MX0_negation.2.2.1 MX0_negation.2.2.2 ∈ kbT := kt4 (i := 176) rfl rfl
theorem wzX0_negation : Cond.initialized MX0_negation.1.cls ∈ kbT := kt1 (i := 2) rfl rfl
theorem wiX0_negation : Cond.instanceMethod MX0_negation.1 ∈ kbT := kt4 (i := 175) rfl rfl
theorem wsX0_negation : Cond.selects MX0_negation.1.cls MX0_negation.1 MX0_negation.1 ∈ kbT := kts (i := 31) rfl
theorem cvX0_149 : kbCV "KnockBook$BookText" 149 MX0_negation 1 := ⟨kb_all5 (kt4 (i := 173) rfl rfl) wiX0_negation wsX0_negation wzX0_negation wcX0_negation, mfX0_negation⟩
theorem mfX0_comparison : MX0_comparison.1.cls ≠ "java/lang/invoke/MethodHandle" ∧ MX0_comparison.1.cls ≠ "java/lang/invoke/VarHandle" ∧ (parseMethodDescriptor MX0_comparison.1.desc).map (fun d => d.parameters.length) = some 1 ∧ MX0_comparison.2.2.1 ≤ 29 := by decide +kernel
theorem wcX0_comparison : Cond.code MX0_comparison.1 MX0_comparison.2.1 MX0_comparison.2.2.1 MX0_comparison.2.2.2 ∈ kbT := kt4 (i := 181) rfl rfl
theorem wzX0_comparison : Cond.initialized MX0_comparison.1.cls ∈ kbT := kt1 (i := 2) rfl rfl
theorem wiX0_comparison : Cond.instanceMethod MX0_comparison.1 ∈ kbT := kt4 (i := 180) rfl rfl
theorem wsX0_comparison : Cond.selects MX0_comparison.1.cls MX0_comparison.1 MX0_comparison.1 ∈ kbT := kts (i := 32) rfl
theorem cvX0_156 : kbCV "KnockBook$BookText" 156 MX0_comparison 1 := ⟨kb_all5 (kt4 (i := 178) rfl rfl) wiX0_comparison wsX0_comparison wzX0_comparison wcX0_comparison, mfX0_comparison⟩
theorem mfX0_sum : MX0_sum.1.cls ≠ "java/lang/invoke/MethodHandle" ∧ MX0_sum.1.cls ≠ "java/lang/invoke/VarHandle" ∧ (parseMethodDescriptor MX0_sum.1.desc).map (fun d => d.parameters.length) = some 1 ∧ MX0_sum.2.2.1 ≤ 29 := by decide +kernel
theorem wcX0_sum : Cond.code MX0_sum.1 MX0_sum.2.1 MX0_sum.2.2.1 MX0_sum.2.2.2 ∈ kbT := kt4 (i := 185) rfl rfl
theorem wzX0_sum : Cond.initialized MX0_sum.1.cls ∈ kbT := kt1 (i := 2) rfl rfl
theorem wiX0_sum : Cond.instanceMethod MX0_sum.1 ∈ kbT := kt4 (i := 184) rfl rfl
theorem wsX0_sum : Cond.selects MX0_sum.1.cls MX0_sum.1 MX0_sum.1 ∈ kbT := kts (i := 33) rfl
theorem cvX0_159 : kbCV "KnockBook$BookText" 159 MX0_sum 1 := ⟨kb_all5 (kt4 (i := 182) rfl rfl) wiX0_sum wsX0_sum wzX0_sum wcX0_sum, mfX0_sum⟩
theorem mfX0_product : MX0_product.1.cls ≠ "java/lang/invoke/MethodHandle" ∧ MX0_product.1.cls ≠ "java/lang/invoke/VarHandle" ∧ (parseMethodDescriptor MX0_product.1.desc).map (fun d => d.parameters.length) = some 1 ∧ MX0_product.2.2.1 ≤ 29 := by decide +kernel
theorem wcX0_product : Cond.code MX0_product.1 MX0_product.2.1 MX0_product.2.2.1 MX0_product.2.2.2 ∈ kbT := kt4 (i := 189) rfl rfl
theorem wzX0_product : Cond.initialized MX0_product.1.cls ∈ kbT := kt1 (i := 2) rfl rfl
theorem wiX0_product : Cond.instanceMethod MX0_product.1 ∈ kbT := kt4 (i := 188) rfl rfl
theorem wsX0_product : Cond.selects MX0_product.1.cls MX0_product.1 MX0_product.1 ∈ kbT := kts (i := 34) rfl
theorem cvX0_162 : kbCV "KnockBook$BookText" 162 MX0_product 1 := ⟨kb_all5 (kt4 (i := 186) rfl rfl) wiX0_product wsX0_product wzX0_product wcX0_product, mfX0_product⟩
theorem mfX0_operand : MX0_operand.1.cls ≠ "java/lang/invoke/MethodHandle" ∧ MX0_operand.1.cls ≠ "java/lang/invoke/VarHandle" ∧ (parseMethodDescriptor MX0_operand.1.desc).map (fun d => d.parameters.length) = some 1 ∧ MX0_operand.2.2.1 ≤ 29 := by decide +kernel
theorem wcX0_operand : Cond.code MX0_operand.1 MX0_operand.2.1 MX0_operand.2.2.1 MX0_operand.2.2.2 ∈ kbT := kt4 (i := 193) rfl rfl
theorem wzX0_operand : Cond.initialized MX0_operand.1.cls ∈ kbT := kt1 (i := 2) rfl rfl
theorem wiX0_operand : Cond.instanceMethod MX0_operand.1 ∈ kbT := kt4 (i := 192) rfl rfl
theorem wsX0_operand : Cond.selects MX0_operand.1.cls MX0_operand.1 MX0_operand.1 ∈ kbT := kts (i := 35) rfl
theorem cvX0_165 : kbCV "KnockBook$BookText" 165 MX0_operand 1 := ⟨kb_all5 (kt4 (i := 190) rfl rfl) wiX0_operand wsX0_operand wzX0_operand wcX0_operand, mfX0_operand⟩
theorem mfX0_valueNamed : MX0_valueNamed.1.cls ≠ "java/lang/invoke/MethodHandle" ∧ MX0_valueNamed.1.cls ≠ "java/lang/invoke/VarHandle" ∧ (parseMethodDescriptor MX0_valueNamed.1.desc).map (fun d => d.parameters.length) = some 0 ∧ MX0_valueNamed.2.2.1 ≤ 29 := by decide +kernel
theorem wcX0_valueNamed : Cond.code MX0_valueNamed.1 MX0_valueNamed.2.1 MX0_valueNamed.2.2.1 MX0_valueNamed.2.2.2 ∈ kbT := kt4 (i := 201) rfl rfl
theorem wzX0_valueNamed : Cond.initialized MX0_valueNamed.1.cls ∈ kbT := kt1 (i := 2) rfl rfl
theorem wiX0_valueNamed : Cond.instanceMethod MX0_valueNamed.1 ∈ kbT := kt4 (i := 200) rfl rfl
theorem wsX0_valueNamed : Cond.selects MX0_valueNamed.1.cls MX0_valueNamed.1 MX0_valueNamed.1 ∈ kbT := kts (i := 37) rfl
theorem cvX0_168 : kbCV "KnockBook$BookText" 168 MX0_valueNamed 0 := ⟨kb_all5 (kt4 (i := 198) rfl rfl) wiX0_valueNamed wsX0_valueNamed wzX0_valueNamed wcX0_valueNamed, mfX0_valueNamed⟩
theorem mfX1_beginsWith : MX1_beginsWith.1.cls ≠ "java/lang/invoke/MethodHandle" ∧ MX1_beginsWith.1.cls ≠ "java/lang/invoke/VarHandle" ∧ (parseMethodDescriptor MX1_beginsWith.1.desc).map (fun d => d.parameters.length) = some 2 ∧ MX1_beginsWith.2.2.1 ≤ 29 := by decide +kernel
theorem wcX1_beginsWith : Cond.code MX1_beginsWith.1 MX1_beginsWith.2.1 MX1_beginsWith.2.2.1 MX1_beginsWith.2.2.2 ∈ kbT := kt3 (i := 11) rfl rfl
theorem wzX1_beginsWith : Cond.initialized MX1_beginsWith.1.cls ∈ kbT := kt1 (i := 9) rfl rfl
theorem wiX1_beginsWith : Cond.instanceMethod MX1_beginsWith.1 ∈ kbT := kt3 (i := 10) rfl rfl
theorem wsX1_beginsWith : Cond.selects MX1_beginsWith.1.cls MX1_beginsWith.1 MX1_beginsWith.1 ∈ kbT := kts (i := 3) rfl
theorem cvX1_29 : kbCV "KnockBook$Codes" 29 MX1_beginsWith 2 := ⟨kb_all5 (kt3 (i := 8) rfl rfl) wiX1_beginsWith wsX1_beginsWith wzX1_beginsWith wcX1_beginsWith, mfX1_beginsWith⟩
theorem mfX1_begin : MX1_begin.1.cls ≠ "java/lang/invoke/MethodHandle" ∧ MX1_begin.1.cls ≠ "java/lang/invoke/VarHandle" ∧ (parseMethodDescriptor MX1_begin.1.desc).map (fun d => d.parameters.length) = some 0 ∧ MX1_begin.2.2.1 ≤ 29 := by decide +kernel
theorem wcX1_begin : Cond.code MX1_begin.1 MX1_begin.2.1 MX1_begin.2.2.1 MX1_begin.2.2.2 ∈ kbT := kt3 (i := 5) rfl rfl
theorem wzX1_begin : Cond.initialized MX1_begin.1.cls ∈ kbT := kt1 (i := 9) rfl rfl
theorem wiX1_begin : Cond.instanceMethod MX1_begin.1 ∈ kbT := kt3 (i := 4) rfl rfl
theorem wsX1_begin : Cond.selects MX1_begin.1.cls MX1_begin.1 MX1_begin.1 ∈ kbT := kts (i := 2) rfl
theorem cvX1_45 : kbCV "KnockBook$Codes" 45 MX1_begin 0 := ⟨kb_all5 (kt3 (i := 2) rfl rfl) wiX1_begin wsX1_begin wzX1_begin wcX1_begin, mfX1_begin⟩
theorem mfX1_shortestLead : MX1_shortestLead.1.cls ≠ "java/lang/invoke/MethodHandle" ∧ MX1_shortestLead.1.cls ≠ "java/lang/invoke/VarHandle" ∧ (parseMethodDescriptor MX1_shortestLead.1.desc).map (fun d => d.parameters.length) = some 0 ∧ MX1_shortestLead.2.2.1 ≤ 29 := by decide +kernel
theorem wcX1_shortestLead : Cond.code MX1_shortestLead.1 MX1_shortestLead.2.1 MX1_shortestLead.2.2.1 MX1_shortestLead.2.2.2 ∈ kbT := kt3 (i := 25) rfl rfl
theorem wzX1_shortestLead : Cond.initialized MX1_shortestLead.1.cls ∈ kbT := kt1 (i := 9) rfl rfl
theorem wiX1_shortestLead : Cond.instanceMethod MX1_shortestLead.1 ∈ kbT := kt3 (i := 24) rfl rfl
theorem wsX1_shortestLead : Cond.selects MX1_shortestLead.1.cls MX1_shortestLead.1 MX1_shortestLead.1 ∈ kbT := kts (i := 5) rfl
theorem cvX1_48 : kbCV "KnockBook$Codes" 48 MX1_shortestLead 0 := ⟨kb_all5 (kt3 (i := 22) rfl rfl) wiX1_shortestLead wsX1_shortestLead wzX1_shortestLead wcX1_shortestLead, mfX1_shortestLead⟩
theorem mfX1_catchUp : MX1_catchUp.1.cls ≠ "java/lang/invoke/MethodHandle" ∧ MX1_catchUp.1.cls ≠ "java/lang/invoke/VarHandle" ∧ (parseMethodDescriptor MX1_catchUp.1.desc).map (fun d => d.parameters.length) = some 1 ∧ MX1_catchUp.2.2.1 ≤ 29 := by decide +kernel
theorem wcX1_catchUp : Cond.code MX1_catchUp.1 MX1_catchUp.2.1 MX1_catchUp.2.2.1 MX1_catchUp.2.2.2 ∈ kbT := kt3 (i := 29) rfl rfl
theorem wzX1_catchUp : Cond.initialized MX1_catchUp.1.cls ∈ kbT := kt1 (i := 9) rfl rfl
theorem wiX1_catchUp : Cond.instanceMethod MX1_catchUp.1 ∈ kbT := kt3 (i := 28) rfl rfl
theorem wsX1_catchUp : Cond.selects MX1_catchUp.1.cls MX1_catchUp.1 MX1_catchUp.1 ∈ kbT := kts (i := 6) rfl
theorem cvX1_52 : kbCV "KnockBook$Codes" 52 MX1_catchUp 1 := ⟨kb_all5 (kt3 (i := 26) rfl rfl) wiX1_catchUp wsX1_catchUp wzX1_catchUp wcX1_catchUp, mfX1_catchUp⟩
theorem mfX1_shorten : MX1_shorten.1.cls ≠ "java/lang/invoke/MethodHandle" ∧ MX1_shorten.1.cls ≠ "java/lang/invoke/VarHandle" ∧ (parseMethodDescriptor MX1_shorten.1.desc).map (fun d => d.parameters.length) = some 3 ∧ MX1_shorten.2.2.1 ≤ 29 := by decide +kernel
theorem wcX1_shorten : Cond.code MX1_shorten.1 MX1_shorten.2.1 MX1_shorten.2.2.1 MX1_shorten.2.2.2 ∈ kbT := kt3 (i := 18) rfl rfl
theorem wzX1_shorten : Cond.initialized MX1_shorten.1.cls ∈ kbT := kt1 (i := 9) rfl rfl
theorem wiX1_shorten : Cond.instanceMethod MX1_shorten.1 ∈ kbT := kt3 (i := 17) rfl rfl
theorem wsX1_shorten : Cond.selects MX1_shorten.1.cls MX1_shorten.1 MX1_shorten.1 ∈ kbT := kts (i := 4) rfl
theorem cvX1_63 : kbCV "KnockBook$Codes" 63 MX1_shorten 3 := ⟨kb_all5 (kt3 (i := 15) rfl rfl) wiX1_shorten wsX1_shorten wzX1_shorten wcX1_shorten, mfX1_shorten⟩
theorem mfX2_throughWood : MX2_throughWood.1.cls ≠ "java/lang/invoke/MethodHandle" ∧ MX2_throughWood.1.cls ≠ "java/lang/invoke/VarHandle" ∧ (parseMethodDescriptor MX2_throughWood.1.desc).map (fun d => d.parameters.length) = some 2 ∧ MX2_throughWood.2.2.1 ≤ 29 := by decide +kernel
theorem wcX2_throughWood : Cond.code MX2_throughWood.1 MX2_throughWood.2.1 MX2_throughWood.2.2.1 MX2_throughWood.2.2.2 ∈ kbT := kt3 (i := 61) rfl rfl
theorem wzX2_throughWood : Cond.initialized MX2_throughWood.1.cls ∈ kbT := kt1 (i := 4) rfl rfl
theorem wiX2_throughWood : Cond.instanceMethod MX2_throughWood.1 ∈ kbT := kt3 (i := 59) rfl rfl
theorem wsX2_throughWood : Cond.selects MX2_throughWood.1.cls MX2_throughWood.1 MX2_throughWood.1 ∈ kbT := kt3 (i := 60) rfl rfl
theorem cvX3_33 : kbCV "KnockBook$House" 33 MX2_throughWood 2 := ⟨kb_all5 (kt3 (i := 58) rfl rfl) wiX2_throughWood wsX2_throughWood wzX2_throughWood wcX2_throughWood, mfX2_throughWood⟩
theorem mfX9_isWet : MX9_isWet.1.cls ≠ "java/lang/invoke/MethodHandle" ∧ MX9_isWet.1.cls ≠ "java/lang/invoke/VarHandle" ∧ (parseMethodDescriptor MX9_isWet.1.desc).map (fun d => d.parameters.length) = some 1 ∧ MX9_isWet.2.2.1 ≤ 29 := by decide +kernel
theorem wcX9_isWet : Cond.code MX9_isWet.1 MX9_isWet.2.1 MX9_isWet.2.2.1 MX9_isWet.2.2.2 ∈ kbT := kt3 (i := 74) rfl rfl
theorem wzX9_isWet : Cond.initialized MX9_isWet.1.cls ∈ kbT := kt1 (i := 5) rfl rfl
theorem wiX9_isWet : Cond.instanceMethod MX9_isWet.1 ∈ kbT := kt3 (i := 72) rfl rfl
theorem wsX9_isWet : Cond.selects MX9_isWet.1.cls MX9_isWet.1 MX9_isWet.1 ∈ kbT := kt3 (i := 73) rfl rfl
theorem cvX3_39 : kbCV "KnockBook$House" 39 MX9_isWet 1 := ⟨kb_all5 (kt3 (i := 71) rfl rfl) wiX9_isWet wsX9_isWet wzX9_isWet wcX9_isWet, mfX9_isWet⟩
theorem mfX2_can : MX2_can.1.cls ≠ "java/lang/invoke/MethodHandle" ∧ MX2_can.1.cls ≠ "java/lang/invoke/VarHandle" ∧ (parseMethodDescriptor MX2_can.1.desc).map (fun d => d.parameters.length) = some 2 ∧ MX2_can.2.2.1 ≤ 29 := by decide +kernel
theorem wcX2_can : Cond.code MX2_can.1 MX2_can.2.1 MX2_can.2.2.1 MX2_can.2.2.2 ∈ kbT := kt5 (i := 45) rfl rfl
theorem wzX2_can : Cond.initialized MX2_can.1.cls ∈ kbT := kt1 (i := 4) rfl rfl
theorem wiX2_can : Cond.instanceMethod MX2_can.1 ∈ kbT := kt5 (i := 43) rfl rfl
theorem wsX2_can : Cond.selects MX2_can.1.cls MX2_can.1 MX2_can.1 ∈ kbT := kt5 (i := 44) rfl rfl
theorem cvX3_53 : kbCV "KnockBook$House" 53 MX2_can 2 := ⟨kb_all5 (kt5 (i := 42) rfl rfl) wiX2_can wsX2_can wzX2_can wcX2_can, mfX2_can⟩
theorem mfX3_can : MX3_can.1.cls ≠ "java/lang/invoke/MethodHandle" ∧ MX3_can.1.cls ≠ "java/lang/invoke/VarHandle" ∧ (parseMethodDescriptor MX3_can.1.desc).map (fun d => d.parameters.length) = some 2 ∧ MX3_can.2.2.1 ≤ 29 := by decide +kernel
theorem wcX3_can : Cond.code MX3_can.1 MX3_can.2.1 MX3_can.2.2.1 MX3_can.2.2.2 ∈ kbT := kt5 (i := 41) rfl rfl
theorem wzX3_can : Cond.initialized MX3_can.1.cls ∈ kbT := kt1 (i := 10) rfl rfl
theorem wiX3_can : Cond.instanceMethod MX3_can.1 ∈ kbT := kt5 (i := 39) rfl rfl
theorem wsX3_can : Cond.selects MX3_can.1.cls MX3_can.1 MX3_can.1 ∈ kbT := kt5 (i := 40) rfl rfl
theorem cvX3_61 : kbCV "KnockBook$House" 61 MX3_can 2 := ⟨kb_all5 (kt5 (i := 38) rfl rfl) wiX3_can wsX3_can wzX3_can wcX3_can, mfX3_can⟩
theorem mfX3_hearWords : MX3_hearWords.1.cls ≠ "java/lang/invoke/MethodHandle" ∧ MX3_hearWords.1.cls ≠ "java/lang/invoke/VarHandle" ∧ (parseMethodDescriptor MX3_hearWords.1.desc).map (fun d => d.parameters.length) = some 1 ∧ MX3_hearWords.2.2.1 ≤ 29 := by decide +kernel
theorem wcX3_hearWords : Cond.code MX3_hearWords.1 MX3_hearWords.2.1 MX3_hearWords.2.2.1 MX3_hearWords.2.2.2 ∈ kbT := kt3 (i := 53) rfl rfl
theorem wzX3_hearWords : Cond.initialized MX3_hearWords.1.cls ∈ kbT := kt1 (i := 10) rfl rfl
theorem wiX3_hearWords : Cond.instanceMethod MX3_hearWords.1 ∈ kbT := kt3 (i := 52) rfl rfl
theorem wsX3_hearWords : Cond.selects MX3_hearWords.1.cls MX3_hearWords.1 MX3_hearWords.1 ∈ kbT := kts (i := 8) rfl
theorem cvX3_63 : kbCV "KnockBook$House" 63 MX3_hearWords 1 := ⟨kb_all5 (kt3 (i := 50) rfl rfl) wiX3_hearWords wsX3_hearWords wzX3_hearWords wcX3_hearWords, mfX3_hearWords⟩
theorem mfX3_soundsAlike : MX3_soundsAlike.1.cls ≠ "java/lang/invoke/MethodHandle" ∧ MX3_soundsAlike.1.cls ≠ "java/lang/invoke/VarHandle" ∧ (parseMethodDescriptor MX3_soundsAlike.1.desc).map (fun d => d.parameters.length) = some 3 ∧ MX3_soundsAlike.2.2.1 ≤ 29 := by decide +kernel
theorem wcX3_soundsAlike : Cond.code MX3_soundsAlike.1 MX3_soundsAlike.2.1 MX3_soundsAlike.2.2.1 MX3_soundsAlike.2.2.2 ∈ kbT := kt3 (i := 86) rfl rfl
theorem wzX3_soundsAlike : Cond.initialized MX3_soundsAlike.1.cls ∈ kbT := kt1 (i := 10) rfl rfl
theorem wiX3_soundsAlike : Cond.instanceMethod MX3_soundsAlike.1 ∈ kbT := kt3 (i := 85) rfl rfl
theorem wsX3_soundsAlike : Cond.selects MX3_soundsAlike.1.cls MX3_soundsAlike.1 MX3_soundsAlike.1 ∈ kbT := kts (i := 10) rfl
theorem cvX3_67 : kbCV "KnockBook$House" 67 MX3_soundsAlike 3 := ⟨kb_all5 (kt3 (i := 83) rfl rfl) wiX3_soundsAlike wsX3_soundsAlike wzX3_soundsAlike wcX3_soundsAlike, mfX3_soundsAlike⟩
theorem mfX3_hearing : MX3_hearing.1.cls ≠ "java/lang/invoke/MethodHandle" ∧ MX3_hearing.1.cls ≠ "java/lang/invoke/VarHandle" ∧ (parseMethodDescriptor MX3_hearing.1.desc).map (fun d => d.parameters.length) = some 2 ∧ MX3_hearing.2.2.1 ≤ 29 := by decide +kernel
theorem wcX3_hearing : Cond.code MX3_hearing.1 MX3_hearing.2.1 MX3_hearing.2.2.1 MX3_hearing.2.2.2 ∈ kbT := kt3 (i := 57) rfl rfl
theorem wzX3_hearing : Cond.initialized MX3_hearing.1.cls ∈ kbT := kt1 (i := 10) rfl rfl
theorem wiX3_hearing : Cond.instanceMethod MX3_hearing.1 ∈ kbT := kt3 (i := 55) rfl rfl
theorem wsX3_hearing : Cond.selects MX3_hearing.1.cls MX3_hearing.1 MX3_hearing.1 ∈ kbT := kt3 (i := 56) rfl rfl
theorem cvX3_71 : kbCV "KnockBook$House" 71 MX3_hearing 2 := ⟨kb_all5 (kt3 (i := 54) rfl rfl) wiX3_hearing wsX3_hearing wzX3_hearing wcX3_hearing, mfX3_hearing⟩
theorem mfX3_hearAll : MX3_hearAll.1.cls ≠ "java/lang/invoke/MethodHandle" ∧ MX3_hearAll.1.cls ≠ "java/lang/invoke/VarHandle" ∧ (parseMethodDescriptor MX3_hearAll.1.desc).map (fun d => d.parameters.length) = some 0 ∧ MX3_hearAll.2.2.1 ≤ 29 := by decide +kernel
theorem wcX3_hearAll : Cond.code MX3_hearAll.1 MX3_hearAll.2.1 MX3_hearAll.2.2.1 MX3_hearAll.2.2.2 ∈ kbT := kt3 (i := 49) rfl rfl
theorem wzX3_hearAll : Cond.initialized MX3_hearAll.1.cls ∈ kbT := kt1 (i := 10) rfl rfl
theorem wiX3_hearAll : Cond.instanceMethod MX3_hearAll.1 ∈ kbT := kt3 (i := 48) rfl rfl
theorem wsX3_hearAll : Cond.selects MX3_hearAll.1.cls MX3_hearAll.1 MX3_hearAll.1 ∈ kbT := kts (i := 7) rfl
theorem cvX3_74 : kbCV "KnockBook$House" 74 MX3_hearAll 0 := ⟨kb_all5 (kt3 (i := 46) rfl rfl) wiX3_hearAll wsX3_hearAll wzX3_hearAll wcX3_hearAll, mfX3_hearAll⟩
theorem mfX3_layTelling : MX3_layTelling.1.cls ≠ "java/lang/invoke/MethodHandle" ∧ MX3_layTelling.1.cls ≠ "java/lang/invoke/VarHandle" ∧ (parseMethodDescriptor MX3_layTelling.1.desc).map (fun d => d.parameters.length) = some 0 ∧ MX3_layTelling.2.2.1 ≤ 29 := by decide +kernel
theorem wcX3_layTelling : Cond.code MX3_layTelling.1 MX3_layTelling.2.1 MX3_layTelling.2.2.1 MX3_layTelling.2.2.2 ∈ kbT := kt3 (i := 82) rfl rfl
theorem wzX3_layTelling : Cond.initialized MX3_layTelling.1.cls ∈ kbT := kt1 (i := 10) rfl rfl
theorem wiX3_layTelling : Cond.instanceMethod MX3_layTelling.1 ∈ kbT := kt3 (i := 81) rfl rfl
theorem wsX3_layTelling : Cond.selects MX3_layTelling.1.cls MX3_layTelling.1 MX3_layTelling.1 ∈ kbT := kts (i := 9) rfl
theorem cvX3_77 : kbCV "KnockBook$House" 77 MX3_layTelling 0 := ⟨kb_all5 (kt3 (i := 79) rfl rfl) wiX3_layTelling wsX3_layTelling wzX3_layTelling wcX3_layTelling, mfX3_layTelling⟩
theorem mfX3_tellsAll : MX3_tellsAll.1.cls ≠ "java/lang/invoke/MethodHandle" ∧ MX3_tellsAll.1.cls ≠ "java/lang/invoke/VarHandle" ∧ (parseMethodDescriptor MX3_tellsAll.1.desc).map (fun d => d.parameters.length) = some 2 ∧ MX3_tellsAll.2.2.1 ≤ 29 := by decide +kernel
theorem wcX3_tellsAll : Cond.code MX3_tellsAll.1 MX3_tellsAll.2.1 MX3_tellsAll.2.2.1 MX3_tellsAll.2.2.2 ∈ kbT := kt3 (i := 96) rfl rfl
theorem wzX3_tellsAll : Cond.initialized MX3_tellsAll.1.cls ∈ kbT := kt1 (i := 10) rfl rfl
theorem wiX3_tellsAll : Cond.instanceMethod MX3_tellsAll.1 ∈ kbT := kt3 (i := 95) rfl rfl
theorem wsX3_tellsAll : Cond.selects MX3_tellsAll.1.cls MX3_tellsAll.1 MX3_tellsAll.1 ∈ kbT := kts (i := 11) rfl
theorem cvX3_87 : kbCV "KnockBook$House" 87 MX3_tellsAll 2 := ⟨kb_all5 (kt3 (i := 93) rfl rfl) wiX3_tellsAll wsX3_tellsAll wzX3_tellsAll wcX3_tellsAll, mfX3_tellsAll⟩
theorem mfX3_commonHand : MX3_commonHand.1.cls ≠ "java/lang/invoke/MethodHandle" ∧ MX3_commonHand.1.cls ≠ "java/lang/invoke/VarHandle" ∧ (parseMethodDescriptor MX3_commonHand.1.desc).map (fun d => d.parameters.length) = some 1 ∧ MX3_commonHand.2.2.1 ≤ 29 := by decide +kernel
theorem wcX3_commonHand : Cond.code MX3_commonHand.1 MX3_commonHand.2.1 MX3_commonHand.2.2.1 MX3_commonHand.2.2.2 ∈ kbT := kt6 (i := 25) rfl rfl
theorem wzX3_commonHand : Cond.initialized MX3_commonHand.1.cls ∈ kbT := kt1 (i := 10) rfl rfl
theorem wiX3_commonHand : Cond.instanceMethod MX3_commonHand.1 ∈ kbT := kt6 (i := 24) rfl rfl
theorem wsX3_commonHand : Cond.selects MX3_commonHand.1.cls MX3_commonHand.1 MX3_commonHand.1 ∈ kbT := kts (i := 50) rfl
theorem cvX3_90 : kbCV "KnockBook$House" 90 MX3_commonHand 1 := ⟨kb_all5 (kt6 (i := 22) rfl rfl) wiX3_commonHand wsX3_commonHand wzX3_commonHand wcX3_commonHand, mfX3_commonHand⟩
theorem cvX3_102 : kbCV "KnockBook$House" 102 MX10_find 1 := ⟨kb_all5 (kt6 (i := 29) rfl rfl) wiX10_find wsX10_find wzX10_find wcX10_find, mfX10_find⟩
theorem mfX3_isHeardAnew : MX3_isHeardAnew.1.cls ≠ "java/lang/invoke/MethodHandle" ∧ MX3_isHeardAnew.1.cls ≠ "java/lang/invoke/VarHandle" ∧ (parseMethodDescriptor MX3_isHeardAnew.1.desc).map (fun d => d.parameters.length) = some 1 ∧ MX3_isHeardAnew.2.2.1 ≤ 29 := by decide +kernel
theorem wcX3_isHeardAnew : Cond.code MX3_isHeardAnew.1 MX3_isHeardAnew.2.1 MX3_isHeardAnew.2.2.1 MX3_isHeardAnew.2.2.2 ∈ kbT := kt6 (i := 33) rfl rfl
theorem wzX3_isHeardAnew : Cond.initialized MX3_isHeardAnew.1.cls ∈ kbT := kt1 (i := 10) rfl rfl
theorem wiX3_isHeardAnew : Cond.instanceMethod MX3_isHeardAnew.1 ∈ kbT := kt6 (i := 32) rfl rfl
theorem wsX3_isHeardAnew : Cond.selects MX3_isHeardAnew.1.cls MX3_isHeardAnew.1 MX3_isHeardAnew.1 ∈ kbT := kts (i := 51) rfl
theorem cvX3_105 : kbCV "KnockBook$House" 105 MX3_isHeardAnew 1 := ⟨kb_all5 (kt6 (i := 30) rfl rfl) wiX3_isHeardAnew wsX3_isHeardAnew wzX3_isHeardAnew wcX3_isHeardAnew, mfX3_isHeardAnew⟩
theorem mfX3_agreesWithHeard : MX3_agreesWithHeard.1.cls ≠ "java/lang/invoke/MethodHandle" ∧ MX3_agreesWithHeard.1.cls ≠ "java/lang/invoke/VarHandle" ∧ (parseMethodDescriptor MX3_agreesWithHeard.1.desc).map (fun d => d.parameters.length) = some 1 ∧ MX3_agreesWithHeard.2.2.1 ≤ 29 := by decide +kernel
theorem wcX3_agreesWithHeard : Cond.code MX3_agreesWithHeard.1 MX3_agreesWithHeard.2.1 MX3_agreesWithHeard.2.2.1 MX3_agreesWithHeard.2.2.2 ∈ kbT := kt3 (i := 108) rfl rfl
theorem wzX3_agreesWithHeard : Cond.initialized MX3_agreesWithHeard.1.cls ∈ kbT := kt1 (i := 10) rfl rfl
theorem wiX3_agreesWithHeard : Cond.instanceMethod MX3_agreesWithHeard.1 ∈ kbT := kt3 (i := 107) rfl rfl
theorem wsX3_agreesWithHeard : Cond.selects MX3_agreesWithHeard.1.cls MX3_agreesWithHeard.1 MX3_agreesWithHeard.1 ∈ kbT := kts (i := 12) rfl
theorem cvX3_111 : kbCV "KnockBook$House" 111 MX3_agreesWithHeard 1 := ⟨kb_all5 (kt3 (i := 105) rfl rfl) wiX3_agreesWithHeard wsX3_agreesWithHeard wzX3_agreesWithHeard wcX3_agreesWithHeard, mfX3_agreesWithHeard⟩
theorem mfX3_unlike : MX3_unlike.1.cls ≠ "java/lang/invoke/MethodHandle" ∧ MX3_unlike.1.cls ≠ "java/lang/invoke/VarHandle" ∧ (parseMethodDescriptor MX3_unlike.1.desc).map (fun d => d.parameters.length) = some 2 ∧ MX3_unlike.2.2.1 ≤ 29 := by decide +kernel
theorem wcX3_unlike : Cond.code MX3_unlike.1 MX3_unlike.2.1 MX3_unlike.2.2.1 MX3_unlike.2.2.2 ∈ kbT := kt6 (i := 106) rfl rfl
theorem wzX3_unlike : Cond.initialized MX3_unlike.1.cls ∈ kbT := kt1 (i := 10) rfl rfl
theorem wiX3_unlike : Cond.instanceMethod MX3_unlike.1 ∈ kbT := kt6 (i := 104) rfl rfl
theorem wsX3_unlike : Cond.selects MX3_unlike.1.cls MX3_unlike.1 MX3_unlike.1 ∈ kbT := kt6 (i := 105) rfl rfl
theorem cvX3_123 : kbCV "KnockBook$House" 123 MX3_unlike 2 := ⟨kb_all5 (kt6 (i := 103) rfl rfl) wiX3_unlike wsX3_unlike wzX3_unlike wcX3_unlike, mfX3_unlike⟩
theorem cvX4_41 : kbCV "KnockBook$Joins" 41 MX4_renew 0 := ⟨kb_all5 (kt4 (i := 229) rfl rfl) wiX4_renew wsX4_renew wzX4_renew wcX4_renew, mfX4_renew⟩
theorem mfX4_value : MX4_value.1.cls ≠ "java/lang/invoke/MethodHandle" ∧ MX4_value.1.cls ≠ "java/lang/invoke/VarHandle" ∧ (parseMethodDescriptor MX4_value.1.desc).map (fun d => d.parameters.length) = some 2 ∧ MX4_value.2.2.1 ≤ 29 := by decide +kernel
theorem wcX4_value : Cond.code MX4_value.1 MX4_value.2.1 MX4_value.2.2.1 MX4_value.2.2.2 ∈ kbT := kt5 (i := 113) rfl rfl
theorem wzX4_value : Cond.initialized MX4_value.1.cls ∈ kbT := kt1 (i := 6) rfl rfl
theorem wiX4_value : Cond.instanceMethod MX4_value.1 ∈ kbT := kt5 (i := 112) rfl rfl
theorem wsX4_value : Cond.selects MX4_value.1.cls MX4_value.1 MX4_value.1 ∈ kbT := kts (i := 42) rfl
theorem cvX4_50 : kbCV "KnockBook$Joins" 50 MX4_value 2 := ⟨kb_all5 (kt5 (i := 110) rfl rfl) wiX4_value wsX4_value wzX4_value wcX4_value, mfX4_value⟩
theorem mfX4_valueOf : MX4_valueOf.1.cls ≠ "java/lang/invoke/MethodHandle" ∧ MX4_valueOf.1.cls ≠ "java/lang/invoke/VarHandle" ∧ (parseMethodDescriptor MX4_valueOf.1.desc).map (fun d => d.parameters.length) = some 3 ∧ MX4_valueOf.2.2.1 ≤ 29 := by decide +kernel
theorem wcX4_valueOf : Cond.code MX4_valueOf.1 MX4_valueOf.2.1 MX4_valueOf.2.2.1 MX4_valueOf.2.2.2 ∈ kbT := kt5 (i := 117) rfl rfl
theorem wzX4_valueOf : Cond.initialized MX4_valueOf.1.cls ∈ kbT := kt1 (i := 6) rfl rfl
theorem wiX4_valueOf : Cond.instanceMethod MX4_valueOf.1 ∈ kbT := kt5 (i := 116) rfl rfl
theorem wsX4_valueOf : Cond.selects MX4_valueOf.1.cls MX4_valueOf.1 MX4_valueOf.1 ∈ kbT := kts (i := 43) rfl
theorem cvX4_53 : kbCV "KnockBook$Joins" 53 MX4_valueOf 3 := ⟨kb_all5 (kt5 (i := 114) rfl rfl) wiX4_valueOf wsX4_valueOf wzX4_valueOf wcX4_valueOf, mfX4_valueOf⟩
theorem cvX5_39 : kbCV "KnockBook$Play" 39 MX3_can 2 := ⟨kb_all5 (kt6 (i := 119) rfl rfl) wiX3_can wsX3_can wzX3_can wcX3_can, mfX3_can⟩
theorem mfX5_isUnderstood : MX5_isUnderstood.1.cls ≠ "java/lang/invoke/MethodHandle" ∧ MX5_isUnderstood.1.cls ≠ "java/lang/invoke/VarHandle" ∧ (parseMethodDescriptor MX5_isUnderstood.1.desc).map (fun d => d.parameters.length) = some 2 ∧ MX5_isUnderstood.2.2.1 ≤ 29 := by decide +kernel
theorem wcX5_isUnderstood : Cond.code MX5_isUnderstood.1 MX5_isUnderstood.2.1 MX5_isUnderstood.2.2.1 MX5_isUnderstood.2.2.2 ∈ kbT := kt6 (i := 123) rfl rfl
theorem wzX5_isUnderstood : Cond.initialized MX5_isUnderstood.1.cls ∈ kbT := kt1 (i := 11) rfl rfl
theorem wiX5_isUnderstood : Cond.instanceMethod MX5_isUnderstood.1 ∈ kbT := kt6 (i := 122) rfl rfl
theorem wsX5_isUnderstood : Cond.selects MX5_isUnderstood.1.cls MX5_isUnderstood.1 MX5_isUnderstood.1 ∈ kbT := kts (i := 54) rfl
theorem cvX5_43 : kbCV "KnockBook$Play" 43 MX5_isUnderstood 2 := ⟨kb_all5 (kt6 (i := 120) rfl rfl) wiX5_isUnderstood wsX5_isUnderstood wzX5_isUnderstood wcX5_isUnderstood, mfX5_isUnderstood⟩
theorem cvX5_49 : kbCV "KnockBook$Play" 49 MX3_hearing 2 := ⟨kb_all5 (kt6 (i := 124) rfl rfl) wiX3_hearing wsX3_hearing wzX3_hearing wcX3_hearing, mfX3_hearing⟩
theorem mfX7_nearestWord : MX7_nearestWord.1.cls ≠ "java/lang/invoke/MethodHandle" ∧ MX7_nearestWord.1.cls ≠ "java/lang/invoke/VarHandle" ∧ (parseMethodDescriptor MX7_nearestWord.1.desc).map (fun d => d.parameters.length) = some 1 ∧ MX7_nearestWord.2.2.1 ≤ 29 := by decide +kernel
theorem wcX7_nearestWord : Cond.code MX7_nearestWord.1 MX7_nearestWord.2.1 MX7_nearestWord.2.2.1 MX7_nearestWord.2.2.2 ∈ kbT := kt5 (i := 175) rfl rfl
theorem wzX7_nearestWord : Cond.initialized MX7_nearestWord.1.cls ∈ kbT := kt1 (i := 7) rfl rfl
theorem wiX7_nearestWord : Cond.instanceMethod MX7_nearestWord.1 ∈ kbT := kt5 (i := 173) rfl rfl
theorem wsX7_nearestWord : Cond.selects MX7_nearestWord.1.cls MX7_nearestWord.1 MX7_nearestWord.1 ∈ kbT := kt5 (i := 174) rfl rfl
theorem cvX5_53 : kbCV "KnockBook$Play" 53 MX7_nearestWord 1 := ⟨kb_all5 (kt6 (i := 125) rfl rfl) wiX7_nearestWord wsX7_nearestWord wzX7_nearestWord wcX7_nearestWord, mfX7_nearestWord⟩
theorem mfX5_layGains : MX5_layGains.1.cls ≠ "java/lang/invoke/MethodHandle" ∧ MX5_layGains.1.cls ≠ "java/lang/invoke/VarHandle" ∧ (parseMethodDescriptor MX5_layGains.1.desc).map (fun d => d.parameters.length) = some 3 ∧ MX5_layGains.2.2.1 ≤ 29 := by decide +kernel
theorem wcX5_layGains : Cond.code MX5_layGains.1 MX5_layGains.2.1 MX5_layGains.2.2.1 MX5_layGains.2.2.2 ∈ kbT := kt6 (i := 141) rfl rfl
theorem wzX5_layGains : Cond.initialized MX5_layGains.1.cls ∈ kbT := kt1 (i := 11) rfl rfl
theorem wiX5_layGains : Cond.instanceMethod MX5_layGains.1 ∈ kbT := kt6 (i := 140) rfl rfl
theorem wsX5_layGains : Cond.selects MX5_layGains.1.cls MX5_layGains.1 MX5_layGains.1 ∈ kbT := kts (i := 55) rfl
theorem cvX5_59 : kbCV "KnockBook$Play" 59 MX5_layGains 3 := ⟨kb_all5 (kt6 (i := 138) rfl rfl) wiX5_layGains wsX5_layGains wzX5_layGains wcX5_layGains, mfX5_layGains⟩
theorem mfX5_rests : MX5_rests.1.cls ≠ "java/lang/invoke/MethodHandle" ∧ MX5_rests.1.cls ≠ "java/lang/invoke/VarHandle" ∧ (parseMethodDescriptor MX5_rests.1.desc).map (fun d => d.parameters.length) = some 3 ∧ MX5_rests.2.2.1 ≤ 29 := by decide +kernel
theorem wcX5_rests : Cond.code MX5_rests.1 MX5_rests.2.1 MX5_rests.2.2.1 MX5_rests.2.2.2 ∈ kbT := kt6 (i := 145) rfl rfl
theorem wzX5_rests : Cond.initialized MX5_rests.1.cls ∈ kbT := kt1 (i := 11) rfl rfl
theorem wiX5_rests : Cond.instanceMethod MX5_rests.1 ∈ kbT := kt6 (i := 144) rfl rfl
theorem wsX5_rests : Cond.selects MX5_rests.1.cls MX5_rests.1 MX5_rests.1 ∈ kbT := kts (i := 56) rfl
theorem cvX5_69 : kbCV "KnockBook$Play" 69 MX5_rests 3 := ⟨kb_all5 (kt6 (i := 142) rfl rfl) wiX5_rests wsX5_rests wzX5_rests wcX5_rests, mfX5_rests⟩
theorem mfX5_draw : MX5_draw.1.cls ≠ "java/lang/invoke/MethodHandle" ∧ MX5_draw.1.cls ≠ "java/lang/invoke/VarHandle" ∧ (parseMethodDescriptor MX5_draw.1.desc).map (fun d => d.parameters.length) = some 1 ∧ MX5_draw.2.2.1 ≤ 29 := by decide +kernel
theorem wcX5_draw : Cond.code MX5_draw.1 MX5_draw.2.1 MX5_draw.2.2.1 MX5_draw.2.2.2 ∈ kbT := kt6 (i := 164) rfl rfl
theorem wzX5_draw : Cond.initialized MX5_draw.1.cls ∈ kbT := kt1 (i := 11) rfl rfl
theorem wiX5_draw : Cond.instanceMethod MX5_draw.1 ∈ kbT := kt6 (i := 163) rfl rfl
theorem wsX5_draw : Cond.selects MX5_draw.1.cls MX5_draw.1 MX5_draw.1 ∈ kbT := kts (i := 57) rfl
theorem cvX5_99 : kbCV "KnockBook$Play" 99 MX5_draw 1 := ⟨kb_all5 (kt6 (i := 161) rfl rfl) wiX5_draw wsX5_draw wzX5_draw wcX5_draw, mfX5_draw⟩
theorem mfX7_stepsFromLeft : MX7_stepsFromLeft.1.cls ≠ "java/lang/invoke/MethodHandle" ∧ MX7_stepsFromLeft.1.cls ≠ "java/lang/invoke/VarHandle" ∧ (parseMethodDescriptor MX7_stepsFromLeft.1.desc).map (fun d => d.parameters.length) = some 2 ∧ MX7_stepsFromLeft.2.2.1 ≤ 29 := by decide +kernel
theorem wcX7_stepsFromLeft : Cond.code MX7_stepsFromLeft.1 MX7_stepsFromLeft.2.1 MX7_stepsFromLeft.2.2.1 MX7_stepsFromLeft.2.2.2 ∈ kbT := kt5 (i := 164) rfl rfl
theorem wzX7_stepsFromLeft : Cond.initialized MX7_stepsFromLeft.1.cls ∈ kbT := kt1 (i := 7) rfl rfl
theorem wiX7_stepsFromLeft : Cond.instanceMethod MX7_stepsFromLeft.1 ∈ kbT := kt5 (i := 163) rfl rfl
theorem wsX7_stepsFromLeft : Cond.selects MX7_stepsFromLeft.1.cls MX7_stepsFromLeft.1 MX7_stepsFromLeft.1 ∈ kbT := kts (i := 45) rfl
theorem cvX7_31 : kbCV "KnockBook$Ruler" 31 MX7_stepsFromLeft 2 := ⟨kb_all5 (kt5 (i := 161) rfl rfl) wiX7_stepsFromLeft wsX7_stepsFromLeft wzX7_stepsFromLeft wcX7_stepsFromLeft, mfX7_stepsFromLeft⟩
theorem mfX8_layWord : MX8_layWord.1.cls ≠ "java/lang/invoke/MethodHandle" ∧ MX8_layWord.1.cls ≠ "java/lang/invoke/VarHandle" ∧ (parseMethodDescriptor MX8_layWord.1.desc).map (fun d => d.parameters.length) = some 4 ∧ MX8_layWord.2.2.1 ≤ 29 := by decide +kernel
theorem wcX8_layWord : Cond.code MX8_layWord.1 MX8_layWord.2.1 MX8_layWord.2.2.1 MX8_layWord.2.2.2 ∈ kbT := kt5 (i := 104) rfl rfl
theorem wzX8_layWord : Cond.initialized MX8_layWord.1.cls ∈ kbT := kt1 (i := 8) rfl rfl
theorem wiX8_layWord : Cond.instanceMethod MX8_layWord.1 ∈ kbT := kt5 (i := 103) rfl rfl
theorem wsX8_layWord : Cond.selects MX8_layWord.1.cls MX8_layWord.1 MX8_layWord.1 ∈ kbT := kts (i := 41) rfl
theorem cvX8_45 : kbCV "KnockBook$Speech" 45 MX8_layWord 4 := ⟨kb_all5 (kt5 (i := 101) rfl rfl) wiX8_layWord wsX8_layWord wzX8_layWord wcX8_layWord, mfX8_layWord⟩
theorem mfX4_mayFollow : MX4_mayFollow.1.cls ≠ "java/lang/invoke/MethodHandle" ∧ MX4_mayFollow.1.cls ≠ "java/lang/invoke/VarHandle" ∧ (parseMethodDescriptor MX4_mayFollow.1.desc).map (fun d => d.parameters.length) = some 2 ∧ MX4_mayFollow.2.2.1 ≤ 29 := by decide +kernel
theorem wcX4_mayFollow : Cond.code MX4_mayFollow.1 MX4_mayFollow.2.1 MX4_mayFollow.2.2.1 MX4_mayFollow.2.2.2 ∈ kbT := kt5 (i := 109) rfl rfl
theorem wzX4_mayFollow : Cond.initialized MX4_mayFollow.1.cls ∈ kbT := kt1 (i := 6) rfl rfl
theorem wiX4_mayFollow : Cond.instanceMethod MX4_mayFollow.1 ∈ kbT := kt5 (i := 107) rfl rfl
theorem wsX4_mayFollow : Cond.selects MX4_mayFollow.1.cls MX4_mayFollow.1 MX4_mayFollow.1 ∈ kbT := kt5 (i := 108) rfl rfl
theorem cvX8_58 : kbCV "KnockBook$Speech" 58 MX4_mayFollow 2 := ⟨kb_all5 (kt5 (i := 106) rfl rfl) wiX4_mayFollow wsX4_mayFollow wzX4_mayFollow wcX4_mayFollow, mfX4_mayFollow⟩
theorem mfX8_fewestLaid : MX8_fewestLaid.1.cls ≠ "java/lang/invoke/MethodHandle" ∧ MX8_fewestLaid.1.cls ≠ "java/lang/invoke/VarHandle" ∧ (parseMethodDescriptor MX8_fewestLaid.1.desc).map (fun d => d.parameters.length) = some 0 ∧ MX8_fewestLaid.2.2.1 ≤ 29 := by decide +kernel
theorem wcX8_fewestLaid : Cond.code MX8_fewestLaid.1 MX8_fewestLaid.2.1 MX8_fewestLaid.2.2.1 MX8_fewestLaid.2.2.2 ∈ kbT := kt5 (i := 129) rfl rfl
theorem wzX8_fewestLaid : Cond.initialized MX8_fewestLaid.1.cls ∈ kbT := kt1 (i := 8) rfl rfl
theorem wiX8_fewestLaid : Cond.instanceMethod MX8_fewestLaid.1 ∈ kbT := kt5 (i := 127) rfl rfl
theorem wsX8_fewestLaid : Cond.selects MX8_fewestLaid.1.cls MX8_fewestLaid.1 MX8_fewestLaid.1 ∈ kbT := kt5 (i := 128) rfl rfl
theorem cvX8_70 : kbCV "KnockBook$Speech" 70 MX8_fewestLaid 0 := ⟨kb_all5 (kt5 (i := 142) rfl rfl) wiX8_fewestLaid wsX8_fewestLaid wzX8_fewestLaid wcX8_fewestLaid, mfX8_fewestLaid⟩
theorem mfX8_firstLaid : MX8_firstLaid.1.cls ≠ "java/lang/invoke/MethodHandle" ∧ MX8_firstLaid.1.cls ≠ "java/lang/invoke/VarHandle" ∧ (parseMethodDescriptor MX8_firstLaid.1.desc).map (fun d => d.parameters.length) = some 3 ∧ MX8_firstLaid.2.2.1 ≤ 29 := by decide +kernel
theorem wcX8_firstLaid : Cond.code MX8_firstLaid.1 MX8_firstLaid.2.1 MX8_firstLaid.2.2.1 MX8_firstLaid.2.2.2 ∈ kbT := kt5 (i := 146) rfl rfl
theorem wzX8_firstLaid : Cond.initialized MX8_firstLaid.1.cls ∈ kbT := kt1 (i := 8) rfl rfl
theorem wiX8_firstLaid : Cond.instanceMethod MX8_firstLaid.1 ∈ kbT := kt5 (i := 145) rfl rfl
theorem wsX8_firstLaid : Cond.selects MX8_firstLaid.1.cls MX8_firstLaid.1 MX8_firstLaid.1 ∈ kbT := kts (i := 44) rfl
theorem cvX8_74 : kbCV "KnockBook$Speech" 74 MX8_firstLaid 3 := ⟨kb_all5 (kt5 (i := 143) rfl rfl) wiX8_firstLaid wsX8_firstLaid wzX8_firstLaid wcX8_firstLaid, mfX8_firstLaid⟩
theorem mfX8_countRows : MX8_countRows.1.cls ≠ "java/lang/invoke/MethodHandle" ∧ MX8_countRows.1.cls ≠ "java/lang/invoke/VarHandle" ∧ (parseMethodDescriptor MX8_countRows.1.desc).map (fun d => d.parameters.length) = some 2 ∧ MX8_countRows.2.2.1 ≤ 29 := by decide +kernel
theorem wcX8_countRows : Cond.code MX8_countRows.1 MX8_countRows.2.1 MX8_countRows.2.2.1 MX8_countRows.2.2.2 ∈ kbT := kt6 (i := 84) rfl rfl
theorem wzX8_countRows : Cond.initialized MX8_countRows.1.cls ∈ kbT := kt1 (i := 8) rfl rfl
theorem wiX8_countRows : Cond.instanceMethod MX8_countRows.1 ∈ kbT := kt6 (i := 83) rfl rfl
theorem wsX8_countRows : Cond.selects MX8_countRows.1.cls MX8_countRows.1 MX8_countRows.1 ∈ kbT := kts (i := 53) rfl
theorem cvX8_78 : kbCV "KnockBook$Speech" 78 MX8_countRows 2 := ⟨kb_all5 (kt6 (i := 81) rfl rfl) wiX8_countRows wsX8_countRows wzX8_countRows wcX8_countRows, mfX8_countRows⟩
theorem mfX8_layWorth : MX8_layWorth.1.cls ≠ "java/lang/invoke/MethodHandle" ∧ MX8_layWorth.1.cls ≠ "java/lang/invoke/VarHandle" ∧ (parseMethodDescriptor MX8_layWorth.1.desc).map (fun d => d.parameters.length) = some 2 ∧ MX8_layWorth.2.2.1 ≤ 29 := by decide +kernel
theorem wcX8_layWorth : Cond.code MX8_layWorth.1 MX8_layWorth.2.1 MX8_layWorth.2.2.1 MX8_layWorth.2.2.2 ∈ kbT := kt6 (i := 67) rfl rfl
theorem wzX8_layWorth : Cond.initialized MX8_layWorth.1.cls ∈ kbT := kt1 (i := 8) rfl rfl
theorem wiX8_layWorth : Cond.instanceMethod MX8_layWorth.1 ∈ kbT := kt6 (i := 66) rfl rfl
theorem wsX8_layWorth : Cond.selects MX8_layWorth.1.cls MX8_layWorth.1 MX8_layWorth.1 ∈ kbT := kts (i := 52) rfl
theorem cvX8_82 : kbCV "KnockBook$Speech" 82 MX8_layWorth 2 := ⟨kb_all5 (kt6 (i := 64) rfl rfl) wiX8_layWorth wsX8_layWorth wzX8_layWorth wcX8_layWorth, mfX8_layWorth⟩
theorem mfX8_sayMore : MX8_sayMore.1.cls ≠ "java/lang/invoke/MethodHandle" ∧ MX8_sayMore.1.cls ≠ "java/lang/invoke/VarHandle" ∧ (parseMethodDescriptor MX8_sayMore.1.desc).map (fun d => d.parameters.length) = some 0 ∧ MX8_sayMore.2.2.1 ≤ 29 := by decide +kernel
theorem wcX8_sayMore : Cond.code MX8_sayMore.1 MX8_sayMore.2.1 MX8_sayMore.2.2.1 MX8_sayMore.2.2.2 ∈ kbT := kt5 (i := 233) rfl rfl
theorem wzX8_sayMore : Cond.initialized MX8_sayMore.1.cls ∈ kbT := kt1 (i := 8) rfl rfl
theorem wiX8_sayMore : Cond.instanceMethod MX8_sayMore.1 ∈ kbT := kt5 (i := 232) rfl rfl
theorem wsX8_sayMore : Cond.selects MX8_sayMore.1.cls MX8_sayMore.1 MX8_sayMore.1 ∈ kbT := kts (i := 46) rfl
theorem cvX8_102 : kbCV "KnockBook$Speech" 102 MX8_sayMore 0 := ⟨kb_all5 (kt5 (i := 230) rfl rfl) wiX8_sayMore wsX8_sayMore wzX8_sayMore wcX8_sayMore, mfX8_sayMore⟩
theorem mfX8_passSound : MX8_passSound.1.cls ≠ "java/lang/invoke/MethodHandle" ∧ MX8_passSound.1.cls ≠ "java/lang/invoke/VarHandle" ∧ (parseMethodDescriptor MX8_passSound.1.desc).map (fun d => d.parameters.length) = some 1 ∧ MX8_passSound.2.2.1 ≤ 29 := by decide +kernel
theorem wcX8_passSound : Cond.code MX8_passSound.1 MX8_passSound.2.1 MX8_passSound.2.2.1 MX8_passSound.2.2.2 ∈ kbT := kt6 (i := 5) rfl rfl
theorem wzX8_passSound : Cond.initialized MX8_passSound.1.cls ∈ kbT := kt1 (i := 8) rfl rfl
theorem wiX8_passSound : Cond.instanceMethod MX8_passSound.1 ∈ kbT := kt6 (i := 4) rfl rfl
theorem wsX8_passSound : Cond.selects MX8_passSound.1.cls MX8_passSound.1 MX8_passSound.1 ∈ kbT := kts (i := 49) rfl
theorem cvX8_105 : kbCV "KnockBook$Speech" 105 MX8_passSound 1 := ⟨kb_all5 (kt6 (i := 2) rfl rfl) wiX8_passSound wsX8_passSound wzX8_passSound wcX8_passSound, mfX8_passSound⟩
theorem mfX8_saySounds : MX8_saySounds.1.cls ≠ "java/lang/invoke/MethodHandle" ∧ MX8_saySounds.1.cls ≠ "java/lang/invoke/VarHandle" ∧ (parseMethodDescriptor MX8_saySounds.1.desc).map (fun d => d.parameters.length) = some 1 ∧ MX8_saySounds.2.2.1 ≤ 29 := by decide +kernel
theorem wcX8_saySounds : Cond.code MX8_saySounds.1 MX8_saySounds.2.1 MX8_saySounds.2.2.1 MX8_saySounds.2.2.2 ∈ kbT := kt5 (i := 237) rfl rfl
theorem wzX8_saySounds : Cond.initialized MX8_saySounds.1.cls ∈ kbT := kt1 (i := 8) rfl rfl
theorem wiX8_saySounds : Cond.instanceMethod MX8_saySounds.1 ∈ kbT := kt5 (i := 236) rfl rfl
theorem wsX8_saySounds : Cond.selects MX8_saySounds.1.cls MX8_saySounds.1 MX8_saySounds.1 ∈ kbT := kts (i := 47) rfl
theorem cvX8_112 : kbCV "KnockBook$Speech" 112 MX8_saySounds 1 := ⟨kb_all5 (kt5 (i := 234) rfl rfl) wiX8_saySounds wsX8_saySounds wzX8_saySounds wcX8_saySounds, mfX8_saySounds⟩
theorem mfX8_beginBehind : MX8_beginBehind.1.cls ≠ "java/lang/invoke/MethodHandle" ∧ MX8_beginBehind.1.cls ≠ "java/lang/invoke/VarHandle" ∧ (parseMethodDescriptor MX8_beginBehind.1.desc).map (fun d => d.parameters.length) = some 1 ∧ MX8_beginBehind.2.2.1 ≤ 29 := by decide +kernel
theorem wcX8_beginBehind : Cond.code MX8_beginBehind.1 MX8_beginBehind.2.1 MX8_beginBehind.2.2.1 MX8_beginBehind.2.2.2 ∈ kbT := kt6 (i := 1) rfl rfl
theorem wzX8_beginBehind : Cond.initialized MX8_beginBehind.1.cls ∈ kbT := kt1 (i := 8) rfl rfl
theorem wiX8_beginBehind : Cond.instanceMethod MX8_beginBehind.1 ∈ kbT := kt6 (i := 0) rfl rfl
theorem wsX8_beginBehind : Cond.selects MX8_beginBehind.1.cls MX8_beginBehind.1 MX8_beginBehind.1 ∈ kbT := kts (i := 48) rfl
theorem cvX8_115 : kbCV "KnockBook$Speech" 115 MX8_beginBehind 1 := ⟨kb_all5 (kt5 (i := 238) rfl rfl) wiX8_beginBehind wsX8_beginBehind wzX8_beginBehind wcX8_beginBehind, mfX8_beginBehind⟩
theorem mfX10_copyFrom : MX10_copyFrom.1.cls ≠ "java/lang/invoke/MethodHandle" ∧ MX10_copyFrom.1.cls ≠ "java/lang/invoke/VarHandle" ∧ (parseMethodDescriptor MX10_copyFrom.1.desc).map (fun d => d.parameters.length) = some 1 ∧ MX10_copyFrom.2.2.1 ≤ 29 := by decide +kernel
theorem wcX10_copyFrom : Cond.code MX10_copyFrom.1 MX10_copyFrom.2.1 MX10_copyFrom.2.2.1 MX10_copyFrom.2.2.2 ∈ kbT := kt3 (i := 124) rfl rfl
theorem wzX10_copyFrom : Cond.initialized MX10_copyFrom.1.cls ∈ kbT := kt1 (i := 3) rfl rfl
theorem wiX10_copyFrom : Cond.instanceMethod MX10_copyFrom.1 ∈ kbT := kt3 (i := 122) rfl rfl
theorem wsX10_copyFrom : Cond.selects MX10_copyFrom.1.cls MX10_copyFrom.1 MX10_copyFrom.1 ∈ kbT := kt3 (i := 123) rfl rfl
theorem cvX9_31 : kbCV "KnockBook$State" 31 MX10_copyFrom 1 := ⟨kb_all5 (kt3 (i := 121) rfl rfl) wiX10_copyFrom wsX10_copyFrom wzX10_copyFrom wcX10_copyFrom, mfX10_copyFrom⟩
theorem cvX9_60 : kbCV "KnockBook$State" 60 MX9_keepAct 5 := ⟨kb_all5 (kt5 (i := 191) rfl rfl) wiX9_keepAct wsX9_keepAct wzX9_keepAct wcX9_keepAct, mfX9_keepAct⟩
theorem mfX10_remove : MX10_remove.1.cls ≠ "java/lang/invoke/MethodHandle" ∧ MX10_remove.1.cls ≠ "java/lang/invoke/VarHandle" ∧ (parseMethodDescriptor MX10_remove.1.desc).map (fun d => d.parameters.length) = some 1 ∧ MX10_remove.2.2.1 ≤ 29 := by decide +kernel
theorem wcX10_remove : Cond.code MX10_remove.1 MX10_remove.2.1 MX10_remove.2.2.1 MX10_remove.2.2.2 ∈ kbT := kt2 (i := 224) rfl rfl
theorem wzX10_remove : Cond.initialized MX10_remove.1.cls ∈ kbT := kt1 (i := 3) rfl rfl
theorem wiX10_remove : Cond.instanceMethod MX10_remove.1 ∈ kbT := kt2 (i := 222) rfl rfl
theorem wsX10_remove : Cond.selects MX10_remove.1.cls MX10_remove.1 MX10_remove.1 ∈ kbT := kt2 (i := 223) rfl rfl
theorem cvX9_64 : kbCV "KnockBook$State" 64 MX10_remove 1 := ⟨kb_all5 (kt2 (i := 221) rfl rfl) wiX10_remove wsX10_remove wzX10_remove wcX10_remove, mfX10_remove⟩
theorem cvX9_68 : kbCV "KnockBook$State" 68 MX10_insert 4 := ⟨kb_all5 (kt2 (i := 225) rfl rfl) wiX10_insert wsX10_insert wzX10_insert wcX10_insert, mfX10_insert⟩
theorem mfX10_change : MX10_change.1.cls ≠ "java/lang/invoke/MethodHandle" ∧ MX10_change.1.cls ≠ "java/lang/invoke/VarHandle" ∧ (parseMethodDescriptor MX10_change.1.desc).map (fun d => d.parameters.length) = some 3 ∧ MX10_change.2.2.1 ≤ 29 := by decide +kernel
theorem wcX10_change : Cond.code MX10_change.1 MX10_change.2.1 MX10_change.2.2.1 MX10_change.2.2.2 ∈ kbT := kt2 (i := 229) rfl rfl
theorem wzX10_change : Cond.initialized MX10_change.1.cls ∈ kbT := kt1 (i := 3) rfl rfl
theorem wiX10_change : Cond.instanceMethod MX10_change.1 ∈ kbT := kt2 (i := 227) rfl rfl
theorem wsX10_change : Cond.selects MX10_change.1.cls MX10_change.1 MX10_change.1 ∈ kbT := kt2 (i := 228) rfl rfl
theorem cvX9_72 : kbCV "KnockBook$State" 72 MX10_change 3 := ⟨kb_all5 (kt2 (i := 226) rfl rfl) wiX10_change wsX10_change wzX10_change wcX10_change, mfX10_change⟩
theorem mfX9_turnWeather : MX9_turnWeather.1.cls ≠ "java/lang/invoke/MethodHandle" ∧ MX9_turnWeather.1.cls ≠ "java/lang/invoke/VarHandle" ∧ (parseMethodDescriptor MX9_turnWeather.1.desc).map (fun d => d.parameters.length) = some 1 ∧ MX9_turnWeather.2.2.1 ≤ 29 := by decide +kernel
theorem wcX9_turnWeather : Cond.code MX9_turnWeather.1 MX9_turnWeather.2.1 MX9_turnWeather.2.2.1 MX9_turnWeather.2.2.2 ∈ kbT := kt2 (i := 233) rfl rfl
theorem wzX9_turnWeather : Cond.initialized MX9_turnWeather.1.cls ∈ kbT := kt1 (i := 5) rfl rfl
theorem wiX9_turnWeather : Cond.instanceMethod MX9_turnWeather.1 ∈ kbT := kt2 (i := 231) rfl rfl
theorem wsX9_turnWeather : Cond.selects MX9_turnWeather.1.cls MX9_turnWeather.1 MX9_turnWeather.1 ∈ kbT := kt2 (i := 232) rfl rfl
theorem cvX9_76 : kbCV "KnockBook$State" 76 MX9_turnWeather 1 := ⟨kb_all5 (kt2 (i := 230) rfl rfl) wiX9_turnWeather wsX9_turnWeather wzX9_turnWeather wcX9_turnWeather, mfX9_turnWeather⟩
theorem mfX10_move : MX10_move.1.cls ≠ "java/lang/invoke/MethodHandle" ∧ MX10_move.1.cls ≠ "java/lang/invoke/VarHandle" ∧ (parseMethodDescriptor MX10_move.1.desc).map (fun d => d.parameters.length) = some 2 ∧ MX10_move.2.2.1 ≤ 29 := by decide +kernel
theorem wcX10_move : Cond.code MX10_move.1 MX10_move.2.1 MX10_move.2.2.1 MX10_move.2.2.2 ∈ kbT := kt2 (i := 197) rfl rfl
theorem wzX10_move : Cond.initialized MX10_move.1.cls ∈ kbT := kt1 (i := 3) rfl rfl
theorem wiX10_move : Cond.instanceMethod MX10_move.1 ∈ kbT := kt2 (i := 196) rfl rfl
theorem wsX10_move : Cond.selects MX10_move.1.cls MX10_move.1 MX10_move.1 ∈ kbT := kts (i := 1) rfl
theorem cvX10_28 : kbCV "KnockBook$Words" 28 MX10_move 2 := ⟨kb_all5 (kt2 (i := 194) rfl rfl) wiX10_move wsX10_move wzX10_move wcX10_move, mfX10_move⟩
theorem mfX12_byteAt : MX12_byteAt.1.cls ≠ "java/lang/invoke/MethodHandle" ∧ MX12_byteAt.1.cls ≠ "java/lang/invoke/VarHandle" ∧ (parseMethodDescriptor MX12_byteAt.1.desc).map (fun d => d.parameters.length) = some 1 ∧ MX12_byteAt.2.2.1 ≤ 29 := by decide +kernel
theorem wcX12_byteAt : Cond.code MX12_byteAt.1 MX12_byteAt.2.1 MX12_byteAt.2.2.1 MX12_byteAt.2.2.2 ∈ kbT := kt7 (i := 161) rfl rfl
theorem wzX12_byteAt : Cond.initialized MX12_byteAt.1.cls ∈ kbT := kt1 (i := 12) rfl rfl
theorem wiX12_byteAt : Cond.instanceMethod MX12_byteAt.1 ∈ kbT := kt7 (i := 160) rfl rfl
theorem wsX12_byteAt : Cond.selects MX12_byteAt.1.cls MX12_byteAt.1 MX12_byteAt.1 ∈ kbT := kts (i := 60) rfl
theorem cvX12_179 : kbCV "KnockBookModel" 179 MX12_byteAt 1 := ⟨kb_all5 (kt7 (i := 158) rfl rfl) wiX12_byteAt wsX12_byteAt wzX12_byteAt wcX12_byteAt, mfX12_byteAt⟩
theorem mfX12_is : MX12_is.1.cls ≠ "java/lang/invoke/MethodHandle" ∧ MX12_is.1.cls ≠ "java/lang/invoke/VarHandle" ∧ (parseMethodDescriptor MX12_is.1.desc).map (fun d => d.parameters.length) = some 1 ∧ MX12_is.2.2.1 ≤ 29 := by decide +kernel
theorem wcX12_is : Cond.code MX12_is.1 MX12_is.2.1 MX12_is.2.2.1 MX12_is.2.2.2 ∈ kbT := kt7 (i := 184) rfl rfl
theorem wzX12_is : Cond.initialized MX12_is.1.cls ∈ kbT := kt1 (i := 12) rfl rfl
theorem wiX12_is : Cond.instanceMethod MX12_is.1 ∈ kbT := kt7 (i := 183) rfl rfl
theorem wsX12_is : Cond.selects MX12_is.1.cls MX12_is.1 MX12_is.1 ∈ kbT := kts (i := 63) rfl
theorem cvX12_226 : kbCV "KnockBookModel" 226 MX12_is 1 := ⟨kb_all5 (kt7 (i := 181) rfl rfl) wiX12_is wsX12_is wzX12_is wcX12_is, mfX12_is⟩
theorem mfX12_isMarked : MX12_isMarked.1.cls ≠ "java/lang/invoke/MethodHandle" ∧ MX12_isMarked.1.cls ≠ "java/lang/invoke/VarHandle" ∧ (parseMethodDescriptor MX12_isMarked.1.desc).map (fun d => d.parameters.length) = some 1 ∧ MX12_isMarked.2.2.1 ≤ 29 := by decide +kernel
theorem wcX12_isMarked : Cond.code MX12_isMarked.1 MX12_isMarked.2.1 MX12_isMarked.2.2.1 MX12_isMarked.2.2.2 ∈ kbT := kt7 (i := 199) rfl rfl
theorem wzX12_isMarked : Cond.initialized MX12_isMarked.1.cls ∈ kbT := kt1 (i := 12) rfl rfl
theorem wiX12_isMarked : Cond.instanceMethod MX12_isMarked.1 ∈ kbT := kt7 (i := 198) rfl rfl
theorem wsX12_isMarked : Cond.selects MX12_isMarked.1.cls MX12_isMarked.1 MX12_isMarked.1 ∈ kbT := kts (i := 66) rfl
theorem cvX12_230 : kbCV "KnockBookModel" 230 MX12_isMarked 1 := ⟨kb_all5 (kt7 (i := 196) rfl rfl) wiX12_isMarked wsX12_isMarked wzX12_isMarked wcX12_isMarked, mfX12_isMarked⟩
theorem mfX12_wrong : MX12_wrong.1.cls ≠ "java/lang/invoke/MethodHandle" ∧ MX12_wrong.1.cls ≠ "java/lang/invoke/VarHandle" ∧ (parseMethodDescriptor MX12_wrong.1.desc).map (fun d => d.parameters.length) = some 1 ∧ MX12_wrong.2.2.1 ≤ 29 := by decide +kernel
theorem wcX12_wrong : Cond.code MX12_wrong.1 MX12_wrong.2.1 MX12_wrong.2.2.1 MX12_wrong.2.2.2 ∈ kbT := kt7 (i := 191) rfl rfl
theorem wzX12_wrong : Cond.initialized MX12_wrong.1.cls ∈ kbT := kt1 (i := 12) rfl rfl
theorem wiX12_wrong : Cond.instanceMethod MX12_wrong.1 ∈ kbT := kt7 (i := 190) rfl rfl
theorem wsX12_wrong : Cond.selects MX12_wrong.1.cls MX12_wrong.1 MX12_wrong.1 ∈ kbT := kts (i := 64) rfl
theorem cvX12_233 : kbCV "KnockBookModel" 233 MX12_wrong 1 := ⟨kb_all5 (kt7 (i := 188) rfl rfl) wiX12_wrong wsX12_wrong wzX12_wrong wcX12_wrong, mfX12_wrong⟩
theorem mfX12_stepOn : MX12_stepOn.1.cls ≠ "java/lang/invoke/MethodHandle" ∧ MX12_stepOn.1.cls ≠ "java/lang/invoke/VarHandle" ∧ (parseMethodDescriptor MX12_stepOn.1.desc).map (fun d => d.parameters.length) = some 0 ∧ MX12_stepOn.2.2.1 ≤ 29 := by decide +kernel
theorem wcX12_stepOn : Cond.code MX12_stepOn.1 MX12_stepOn.2.1 MX12_stepOn.2.2.1 MX12_stepOn.2.2.2 ∈ kbT := kt7 (i := 157) rfl rfl
theorem wzX12_stepOn : Cond.initialized MX12_stepOn.1.cls ∈ kbT := kt1 (i := 12) rfl rfl
theorem wiX12_stepOn : Cond.instanceMethod MX12_stepOn.1 ∈ kbT := kt7 (i := 156) rfl rfl
theorem wsX12_stepOn : Cond.selects MX12_stepOn.1.cls MX12_stepOn.1 MX12_stepOn.1 ∈ kbT := kts (i := 59) rfl
theorem cvX12_237 : kbCV "KnockBookModel" 237 MX12_stepOn 0 := ⟨kb_all5 (kt7 (i := 154) rfl rfl) wiX12_stepOn wsX12_stepOn wzX12_stepOn wcX12_stepOn, mfX12_stepOn⟩
theorem mfX12_readNumber : MX12_readNumber.1.cls ≠ "java/lang/invoke/MethodHandle" ∧ MX12_readNumber.1.cls ≠ "java/lang/invoke/VarHandle" ∧ (parseMethodDescriptor MX12_readNumber.1.desc).map (fun d => d.parameters.length) = some 2 ∧ MX12_readNumber.2.2.1 ≤ 29 := by decide +kernel
theorem wcX12_readNumber : Cond.code MX12_readNumber.1 MX12_readNumber.2.1 MX12_readNumber.2.2.1 MX12_readNumber.2.2.2 ∈ kbT := kt7 (i := 224) rfl rfl
theorem wzX12_readNumber : Cond.initialized MX12_readNumber.1.cls ∈ kbT := kt1 (i := 12) rfl rfl
theorem wiX12_readNumber : Cond.instanceMethod MX12_readNumber.1 ∈ kbT := kt7 (i := 223) rfl rfl
theorem wsX12_readNumber : Cond.selects MX12_readNumber.1.cls MX12_readNumber.1 MX12_readNumber.1 ∈ kbT := kts (i := 72) rfl
theorem cvX12_240 : kbCV "KnockBookModel" 240 MX12_readNumber 2 := ⟨kb_all5 (kt7 (i := 221) rfl rfl) wiX12_readNumber wsX12_readNumber wzX12_readNumber wcX12_readNumber, mfX12_readNumber⟩
theorem mfX12_lay : MX12_lay.1.cls ≠ "java/lang/invoke/MethodHandle" ∧ MX12_lay.1.cls ≠ "java/lang/invoke/VarHandle" ∧ (parseMethodDescriptor MX12_lay.1.desc).map (fun d => d.parameters.length) = some 1 ∧ MX12_lay.2.2.1 ≤ 29 := by decide +kernel
theorem wcX12_lay : Cond.code MX12_lay.1 MX12_lay.2.1 MX12_lay.2.2.1 MX12_lay.2.2.2 ∈ kbT := kt7 (i := 228) rfl rfl
theorem wzX12_lay : Cond.initialized MX12_lay.1.cls ∈ kbT := kt1 (i := 12) rfl rfl
theorem wiX12_lay : Cond.instanceMethod MX12_lay.1 ∈ kbT := kt7 (i := 227) rfl rfl
theorem wsX12_lay : Cond.selects MX12_lay.1.cls MX12_lay.1 MX12_lay.1 ∈ kbT := kts (i := 73) rfl
theorem cvX12_243 : kbCV "KnockBookModel" 243 MX12_lay 1 := ⟨kb_all5 (kt7 (i := 225) rfl rfl) wiX12_lay wsX12_lay wzX12_lay wcX12_lay, mfX12_lay⟩
theorem mfX12_wordOf : MX12_wordOf.1.cls ≠ "java/lang/invoke/MethodHandle" ∧ MX12_wordOf.1.cls ≠ "java/lang/invoke/VarHandle" ∧ (parseMethodDescriptor MX12_wordOf.1.desc).map (fun d => d.parameters.length) = some 1 ∧ MX12_wordOf.2.2.1 ≤ 29 := by decide +kernel
theorem wcX12_wordOf : Cond.code MX12_wordOf.1 MX12_wordOf.2.1 MX12_wordOf.2.2.1 MX12_wordOf.2.2.2 ∈ kbT := kt7 (i := 180) rfl rfl
theorem wzX12_wordOf : Cond.initialized MX12_wordOf.1.cls ∈ kbT := kt1 (i := 12) rfl rfl
theorem wiX12_wordOf : Cond.instanceMethod MX12_wordOf.1 ∈ kbT := kt7 (i := 179) rfl rfl
theorem wsX12_wordOf : Cond.selects MX12_wordOf.1.cls MX12_wordOf.1 MX12_wordOf.1 ∈ kbT := kts (i := 62) rfl
theorem cvX12_246 : kbCV "KnockBookModel" 246 MX12_wordOf 1 := ⟨kb_all5 (kt7 (i := 177) rfl rfl) wiX12_wordOf wsX12_wordOf wzX12_wordOf wcX12_wordOf, mfX12_wordOf⟩
theorem mfX12_mark : MX12_mark.1.cls ≠ "java/lang/invoke/MethodHandle" ∧ MX12_mark.1.cls ≠ "java/lang/invoke/VarHandle" ∧ (parseMethodDescriptor MX12_mark.1.desc).map (fun d => d.parameters.length) = some 1 ∧ MX12_mark.2.2.1 ≤ 29 := by decide +kernel
theorem wcX12_mark : Cond.code MX12_mark.1 MX12_mark.2.1 MX12_mark.2.2.1 MX12_mark.2.2.2 ∈ kbT := kt7 (i := 232) rfl rfl
theorem wzX12_mark : Cond.initialized MX12_mark.1.cls ∈ kbT := kt1 (i := 12) rfl rfl
theorem wiX12_mark : Cond.instanceMethod MX12_mark.1 ∈ kbT := kt7 (i := 231) rfl rfl
theorem wsX12_mark : Cond.selects MX12_mark.1.cls MX12_mark.1 MX12_mark.1 ∈ kbT := kts (i := 74) rfl
theorem cvX12_250 : kbCV "KnockBookModel" 250 MX12_mark 1 := ⟨kb_all5 (kt7 (i := 229) rfl rfl) wiX12_mark wsX12_mark wzX12_mark wcX12_mark, mfX12_mark⟩
theorem mfX12_readExpression : MX12_readExpression.1.cls ≠ "java/lang/invoke/MethodHandle" ∧ MX12_readExpression.1.cls ≠ "java/lang/invoke/VarHandle" ∧ (parseMethodDescriptor MX12_readExpression.1.desc).map (fun d => d.parameters.length) = some 1 ∧ MX12_readExpression.2.2.1 ≤ 29 := by decide +kernel
theorem wcX12_readExpression : Cond.code MX12_readExpression.1 MX12_readExpression.2.1 MX12_readExpression.2.2.1 MX12_readExpression.2.2.2 ∈ kbT := kt7 (i := 195) rfl rfl
theorem wzX12_readExpression : Cond.initialized MX12_readExpression.1.cls ∈ kbT := kt1 (i := 12) rfl rfl
theorem wiX12_readExpression : Cond.instanceMethod MX12_readExpression.1 ∈ kbT := kt7 (i := 194) rfl rfl
theorem wsX12_readExpression : Cond.selects MX12_readExpression.1.cls MX12_readExpression.1 MX12_readExpression.1 ∈ kbT := kts (i := 65) rfl
theorem cvX12_253 : kbCV "KnockBookModel" 253 MX12_readExpression 1 := ⟨kb_all5 (kt7 (i := 192) rfl rfl) wiX12_readExpression wsX12_readExpression wzX12_readExpression wcX12_readExpression, mfX12_readExpression⟩
theorem mfX12_readPart : MX12_readPart.1.cls ≠ "java/lang/invoke/MethodHandle" ∧ MX12_readPart.1.cls ≠ "java/lang/invoke/VarHandle" ∧ (parseMethodDescriptor MX12_readPart.1.desc).map (fun d => d.parameters.length) = some 1 ∧ MX12_readPart.2.2.1 ≤ 29 := by decide +kernel
theorem wcX12_readPart : Cond.code MX12_readPart.1 MX12_readPart.2.1 MX12_readPart.2.2.1 MX12_readPart.2.2.2 ∈ kbT := kt7 (i := 220) rfl rfl
theorem wzX12_readPart : Cond.initialized MX12_readPart.1.cls ∈ kbT := kt1 (i := 12) rfl rfl
theorem wiX12_readPart : Cond.instanceMethod MX12_readPart.1 ∈ kbT := kt7 (i := 219) rfl rfl
theorem wsX12_readPart : Cond.selects MX12_readPart.1.cls MX12_readPart.1 MX12_readPart.1 ∈ kbT := kts (i := 71) rfl
theorem cvX12_256 : kbCV "KnockBookModel" 256 MX12_readPart 1 := ⟨kb_all5 (kt7 (i := 217) rfl rfl) wiX12_readPart wsX12_readPart wzX12_readPart wcX12_readPart, mfX12_readPart⟩
theorem mfX12_readProduct : MX12_readProduct.1.cls ≠ "java/lang/invoke/MethodHandle" ∧ MX12_readProduct.1.cls ≠ "java/lang/invoke/VarHandle" ∧ (parseMethodDescriptor MX12_readProduct.1.desc).map (fun d => d.parameters.length) = some 1 ∧ MX12_readProduct.2.2.1 ≤ 29 := by decide +kernel
theorem wcX12_readProduct : Cond.code MX12_readProduct.1 MX12_readProduct.2.1 MX12_readProduct.2.2.1 MX12_readProduct.2.2.2 ∈ kbT := kt7 (i := 216) rfl rfl
theorem wzX12_readProduct : Cond.initialized MX12_readProduct.1.cls ∈ kbT := kt1 (i := 12) rfl rfl
theorem wiX12_readProduct : Cond.instanceMethod MX12_readProduct.1 ∈ kbT := kt7 (i := 215) rfl rfl
theorem wsX12_readProduct : Cond.selects MX12_readProduct.1.cls MX12_readProduct.1 MX12_readProduct.1 ∈ kbT := kts (i := 70) rfl
theorem cvX12_259 : kbCV "KnockBookModel" 259 MX12_readProduct 1 := ⟨kb_all5 (kt7 (i := 213) rfl rfl) wiX12_readProduct wsX12_readProduct wzX12_readProduct wcX12_readProduct, mfX12_readProduct⟩
theorem mfX12_readSum : MX12_readSum.1.cls ≠ "java/lang/invoke/MethodHandle" ∧ MX12_readSum.1.cls ≠ "java/lang/invoke/VarHandle" ∧ (parseMethodDescriptor MX12_readSum.1.desc).map (fun d => d.parameters.length) = some 1 ∧ MX12_readSum.2.2.1 ≤ 29 := by decide +kernel
theorem wcX12_readSum : Cond.code MX12_readSum.1 MX12_readSum.2.1 MX12_readSum.2.2.1 MX12_readSum.2.2.2 ∈ kbT := kt7 (i := 212) rfl rfl
theorem wzX12_readSum : Cond.initialized MX12_readSum.1.cls ∈ kbT := kt1 (i := 12) rfl rfl
theorem wiX12_readSum : Cond.instanceMethod MX12_readSum.1 ∈ kbT := kt7 (i := 211) rfl rfl
theorem wsX12_readSum : Cond.selects MX12_readSum.1.cls MX12_readSum.1 MX12_readSum.1 ∈ kbT := kts (i := 69) rfl
theorem cvX12_264 : kbCV "KnockBookModel" 264 MX12_readSum 1 := ⟨kb_all5 (kt7 (i := 209) rfl rfl) wiX12_readSum wsX12_readSum wzX12_readSum wcX12_readSum, mfX12_readSum⟩
theorem mfX12_readNot : MX12_readNot.1.cls ≠ "java/lang/invoke/MethodHandle" ∧ MX12_readNot.1.cls ≠ "java/lang/invoke/VarHandle" ∧ (parseMethodDescriptor MX12_readNot.1.desc).map (fun d => d.parameters.length) = some 1 ∧ MX12_readNot.2.2.1 ≤ 29 := by decide +kernel
theorem wcX12_readNot : Cond.code MX12_readNot.1 MX12_readNot.2.1 MX12_readNot.2.2.1 MX12_readNot.2.2.2 ∈ kbT := kt7 (i := 207) rfl rfl
theorem wzX12_readNot : Cond.initialized MX12_readNot.1.cls ∈ kbT := kt1 (i := 12) rfl rfl
theorem wiX12_readNot : Cond.instanceMethod MX12_readNot.1 ∈ kbT := kt7 (i := 206) rfl rfl
theorem wsX12_readNot : Cond.selects MX12_readNot.1.cls MX12_readNot.1 MX12_readNot.1 ∈ kbT := kts (i := 68) rfl
theorem cvX12_267 : kbCV "KnockBookModel" 267 MX12_readNot 1 := ⟨kb_all5 (kt7 (i := 204) rfl rfl) wiX12_readNot wsX12_readNot wzX12_readNot wcX12_readNot, mfX12_readNot⟩
theorem mfX12_readAnd : MX12_readAnd.1.cls ≠ "java/lang/invoke/MethodHandle" ∧ MX12_readAnd.1.cls ≠ "java/lang/invoke/VarHandle" ∧ (parseMethodDescriptor MX12_readAnd.1.desc).map (fun d => d.parameters.length) = some 1 ∧ MX12_readAnd.2.2.1 ≤ 29 := by decide +kernel
theorem wcX12_readAnd : Cond.code MX12_readAnd.1 MX12_readAnd.2.1 MX12_readAnd.2.2.1 MX12_readAnd.2.2.2 ∈ kbT := kt7 (i := 203) rfl rfl
theorem wzX12_readAnd : Cond.initialized MX12_readAnd.1.cls ∈ kbT := kt1 (i := 12) rfl rfl
theorem wiX12_readAnd : Cond.instanceMethod MX12_readAnd.1 ∈ kbT := kt7 (i := 202) rfl rfl
theorem wsX12_readAnd : Cond.selects MX12_readAnd.1.cls MX12_readAnd.1 MX12_readAnd.1 ∈ kbT := kts (i := 67) rfl
theorem cvX12_272 : kbCV "KnockBookModel" 272 MX12_readAnd 1 := ⟨kb_all5 (kt7 (i := 200) rfl rfl) wiX12_readAnd wsX12_readAnd wzX12_readAnd wcX12_readAnd, mfX12_readAnd⟩
theorem mfX12_areSounds : MX12_areSounds.1.cls ≠ "java/lang/invoke/MethodHandle" ∧ MX12_areSounds.1.cls ≠ "java/lang/invoke/VarHandle" ∧ (parseMethodDescriptor MX12_areSounds.1.desc).map (fun d => d.parameters.length) = some 0 ∧ MX12_areSounds.2.2.1 ≤ 29 := by decide +kernel
theorem wcX12_areSounds : Cond.code MX12_areSounds.1 MX12_areSounds.2.1 MX12_areSounds.2.2.1 MX12_areSounds.2.2.2 ∈ kbT := kt8 (i := 2) rfl rfl
theorem wzX12_areSounds : Cond.initialized MX12_areSounds.1.cls ∈ kbT := kt1 (i := 12) rfl rfl
theorem wiX12_areSounds : Cond.instanceMethod MX12_areSounds.1 ∈ kbT := kt8 (i := 1) rfl rfl
theorem wsX12_areSounds : Cond.selects MX12_areSounds.1.cls MX12_areSounds.1 MX12_areSounds.1 ∈ kbT := kts (i := 76) rfl
theorem cvX12_280 : kbCV "KnockBookModel" 280 MX12_areSounds 0 := ⟨kb_all5 (kt7 (i := 239) rfl rfl) wiX12_areSounds wsX12_areSounds wzX12_areSounds wcX12_areSounds, mfX12_areSounds⟩
theorem mfX12_readWord : MX12_readWord.1.cls ≠ "java/lang/invoke/MethodHandle" ∧ MX12_readWord.1.cls ≠ "java/lang/invoke/VarHandle" ∧ (parseMethodDescriptor MX12_readWord.1.desc).map (fun d => d.parameters.length) = some 1 ∧ MX12_readWord.2.2.1 ≤ 29 := by decide +kernel
theorem wcX12_readWord : Cond.code MX12_readWord.1 MX12_readWord.2.1 MX12_readWord.2.2.1 MX12_readWord.2.2.2 ∈ kbT := kt7 (i := 238) rfl rfl
theorem wzX12_readWord : Cond.initialized MX12_readWord.1.cls ∈ kbT := kt1 (i := 12) rfl rfl
theorem wiX12_readWord : Cond.instanceMethod MX12_readWord.1 ∈ kbT := kt7 (i := 237) rfl rfl
theorem wsX12_readWord : Cond.selects MX12_readWord.1.cls MX12_readWord.1 MX12_readWord.1 ∈ kbT := kts (i := 75) rfl
theorem cvX12_286 : kbCV "KnockBookModel" 286 MX12_readWord 1 := ⟨kb_all5 (kt7 (i := 235) rfl rfl) wiX12_readWord wsX12_readWord wzX12_readWord wcX12_readWord, mfX12_readWord⟩
theorem mfX12_readDoor : MX12_readDoor.1.cls ≠ "java/lang/invoke/MethodHandle" ∧ MX12_readDoor.1.cls ≠ "java/lang/invoke/VarHandle" ∧ (parseMethodDescriptor MX12_readDoor.1.desc).map (fun d => d.parameters.length) = some 1 ∧ MX12_readDoor.2.2.1 ≤ 29 := by decide +kernel
theorem wcX12_readDoor : Cond.code MX12_readDoor.1 MX12_readDoor.2.1 MX12_readDoor.2.2.1 MX12_readDoor.2.2.2 ∈ kbT := kt8 (i := 9) rfl rfl
theorem wzX12_readDoor : Cond.initialized MX12_readDoor.1.cls ∈ kbT := kt1 (i := 12) rfl rfl
theorem wiX12_readDoor : Cond.instanceMethod MX12_readDoor.1 ∈ kbT := kt8 (i := 8) rfl rfl
theorem wsX12_readDoor : Cond.selects MX12_readDoor.1.cls MX12_readDoor.1 MX12_readDoor.1 ∈ kbT := kts (i := 77) rfl
theorem cvX12_289 : kbCV "KnockBookModel" 289 MX12_readDoor 1 := ⟨kb_all5 (kt8 (i := 6) rfl rfl) wiX12_readDoor wsX12_readDoor wzX12_readDoor wcX12_readDoor, mfX12_readDoor⟩
theorem mfX12_fail : MX12_fail.1.cls ≠ "java/lang/invoke/MethodHandle" ∧ MX12_fail.1.cls ≠ "java/lang/invoke/VarHandle" ∧ (parseMethodDescriptor MX12_fail.1.desc).map (fun d => d.parameters.length) = some 1 ∧ MX12_fail.2.2.1 ≤ 29 := by decide +kernel
theorem wcX12_fail : Cond.code MX12_fail.1 MX12_fail.2.1 MX12_fail.2.2.1 MX12_fail.2.2.2 ∈ kbT := kt7 (i := 153) rfl rfl
theorem wzX12_fail : Cond.initialized MX12_fail.1.cls ∈ kbT := kt1 (i := 12) rfl rfl
theorem wiX12_fail : Cond.instanceMethod MX12_fail.1 ∈ kbT := kt7 (i := 152) rfl rfl
theorem wsX12_fail : Cond.selects MX12_fail.1.cls MX12_fail.1 MX12_fail.1 ∈ kbT := kts (i := 58) rfl
theorem cvX12_292 : kbCV "KnockBookModel" 292 MX12_fail 1 := ⟨kb_all5 (kt7 (i := 150) rfl rfl) wiX12_fail wsX12_fail wzX12_fail wcX12_fail, mfX12_fail⟩
theorem mfX12_readLine : MX12_readLine.1.cls ≠ "java/lang/invoke/MethodHandle" ∧ MX12_readLine.1.cls ≠ "java/lang/invoke/VarHandle" ∧ (parseMethodDescriptor MX12_readLine.1.desc).map (fun d => d.parameters.length) = some 1 ∧ MX12_readLine.2.2.1 ≤ 29 := by decide +kernel
theorem wcX12_readLine : Cond.code MX12_readLine.1 MX12_readLine.2.1 MX12_readLine.2.2.1 MX12_readLine.2.2.2 ∈ kbT := kt7 (i := 176) rfl rfl
theorem wzX12_readLine : Cond.initialized MX12_readLine.1.cls ∈ kbT := kt1 (i := 12) rfl rfl
theorem wiX12_readLine : Cond.instanceMethod MX12_readLine.1 ∈ kbT := kt7 (i := 175) rfl rfl
theorem wsX12_readLine : Cond.selects MX12_readLine.1.cls MX12_readLine.1 MX12_readLine.1 ∈ kbT := kts (i := 61) rfl
theorem cvX12_295 : kbCV "KnockBookModel" 295 MX12_readLine 1 := ⟨kb_all5 (kt7 (i := 173) rfl rfl) wiX12_readLine wsX12_readLine wzX12_readLine wcX12_readLine, mfX12_readLine⟩
theorem mfX12_takeOver : MX12_takeOver.1.cls ≠ "java/lang/invoke/MethodHandle" ∧ MX12_takeOver.1.cls ≠ "java/lang/invoke/VarHandle" ∧ (parseMethodDescriptor MX12_takeOver.1.desc).map (fun d => d.parameters.length) = some 0 ∧ MX12_takeOver.2.2.1 ≤ 29 := by decide +kernel
theorem wcX12_takeOver : Cond.code MX12_takeOver.1 MX12_takeOver.2.1 MX12_takeOver.2.2.1 MX12_takeOver.2.2.2 ∈ kbT := kt8 (i := 13) rfl rfl
theorem wzX12_takeOver : Cond.initialized MX12_takeOver.1.cls ∈ kbT := kt1 (i := 12) rfl rfl
theorem wiX12_takeOver : Cond.instanceMethod MX12_takeOver.1 ∈ kbT := kt8 (i := 12) rfl rfl
theorem wsX12_takeOver : Cond.selects MX12_takeOver.1.cls MX12_takeOver.1 MX12_takeOver.1 ∈ kbT := kts (i := 78) rfl
theorem cvX12_298 : kbCV "KnockBookModel" 298 MX12_takeOver 0 := ⟨kb_all5 (kt8 (i := 10) rfl rfl) wiX12_takeOver wsX12_takeOver wzX12_takeOver wcX12_takeOver, mfX12_takeOver⟩
theorem mfX12_heardAt : MX12_heardAt.1.cls ≠ "java/lang/invoke/MethodHandle" ∧ MX12_heardAt.1.cls ≠ "java/lang/invoke/VarHandle" ∧ (parseMethodDescriptor MX12_heardAt.1.desc).map (fun d => d.parameters.length) = some 2 ∧ MX12_heardAt.2.2.1 ≤ 29 := by decide +kernel
theorem wcX12_heardAt : Cond.code MX12_heardAt.1 MX12_heardAt.2.1 MX12_heardAt.2.2.1 MX12_heardAt.2.2.2 ∈ kbT := kt8 (i := 65) rfl rfl
theorem wzX12_heardAt : Cond.initialized MX12_heardAt.1.cls ∈ kbT := kt1 (i := 12) rfl rfl
theorem wiX12_heardAt : Cond.instanceMethod MX12_heardAt.1 ∈ kbT := kt8 (i := 64) rfl rfl
theorem wsX12_heardAt : Cond.selects MX12_heardAt.1.cls MX12_heardAt.1 MX12_heardAt.1 ∈ kbT := kts (i := 83) rfl
theorem cvX12_328 : kbCV "KnockBookModel" 328 MX12_heardAt 2 := ⟨kb_all5 (kt8 (i := 62) rfl rfl) wiX12_heardAt wsX12_heardAt wzX12_heardAt wcX12_heardAt, mfX12_heardAt⟩
theorem mfX12_isWord : MX12_isWord.1.cls ≠ "java/lang/invoke/MethodHandle" ∧ MX12_isWord.1.cls ≠ "java/lang/invoke/VarHandle" ∧ (parseMethodDescriptor MX12_isWord.1.desc).map (fun d => d.parameters.length) = some 1 ∧ MX12_isWord.2.2.1 ≤ 29 := by decide +kernel
theorem wcX12_isWord : Cond.code MX12_isWord.1 MX12_isWord.2.1 MX12_isWord.2.2.1 MX12_isWord.2.2.2 ∈ kbT := kt8 (i := 35) rfl rfl
theorem wzX12_isWord : Cond.initialized MX12_isWord.1.cls ∈ kbT := kt1 (i := 12) rfl rfl
theorem wiX12_isWord : Cond.instanceMethod MX12_isWord.1 ∈ kbT := kt8 (i := 34) rfl rfl
theorem wsX12_isWord : Cond.selects MX12_isWord.1.cls MX12_isWord.1 MX12_isWord.1 ∈ kbT := kts (i := 79) rfl
theorem cvX12_331 : kbCV "KnockBookModel" 331 MX12_isWord 1 := ⟨kb_all5 (kt8 (i := 32) rfl rfl) wiX12_isWord wsX12_isWord wzX12_isWord wcX12_isWord, mfX12_isWord⟩
theorem mfX12_isDoor : MX12_isDoor.1.cls ≠ "java/lang/invoke/MethodHandle" ∧ MX12_isDoor.1.cls ≠ "java/lang/invoke/VarHandle" ∧ (parseMethodDescriptor MX12_isDoor.1.desc).map (fun d => d.parameters.length) = some 1 ∧ MX12_isDoor.2.2.1 ≤ 29 := by decide +kernel
theorem wcX12_isDoor : Cond.code MX12_isDoor.1 MX12_isDoor.2.1 MX12_isDoor.2.2.1 MX12_isDoor.2.2.2 ∈ kbT := kt8 (i := 53) rfl rfl
theorem wzX12_isDoor : Cond.initialized MX12_isDoor.1.cls ∈ kbT := kt1 (i := 12) rfl rfl
theorem wiX12_isDoor : Cond.instanceMethod MX12_isDoor.1 ∈ kbT := kt8 (i := 52) rfl rfl
theorem wsX12_isDoor : Cond.selects MX12_isDoor.1.cls MX12_isDoor.1 MX12_isDoor.1 ∈ kbT := kts (i := 80) rfl
theorem cvX12_336 : kbCV "KnockBookModel" 336 MX12_isDoor 1 := ⟨kb_all5 (kt8 (i := 50) rfl rfl) wiX12_isDoor wsX12_isDoor wzX12_isDoor wcX12_isDoor, mfX12_isDoor⟩
theorem mfX12_wordsOf : MX12_wordsOf.1.cls ≠ "java/lang/invoke/MethodHandle" ∧ MX12_wordsOf.1.cls ≠ "java/lang/invoke/VarHandle" ∧ (parseMethodDescriptor MX12_wordsOf.1.desc).map (fun d => d.parameters.length) = some 1 ∧ MX12_wordsOf.2.2.1 ≤ 29 := by decide +kernel
theorem wcX12_wordsOf : Cond.code MX12_wordsOf.1 MX12_wordsOf.2.1 MX12_wordsOf.2.2.1 MX12_wordsOf.2.2.2 ∈ kbT := kt8 (i := 57) rfl rfl
theorem wzX12_wordsOf : Cond.initialized MX12_wordsOf.1.cls ∈ kbT := kt1 (i := 12) rfl rfl
theorem wiX12_wordsOf : Cond.instanceMethod MX12_wordsOf.1 ∈ kbT := kt8 (i := 56) rfl rfl
theorem wsX12_wordsOf : Cond.selects MX12_wordsOf.1.cls MX12_wordsOf.1 MX12_wordsOf.1 ∈ kbT := kts (i := 81) rfl
theorem cvX12_339 : kbCV "KnockBookModel" 339 MX12_wordsOf 1 := ⟨kb_all5 (kt8 (i := 54) rfl rfl) wiX12_wordsOf wsX12_wordsOf wzX12_wordsOf wcX12_wordsOf, mfX12_wordsOf⟩
theorem mfX12_confounded : MX12_confounded.1.cls ≠ "java/lang/invoke/MethodHandle" ∧ MX12_confounded.1.cls ≠ "java/lang/invoke/VarHandle" ∧ (parseMethodDescriptor MX12_confounded.1.desc).map (fun d => d.parameters.length) = some 1 ∧ MX12_confounded.2.2.1 ≤ 29 := by decide +kernel
theorem wcX12_confounded : Cond.code MX12_confounded.1 MX12_confounded.2.1 MX12_confounded.2.2.1 MX12_confounded.2.2.2 ∈ kbT := kt8 (i := 61) rfl rfl
theorem wzX12_confounded : Cond.initialized MX12_confounded.1.cls ∈ kbT := kt1 (i := 12) rfl rfl
theorem wiX12_confounded : Cond.instanceMethod MX12_confounded.1 ∈ kbT := kt8 (i := 60) rfl rfl
theorem wsX12_confounded : Cond.selects MX12_confounded.1.cls MX12_confounded.1 MX12_confounded.1 ∈ kbT := kts (i := 82) rfl
theorem cvX12_342 : kbCV "KnockBookModel" 342 MX12_confounded 1 := ⟨kb_all5 (kt8 (i := 58) rfl rfl) wiX12_confounded wsX12_confounded wzX12_confounded wcX12_confounded, mfX12_confounded⟩
theorem mfX12_valueNow : MX12_valueNow.1.cls ≠ "java/lang/invoke/MethodHandle" ∧ MX12_valueNow.1.cls ≠ "java/lang/invoke/VarHandle" ∧ (parseMethodDescriptor MX12_valueNow.1.desc).map (fun d => d.parameters.length) = some 0 ∧ MX12_valueNow.2.2.1 ≤ 29 := by decide +kernel
theorem wcX12_valueNow : Cond.code MX12_valueNow.1 MX12_valueNow.2.1 MX12_valueNow.2.2.1 MX12_valueNow.2.2.2 ∈ kbT := kt8 (i := 101) rfl rfl
theorem wzX12_valueNow : Cond.initialized MX12_valueNow.1.cls ∈ kbT := kt1 (i := 12) rfl rfl
theorem wiX12_valueNow : Cond.instanceMethod MX12_valueNow.1 ∈ kbT := kt8 (i := 100) rfl rfl
theorem wsX12_valueNow : Cond.selects MX12_valueNow.1.cls MX12_valueNow.1 MX12_valueNow.1 ∈ kbT := kts (i := 89) rfl
theorem cvX12_352 : kbCV "KnockBookModel" 352 MX12_valueNow 0 := ⟨kb_all5 (kt8 (i := 98) rfl rfl) wiX12_valueNow wsX12_valueNow wzX12_valueNow wcX12_valueNow, mfX12_valueNow⟩
theorem mfX12_tellSounds : MX12_tellSounds.1.cls ≠ "java/lang/invoke/MethodHandle" ∧ MX12_tellSounds.1.cls ≠ "java/lang/invoke/VarHandle" ∧ (parseMethodDescriptor MX12_tellSounds.1.desc).map (fun d => d.parameters.length) = some 1 ∧ MX12_tellSounds.2.2.1 ≤ 29 := by decide +kernel
theorem wcX12_tellSounds : Cond.code MX12_tellSounds.1 MX12_tellSounds.2.1 MX12_tellSounds.2.2.1 MX12_tellSounds.2.2.2 ∈ kbT := kt8 (i := 89) rfl rfl
theorem wzX12_tellSounds : Cond.initialized MX12_tellSounds.1.cls ∈ kbT := kt1 (i := 12) rfl rfl
theorem wiX12_tellSounds : Cond.instanceMethod MX12_tellSounds.1 ∈ kbT := kt8 (i := 88) rfl rfl
theorem wsX12_tellSounds : Cond.selects MX12_tellSounds.1.cls MX12_tellSounds.1 MX12_tellSounds.1 ∈ kbT := kts (i := 86) rfl
theorem cvX12_358 : kbCV "KnockBookModel" 358 MX12_tellSounds 1 := ⟨kb_all5 (kt8 (i := 86) rfl rfl) wiX12_tellSounds wsX12_tellSounds wzX12_tellSounds wcX12_tellSounds, mfX12_tellSounds⟩
theorem mfX12_standsAt : MX12_standsAt.1.cls ≠ "java/lang/invoke/MethodHandle" ∧ MX12_standsAt.1.cls ≠ "java/lang/invoke/VarHandle" ∧ (parseMethodDescriptor MX12_standsAt.1.desc).map (fun d => d.parameters.length) = some 2 ∧ MX12_standsAt.2.2.1 ≤ 29 := by decide +kernel
theorem wcX12_standsAt : Cond.code MX12_standsAt.1 MX12_standsAt.2.1 MX12_standsAt.2.2.1 MX12_standsAt.2.2.2 ∈ kbT := kt8 (i := 93) rfl rfl
theorem wzX12_standsAt : Cond.initialized MX12_standsAt.1.cls ∈ kbT := kt1 (i := 12) rfl rfl
theorem wiX12_standsAt : Cond.instanceMethod MX12_standsAt.1 ∈ kbT := kt8 (i := 92) rfl rfl
theorem wsX12_standsAt : Cond.selects MX12_standsAt.1.cls MX12_standsAt.1 MX12_standsAt.1 ∈ kbT := kts (i := 87) rfl
theorem cvX12_361 : kbCV "KnockBookModel" 361 MX12_standsAt 2 := ⟨kb_all5 (kt8 (i := 90) rfl rfl) wiX12_standsAt wsX12_standsAt wzX12_standsAt wcX12_standsAt, mfX12_standsAt⟩
theorem mfX12_joins : MX12_joins.1.cls ≠ "java/lang/invoke/MethodHandle" ∧ MX12_joins.1.cls ≠ "java/lang/invoke/VarHandle" ∧ (parseMethodDescriptor MX12_joins.1.desc).map (fun d => d.parameters.length) = some 2 ∧ MX12_joins.2.2.1 ≤ 29 := by decide +kernel
theorem wcX12_joins : Cond.code MX12_joins.1 MX12_joins.2.1 MX12_joins.2.2.1 MX12_joins.2.2.2 ∈ kbT := kt8 (i := 97) rfl rfl
theorem wzX12_joins : Cond.initialized MX12_joins.1.cls ∈ kbT := kt1 (i := 12) rfl rfl
theorem wiX12_joins : Cond.instanceMethod MX12_joins.1 ∈ kbT := kt8 (i := 96) rfl rfl
theorem wsX12_joins : Cond.selects MX12_joins.1.cls MX12_joins.1 MX12_joins.1 ∈ kbT := kts (i := 88) rfl
theorem cvX12_364 : kbCV "KnockBookModel" 364 MX12_joins 2 := ⟨kb_all5 (kt8 (i := 94) rfl rfl) wiX12_joins wsX12_joins wzX12_joins wcX12_joins, mfX12_joins⟩
theorem mfX12_tellReadings : MX12_tellReadings.1.cls ≠ "java/lang/invoke/MethodHandle" ∧ MX12_tellReadings.1.cls ≠ "java/lang/invoke/VarHandle" ∧ (parseMethodDescriptor MX12_tellReadings.1.desc).map (fun d => d.parameters.length) = some 1 ∧ MX12_tellReadings.2.2.1 ≤ 29 := by decide +kernel
theorem wcX12_tellReadings : Cond.code MX12_tellReadings.1 MX12_tellReadings.2.1 MX12_tellReadings.2.2.1 MX12_tellReadings.2.2.2 ∈ kbT := kt8 (i := 85) rfl rfl
theorem wzX12_tellReadings : Cond.initialized MX12_tellReadings.1.cls ∈ kbT := kt1 (i := 12) rfl rfl
theorem wiX12_tellReadings : Cond.instanceMethod MX12_tellReadings.1 ∈ kbT := kt8 (i := 84) rfl rfl
theorem wsX12_tellReadings : Cond.selects MX12_tellReadings.1.cls MX12_tellReadings.1 MX12_tellReadings.1 ∈ kbT := kts (i := 85) rfl
theorem cvX12_366 : kbCV "KnockBookModel" 366 MX12_tellReadings 1 := ⟨kb_all5 (kt8 (i := 82) rfl rfl) wiX12_tellReadings wsX12_tellReadings wzX12_tellReadings wcX12_tellReadings, mfX12_tellReadings⟩
theorem mfX12_fewest : MX12_fewest.1.cls ≠ "java/lang/invoke/MethodHandle" ∧ MX12_fewest.1.cls ≠ "java/lang/invoke/VarHandle" ∧ (parseMethodDescriptor MX12_fewest.1.desc).map (fun d => d.parameters.length) = some 1 ∧ MX12_fewest.2.2.1 ≤ 29 := by decide +kernel
theorem wcX12_fewest : Cond.code MX12_fewest.1 MX12_fewest.2.1 MX12_fewest.2.2.1 MX12_fewest.2.2.2 ∈ kbT := kt8 (i := 81) rfl rfl
theorem wzX12_fewest : Cond.initialized MX12_fewest.1.cls ∈ kbT := kt1 (i := 12) rfl rfl
theorem wiX12_fewest : Cond.instanceMethod MX12_fewest.1 ∈ kbT := kt8 (i := 80) rfl rfl
theorem wsX12_fewest : Cond.selects MX12_fewest.1.cls MX12_fewest.1 MX12_fewest.1 ∈ kbT := kts (i := 84) rfl
theorem cvX12_369 : kbCV "KnockBookModel" 369 MX12_fewest 1 := ⟨kb_all5 (kt8 (i := 78) rfl rfl) wiX12_fewest wsX12_fewest wzX12_fewest wcX12_fewest, mfX12_fewest⟩
theorem mfX12_apartBy : MX12_apartBy.1.cls ≠ "java/lang/invoke/MethodHandle" ∧ MX12_apartBy.1.cls ≠ "java/lang/invoke/VarHandle" ∧ (parseMethodDescriptor MX12_apartBy.1.desc).map (fun d => d.parameters.length) = some 2 ∧ MX12_apartBy.2.2.1 ≤ 29 := by decide +kernel
theorem wcX12_apartBy : Cond.code MX12_apartBy.1 MX12_apartBy.2.1 MX12_apartBy.2.2.1 MX12_apartBy.2.2.2 ∈ kbT := kt8 (i := 116) rfl rfl
theorem wzX12_apartBy : Cond.initialized MX12_apartBy.1.cls ∈ kbT := kt1 (i := 12) rfl rfl
theorem wiX12_apartBy : Cond.instanceMethod MX12_apartBy.1 ∈ kbT := kt8 (i := 115) rfl rfl
theorem wsX12_apartBy : Cond.selects MX12_apartBy.1.cls MX12_apartBy.1 MX12_apartBy.1 ∈ kbT := kts (i := 90) rfl
theorem cvX12_376 : kbCV "KnockBookModel" 376 MX12_apartBy 2 := ⟨kb_all5 (kt8 (i := 113) rfl rfl) wiX12_apartBy wsX12_apartBy wzX12_apartBy wcX12_apartBy, mfX12_apartBy⟩
theorem mfX12_nearestTo : MX12_nearestTo.1.cls ≠ "java/lang/invoke/MethodHandle" ∧ MX12_nearestTo.1.cls ≠ "java/lang/invoke/VarHandle" ∧ (parseMethodDescriptor MX12_nearestTo.1.desc).map (fun d => d.parameters.length) = some 1 ∧ MX12_nearestTo.2.2.1 ≤ 29 := by decide +kernel
theorem wcX12_nearestTo : Cond.code MX12_nearestTo.1 MX12_nearestTo.2.1 MX12_nearestTo.2.2.1 MX12_nearestTo.2.2.2 ∈ kbT := kt8 (i := 127) rfl rfl
theorem wzX12_nearestTo : Cond.initialized MX12_nearestTo.1.cls ∈ kbT := kt1 (i := 12) rfl rfl
theorem wiX12_nearestTo : Cond.instanceMethod MX12_nearestTo.1 ∈ kbT := kt8 (i := 126) rfl rfl
theorem wsX12_nearestTo : Cond.selects MX12_nearestTo.1.cls MX12_nearestTo.1 MX12_nearestTo.1 ∈ kbT := kts (i := 91) rfl
theorem cvX12_379 : kbCV "KnockBookModel" 379 MX12_nearestTo 1 := ⟨kb_all5 (kt8 (i := 124) rfl rfl) wiX12_nearestTo wsX12_nearestTo wzX12_nearestTo wcX12_nearestTo, mfX12_nearestTo⟩
theorem mfX12_pack : MX12_pack.1.cls ≠ "java/lang/invoke/MethodHandle" ∧ MX12_pack.1.cls ≠ "java/lang/invoke/VarHandle" ∧ (parseMethodDescriptor MX12_pack.1.desc).map (fun d => d.parameters.length) = some 2 ∧ MX12_pack.2.2.1 ≤ 29 := by decide +kernel
theorem wcX12_pack : Cond.code MX12_pack.1 MX12_pack.2.1 MX12_pack.2.2.1 MX12_pack.2.2.2 ∈ kbT := kt8 (i := 149) rfl rfl
theorem wzX12_pack : Cond.initialized MX12_pack.1.cls ∈ kbT := kt1 (i := 12) rfl rfl
theorem wiX12_pack : Cond.instanceMethod MX12_pack.1 ∈ kbT := kt8 (i := 148) rfl rfl
theorem wsX12_pack : Cond.selects MX12_pack.1.cls MX12_pack.1 MX12_pack.1 ∈ kbT := kts (i := 95) rfl
theorem cvX12_382 : kbCV "KnockBookModel" 382 MX12_pack 2 := ⟨kb_all5 (kt8 (i := 146) rfl rfl) wiX12_pack wsX12_pack wzX12_pack wcX12_pack, mfX12_pack⟩
theorem mfX12_wordBy : MX12_wordBy.1.cls ≠ "java/lang/invoke/MethodHandle" ∧ MX12_wordBy.1.cls ≠ "java/lang/invoke/VarHandle" ∧ (parseMethodDescriptor MX12_wordBy.1.desc).map (fun d => d.parameters.length) = some 1 ∧ MX12_wordBy.2.2.1 ≤ 29 := by decide +kernel
theorem wcX12_wordBy : Cond.code MX12_wordBy.1 MX12_wordBy.2.1 MX12_wordBy.2.2.1 MX12_wordBy.2.2.2 ∈ kbT := kt8 (i := 135) rfl rfl
theorem wzX12_wordBy : Cond.initialized MX12_wordBy.1.cls ∈ kbT := kt1 (i := 12) rfl rfl
theorem wiX12_wordBy : Cond.instanceMethod MX12_wordBy.1 ∈ kbT := kt8 (i := 134) rfl rfl
theorem wsX12_wordBy : Cond.selects MX12_wordBy.1.cls MX12_wordBy.1 MX12_wordBy.1 ∈ kbT := kts (i := 92) rfl
theorem cvX12_386 : kbCV "KnockBookModel" 386 MX12_wordBy 1 := ⟨kb_all5 (kt8 (i := 132) rfl rfl) wiX12_wordBy wsX12_wordBy wzX12_wordBy wcX12_wordBy, mfX12_wordBy⟩
theorem mfX12_refuse : MX12_refuse.1.cls ≠ "java/lang/invoke/MethodHandle" ∧ MX12_refuse.1.cls ≠ "java/lang/invoke/VarHandle" ∧ (parseMethodDescriptor MX12_refuse.1.desc).map (fun d => d.parameters.length) = some 1 ∧ MX12_refuse.2.2.1 ≤ 29 := by decide +kernel
theorem wcX12_refuse : Cond.code MX12_refuse.1 MX12_refuse.2.1 MX12_refuse.2.2.1 MX12_refuse.2.2.2 ∈ kbT := kt8 (i := 141) rfl rfl
theorem wzX12_refuse : Cond.initialized MX12_refuse.1.cls ∈ kbT := kt1 (i := 12) rfl rfl
theorem wiX12_refuse : Cond.instanceMethod MX12_refuse.1 ∈ kbT := kt8 (i := 140) rfl rfl
theorem wsX12_refuse : Cond.selects MX12_refuse.1.cls MX12_refuse.1 MX12_refuse.1 ∈ kbT := kts (i := 93) rfl
theorem cvX12_393 : kbCV "KnockBookModel" 393 MX12_refuse 1 := ⟨kb_all5 (kt8 (i := 138) rfl rfl) wiX12_refuse wsX12_refuse wzX12_refuse wcX12_refuse, mfX12_refuse⟩
theorem mfX12_keep : MX12_keep.1.cls ≠ "java/lang/invoke/MethodHandle" ∧ MX12_keep.1.cls ≠ "java/lang/invoke/VarHandle" ∧ (parseMethodDescriptor MX12_keep.1.desc).map (fun d => d.parameters.length) = some 0 ∧ MX12_keep.2.2.1 ≤ 29 := by decide +kernel
theorem wcX12_keep : Cond.code MX12_keep.1 MX12_keep.2.1 MX12_keep.2.2.1 MX12_keep.2.2.2 ∈ kbT := kt8 (i := 145) rfl rfl
theorem wzX12_keep : Cond.initialized MX12_keep.1.cls ∈ kbT := kt1 (i := 12) rfl rfl
theorem wiX12_keep : Cond.instanceMethod MX12_keep.1 ∈ kbT := kt8 (i := 144) rfl rfl
theorem wsX12_keep : Cond.selects MX12_keep.1.cls MX12_keep.1 MX12_keep.1 ∈ kbT := kts (i := 94) rfl
theorem cvX12_396 : kbCV "KnockBookModel" 396 MX12_keep 0 := ⟨kb_all5 (kt8 (i := 142) rfl rfl) wiX12_keep wsX12_keep wzX12_keep wcX12_keep, mfX12_keep⟩
theorem mfX12_unpack : MX12_unpack.1.cls ≠ "java/lang/invoke/MethodHandle" ∧ MX12_unpack.1.cls ≠ "java/lang/invoke/VarHandle" ∧ (parseMethodDescriptor MX12_unpack.1.desc).map (fun d => d.parameters.length) = some 2 ∧ MX12_unpack.2.2.1 ≤ 29 := by decide +kernel
theorem wcX12_unpack : Cond.code MX12_unpack.1 MX12_unpack.2.1 MX12_unpack.2.2.1 MX12_unpack.2.2.2 ∈ kbT := kt8 (i := 173) rfl rfl
theorem wzX12_unpack : Cond.initialized MX12_unpack.1.cls ∈ kbT := kt1 (i := 12) rfl rfl
theorem wiX12_unpack : Cond.instanceMethod MX12_unpack.1 ∈ kbT := kt8 (i := 172) rfl rfl
theorem wsX12_unpack : Cond.selects MX12_unpack.1.cls MX12_unpack.1 MX12_unpack.1 ∈ kbT := kts (i := 96) rfl
theorem cvX12_399 : kbCV "KnockBookModel" 399 MX12_unpack 2 := ⟨kb_all5 (kt8 (i := 170) rfl rfl) wiX12_unpack wsX12_unpack wzX12_unpack wcX12_unpack, mfX12_unpack⟩
theorem mfX12_sayMore : MX12_sayMore.1.cls ≠ "java/lang/invoke/MethodHandle" ∧ MX12_sayMore.1.cls ≠ "java/lang/invoke/VarHandle" ∧ (parseMethodDescriptor MX12_sayMore.1.desc).map (fun d => d.parameters.length) = some 0 ∧ MX12_sayMore.2.2.1 ≤ 29 := by decide +kernel
theorem wcX12_sayMore : Cond.code MX12_sayMore.1 MX12_sayMore.2.1 MX12_sayMore.2.2.1 MX12_sayMore.2.2.2 ∈ kbT := kt8 (i := 181) rfl rfl
theorem wzX12_sayMore : Cond.initialized MX12_sayMore.1.cls ∈ kbT := kt1 (i := 12) rfl rfl
theorem wiX12_sayMore : Cond.instanceMethod MX12_sayMore.1 ∈ kbT := kt8 (i := 180) rfl rfl
theorem wsX12_sayMore : Cond.selects MX12_sayMore.1.cls MX12_sayMore.1 MX12_sayMore.1 ∈ kbT := kts (i := 97) rfl
theorem cvX12_402 : kbCV "KnockBookModel" 402 MX12_sayMore 0 := ⟨kb_all5 (kt8 (i := 178) rfl rfl) wiX12_sayMore wsX12_sayMore wzX12_sayMore wcX12_sayMore, mfX12_sayMore⟩
theorem mfX12_hearOne : MX12_hearOne.1.cls ≠ "java/lang/invoke/MethodHandle" ∧ MX12_hearOne.1.cls ≠ "java/lang/invoke/VarHandle" ∧ (parseMethodDescriptor MX12_hearOne.1.desc).map (fun d => d.parameters.length) = some 1 ∧ MX12_hearOne.2.2.1 ≤ 29 := by decide +kernel
theorem wcX12_hearOne : Cond.code MX12_hearOne.1 MX12_hearOne.2.1 MX12_hearOne.2.2.1 MX12_hearOne.2.2.2 ∈ kbT := kt8 (i := 185) rfl rfl
theorem wzX12_hearOne : Cond.initialized MX12_hearOne.1.cls ∈ kbT := kt1 (i := 12) rfl rfl
theorem wiX12_hearOne : Cond.instanceMethod MX12_hearOne.1 ∈ kbT := kt8 (i := 184) rfl rfl
theorem wsX12_hearOne : Cond.selects MX12_hearOne.1.cls MX12_hearOne.1 MX12_hearOne.1 ∈ kbT := kts (i := 98) rfl
theorem cvX12_405 : kbCV "KnockBookModel" 405 MX12_hearOne 1 := ⟨kb_all5 (kt8 (i := 182) rfl rfl) wiX12_hearOne wsX12_hearOne wzX12_hearOne wcX12_hearOne, mfX12_hearOne⟩
theorem mfX12_isTail : MX12_isTail.1.cls ≠ "java/lang/invoke/MethodHandle" ∧ MX12_isTail.1.cls ≠ "java/lang/invoke/VarHandle" ∧ (parseMethodDescriptor MX12_isTail.1.desc).map (fun d => d.parameters.length) = some 2 ∧ MX12_isTail.2.2.1 ≤ 29 := by decide +kernel
theorem wcX12_isTail : Cond.code MX12_isTail.1 MX12_isTail.2.1 MX12_isTail.2.2.1 MX12_isTail.2.2.2 ∈ kbT := kt8 (i := 199) rfl rfl
theorem wzX12_isTail : Cond.initialized MX12_isTail.1.cls ∈ kbT := kt1 (i := 12) rfl rfl
theorem wiX12_isTail : Cond.instanceMethod MX12_isTail.1 ∈ kbT := kt8 (i := 198) rfl rfl
theorem wsX12_isTail : Cond.selects MX12_isTail.1.cls MX12_isTail.1 MX12_isTail.1 ∈ kbT := kts (i := 99) rfl
theorem cvX12_417 : kbCV "KnockBookModel" 417 MX12_isTail 2 := ⟨kb_all5 (kt8 (i := 196) rfl rfl) wiX12_isTail wsX12_isTail wzX12_isTail wcX12_isTail, mfX12_isTail⟩
theorem mfX12_goOn : MX12_goOn.1.cls ≠ "java/lang/invoke/MethodHandle" ∧ MX12_goOn.1.cls ≠ "java/lang/invoke/VarHandle" ∧ (parseMethodDescriptor MX12_goOn.1.desc).map (fun d => d.parameters.length) = some 1 ∧ MX12_goOn.2.2.1 ≤ 29 := by decide +kernel
theorem wcX12_goOn : Cond.code MX12_goOn.1 MX12_goOn.2.1 MX12_goOn.2.2.1 MX12_goOn.2.2.2 ∈ kbT := kt8 (i := 203) rfl rfl
theorem wzX12_goOn : Cond.initialized MX12_goOn.1.cls ∈ kbT := kt1 (i := 12) rfl rfl
theorem wiX12_goOn : Cond.instanceMethod MX12_goOn.1 ∈ kbT := kt8 (i := 202) rfl rfl
theorem wsX12_goOn : Cond.selects MX12_goOn.1.cls MX12_goOn.1 MX12_goOn.1 ∈ kbT := kts (i := 100) rfl
theorem cvX12_420 : kbCV "KnockBookModel" 420 MX12_goOn 1 := ⟨kb_all5 (kt8 (i := 200) rfl rfl) wiX12_goOn wsX12_goOn wzX12_goOn wcX12_goOn, mfX12_goOn⟩
theorem mfX12_areAlike : MX12_areAlike.1.cls ≠ "java/lang/invoke/MethodHandle" ∧ MX12_areAlike.1.cls ≠ "java/lang/invoke/VarHandle" ∧ (parseMethodDescriptor MX12_areAlike.1.desc).map (fun d => d.parameters.length) = some 3 ∧ MX12_areAlike.2.2.1 ≤ 29 := by decide +kernel
theorem wcX12_areAlike : Cond.code MX12_areAlike.1 MX12_areAlike.2.1 MX12_areAlike.2.2.1 MX12_areAlike.2.2.2 ∈ kbT := kt8 (i := 222) rfl rfl
theorem wzX12_areAlike : Cond.initialized MX12_areAlike.1.cls ∈ kbT := kt1 (i := 12) rfl rfl
theorem wiX12_areAlike : Cond.instanceMethod MX12_areAlike.1 ∈ kbT := kt8 (i := 221) rfl rfl
theorem wsX12_areAlike : Cond.selects MX12_areAlike.1.cls MX12_areAlike.1 MX12_areAlike.1 ∈ kbT := kts (i := 102) rfl
theorem cvX12_423 : kbCV "KnockBookModel" 423 MX12_areAlike 3 := ⟨kb_all5 (kt8 (i := 219) rfl rfl) wiX12_areAlike wsX12_areAlike wzX12_areAlike wcX12_areAlike, mfX12_areAlike⟩
theorem mfX12_tellsApart : MX12_tellsApart.1.cls ≠ "java/lang/invoke/MethodHandle" ∧ MX12_tellsApart.1.cls ≠ "java/lang/invoke/VarHandle" ∧ (parseMethodDescriptor MX12_tellsApart.1.desc).map (fun d => d.parameters.length) = some 1 ∧ MX12_tellsApart.2.2.1 ≤ 29 := by decide +kernel
theorem wcX12_tellsApart : Cond.code MX12_tellsApart.1 MX12_tellsApart.2.1 MX12_tellsApart.2.2.1 MX12_tellsApart.2.2.2 ∈ kbT := kt8 (i := 218) rfl rfl
theorem wzX12_tellsApart : Cond.initialized MX12_tellsApart.1.cls ∈ kbT := kt1 (i := 12) rfl rfl
theorem wiX12_tellsApart : Cond.instanceMethod MX12_tellsApart.1 ∈ kbT := kt8 (i := 217) rfl rfl
theorem wsX12_tellsApart : Cond.selects MX12_tellsApart.1.cls MX12_tellsApart.1 MX12_tellsApart.1 ∈ kbT := kts (i := 101) rfl
theorem cvX12_430 : kbCV "KnockBookModel" 430 MX12_tellsApart 1 := ⟨kb_all5 (kt8 (i := 215) rfl rfl) wiX12_tellsApart wsX12_tellsApart wzX12_tellsApart wcX12_tellsApart, mfX12_tellsApart⟩
theorem mfX12_isNew : MX12_isNew.1.cls ≠ "java/lang/invoke/MethodHandle" ∧ MX12_isNew.1.cls ≠ "java/lang/invoke/VarHandle" ∧ (parseMethodDescriptor MX12_isNew.1.desc).map (fun d => d.parameters.length) = some 2 ∧ MX12_isNew.2.2.1 ≤ 29 := by decide +kernel
theorem wcX12_isNew : Cond.code MX12_isNew.1 MX12_isNew.2.1 MX12_isNew.2.2.1 MX12_isNew.2.2.2 ∈ kbT := kt8 (i := 230) rfl rfl
theorem wzX12_isNew : Cond.initialized MX12_isNew.1.cls ∈ kbT := kt1 (i := 12) rfl rfl
theorem wiX12_isNew : Cond.instanceMethod MX12_isNew.1 ∈ kbT := kt8 (i := 229) rfl rfl
theorem wsX12_isNew : Cond.selects MX12_isNew.1.cls MX12_isNew.1 MX12_isNew.1 ∈ kbT := kts (i := 103) rfl
theorem cvX12_433 : kbCV "KnockBookModel" 433 MX12_isNew 2 := ⟨kb_all5 (kt8 (i := 227) rfl rfl) wiX12_isNew wsX12_isNew wzX12_isNew wcX12_isNew, mfX12_isNew⟩
theorem mfX12_whichNow : MX12_whichNow.1.cls ≠ "java/lang/invoke/MethodHandle" ∧ MX12_whichNow.1.cls ≠ "java/lang/invoke/VarHandle" ∧ (parseMethodDescriptor MX12_whichNow.1.desc).map (fun d => d.parameters.length) = some 0 ∧ MX12_whichNow.2.2.1 ≤ 29 := by decide +kernel
theorem wcX12_whichNow : Cond.code MX12_whichNow.1 MX12_whichNow.2.1 MX12_whichNow.2.2.1 MX12_whichNow.2.2.2 ∈ kbT := kt9 (i := 20) rfl rfl
theorem wzX12_whichNow : Cond.initialized MX12_whichNow.1.cls ∈ kbT := kt1 (i := 12) rfl rfl
theorem wiX12_whichNow : Cond.instanceMethod MX12_whichNow.1 ∈ kbT := kt9 (i := 19) rfl rfl
theorem wsX12_whichNow : Cond.selects MX12_whichNow.1.cls MX12_whichNow.1 MX12_whichNow.1 ∈ kbT := kts (i := 104) rfl
theorem cvX12_441 : kbCV "KnockBookModel" 441 MX12_whichNow 0 := ⟨kb_all5 (kt9 (i := 17) rfl rfl) wiX12_whichNow wsX12_whichNow wzX12_whichNow wcX12_whichNow, mfX12_whichNow⟩
theorem mfX12_unlike : MX12_unlike.1.cls ≠ "java/lang/invoke/MethodHandle" ∧ MX12_unlike.1.cls ≠ "java/lang/invoke/VarHandle" ∧ (parseMethodDescriptor MX12_unlike.1.desc).map (fun d => d.parameters.length) = some 2 ∧ MX12_unlike.2.2.1 ≤ 29 := by decide +kernel
theorem wcX12_unlike : Cond.code MX12_unlike.1 MX12_unlike.2.1 MX12_unlike.2.2.1 MX12_unlike.2.2.2 ∈ kbT := kt9 (i := 28) rfl rfl
theorem wzX12_unlike : Cond.initialized MX12_unlike.1.cls ∈ kbT := kt1 (i := 12) rfl rfl
theorem wiX12_unlike : Cond.instanceMethod MX12_unlike.1 ∈ kbT := kt9 (i := 27) rfl rfl
theorem wsX12_unlike : Cond.selects MX12_unlike.1.cls MX12_unlike.1 MX12_unlike.1 ∈ kbT := kts (i := 105) rfl
theorem cvX12_444 : kbCV "KnockBookModel" 444 MX12_unlike 2 := ⟨kb_all5 (kt9 (i := 25) rfl rfl) wiX12_unlike wsX12_unlike wzX12_unlike wcX12_unlike, mfX12_unlike⟩
theorem mfX12_isTold : MX12_isTold.1.cls ≠ "java/lang/invoke/MethodHandle" ∧ MX12_isTold.1.cls ≠ "java/lang/invoke/VarHandle" ∧ (parseMethodDescriptor MX12_isTold.1.desc).map (fun d => d.parameters.length) = some 2 ∧ MX12_isTold.2.2.1 ≤ 29 := by decide +kernel
theorem wcX12_isTold : Cond.code MX12_isTold.1 MX12_isTold.2.1 MX12_isTold.2.2.1 MX12_isTold.2.2.2 ∈ kbT := kt9 (i := 40) rfl rfl
theorem wzX12_isTold : Cond.initialized MX12_isTold.1.cls ∈ kbT := kt1 (i := 12) rfl rfl
theorem wiX12_isTold : Cond.instanceMethod MX12_isTold.1 ∈ kbT := kt9 (i := 39) rfl rfl
theorem wsX12_isTold : Cond.selects MX12_isTold.1.cls MX12_isTold.1 MX12_isTold.1 ∈ kbT := kts (i := 106) rfl
theorem cvX12_447 : kbCV "KnockBookModel" 447 MX12_isTold 2 := ⟨kb_all5 (kt9 (i := 37) rfl rfl) wiX12_isTold wsX12_isTold wzX12_isTold wcX12_isTold, mfX12_isTold⟩
theorem mfX12_gain : MX12_gain.1.cls ≠ "java/lang/invoke/MethodHandle" ∧ MX12_gain.1.cls ≠ "java/lang/invoke/VarHandle" ∧ (parseMethodDescriptor MX12_gain.1.desc).map (fun d => d.parameters.length) = some 3 ∧ MX12_gain.2.2.1 ≤ 29 := by decide +kernel
theorem wcX12_gain : Cond.code MX12_gain.1 MX12_gain.2.1 MX12_gain.2.2.1 MX12_gain.2.2.2 ∈ kbT := kt9 (i := 48) rfl rfl
theorem wzX12_gain : Cond.initialized MX12_gain.1.cls ∈ kbT := kt1 (i := 12) rfl rfl
theorem wiX12_gain : Cond.instanceMethod MX12_gain.1 ∈ kbT := kt9 (i := 47) rfl rfl
theorem wsX12_gain : Cond.selects MX12_gain.1.cls MX12_gain.1 MX12_gain.1 ∈ kbT := kts (i := 107) rfl
theorem cvX12_450 : kbCV "KnockBookModel" 450 MX12_gain 3 := ⟨kb_all5 (kt9 (i := 45) rfl rfl) wiX12_gain wsX12_gain wzX12_gain wcX12_gain, mfX12_gain⟩
theorem mfX12_drawOf : MX12_drawOf.1.cls ≠ "java/lang/invoke/MethodHandle" ∧ MX12_drawOf.1.cls ≠ "java/lang/invoke/VarHandle" ∧ (parseMethodDescriptor MX12_drawOf.1.desc).map (fun d => d.parameters.length) = some 1 ∧ MX12_drawOf.2.2.1 ≤ 29 := by decide +kernel
theorem wcX12_drawOf : Cond.code MX12_drawOf.1 MX12_drawOf.2.1 MX12_drawOf.2.2.1 MX12_drawOf.2.2.2 ∈ kbT := kt9 (i := 57) rfl rfl
theorem wzX12_drawOf : Cond.initialized MX12_drawOf.1.cls ∈ kbT := kt1 (i := 12) rfl rfl
theorem wiX12_drawOf : Cond.instanceMethod MX12_drawOf.1 ∈ kbT := kt9 (i := 56) rfl rfl
theorem wsX12_drawOf : Cond.selects MX12_drawOf.1.cls MX12_drawOf.1 MX12_drawOf.1 ∈ kbT := kts (i := 108) rfl
theorem cvX12_459 : kbCV "KnockBookModel" 459 MX12_drawOf 1 := ⟨kb_all5 (kt9 (i := 54) rfl rfl) wiX12_drawOf wsX12_drawOf wzX12_drawOf wcX12_drawOf, mfX12_drawOf⟩
theorem mfX12_frozen : MX12_frozen.1.cls ≠ "java/lang/invoke/MethodHandle" ∧ MX12_frozen.1.cls ≠ "java/lang/invoke/VarHandle" ∧ (parseMethodDescriptor MX12_frozen.1.desc).map (fun d => d.parameters.length) = some 2 ∧ MX12_frozen.2.2.1 ≤ 29 := by decide +kernel
theorem wcX12_frozen : Cond.code MX12_frozen.1 MX12_frozen.2.1 MX12_frozen.2.2.1 MX12_frozen.2.2.2 ∈ kbT := kt9 (i := 62) rfl rfl
theorem wzX12_frozen : Cond.initialized MX12_frozen.1.cls ∈ kbT := kt1 (i := 12) rfl rfl
theorem wiX12_frozen : Cond.instanceMethod MX12_frozen.1 ∈ kbT := kt9 (i := 61) rfl rfl
theorem wsX12_frozen : Cond.selects MX12_frozen.1.cls MX12_frozen.1 MX12_frozen.1 ∈ kbT := kts (i := 109) rfl
theorem cvX12_462 : kbCV "KnockBookModel" 462 MX12_frozen 2 := ⟨kb_all5 (kt9 (i := 59) rfl rfl) wiX12_frozen wsX12_frozen wzX12_frozen wcX12_frozen, mfX12_frozen⟩
theorem mfX6_isRow : MX6_isRow.1.cls ≠ "java/lang/invoke/MethodHandle" ∧ MX6_isRow.1.cls ≠ "java/lang/invoke/VarHandle" ∧ (parseMethodDescriptor MX6_isRow.1.desc).map (fun d => d.parameters.length) = some 1 ∧ MX6_isRow.2.2.1 ≤ 29 := by decide +kernel
theorem wcX6_isRow : Cond.code MX6_isRow.1 MX6_isRow.2.1 MX6_isRow.2.2.1 MX6_isRow.2.2.2 ∈ kbT := kt2 (i := 169) rfl rfl
theorem wzX6_isRow : Cond.initialized MX6_isRow.1.cls ∈ kbT := kt1 (i := 23) rfl rfl
theorem wtX6_isRow : Cond.static MX6_isRow.1 ∈ kbT := kt2 (i := 168) rfl rfl
theorem csX11_235 : kbCS "KnockBook" 235 MX6_isRow 1 := ⟨kb_all4 (kt2 (i := 167) rfl rfl) wtX6_isRow wzX6_isRow wcX6_isRow, mfX6_isRow⟩
theorem mfX6_size : MX6_size.1.cls ≠ "java/lang/invoke/MethodHandle" ∧ MX6_size.1.cls ≠ "java/lang/invoke/VarHandle" ∧ (parseMethodDescriptor MX6_size.1.desc).map (fun d => d.parameters.length) = some 1 ∧ MX6_size.2.2.1 ≤ 29 := by decide +kernel
theorem wcX6_size : Cond.code MX6_size.1 MX6_size.2.1 MX6_size.2.2.1 MX6_size.2.2.2 ∈ kbT := kt2 (i := 173) rfl rfl
theorem wzX6_size : Cond.initialized MX6_size.1.cls ∈ kbT := kt1 (i := 23) rfl rfl
theorem wtX6_size : Cond.static MX6_size.1 ∈ kbT := kt2 (i := 172) rfl rfl
theorem csX11_240 : kbCS "KnockBook" 240 MX6_size 1 := ⟨kb_all4 (kt2 (i := 171) rfl rfl) wtX6_size wzX6_size wcX6_size, mfX6_size⟩
theorem mfX11_isPart : MX11_isPart.1.cls ≠ "java/lang/invoke/MethodHandle" ∧ MX11_isPart.1.cls ≠ "java/lang/invoke/VarHandle" ∧ (parseMethodDescriptor MX11_isPart.1.desc).map (fun d => d.parameters.length) = some 1 ∧ MX11_isPart.2.2.1 ≤ 29 := by decide +kernel
theorem wcX11_isPart : Cond.code MX11_isPart.1 MX11_isPart.2.1 MX11_isPart.2.2.1 MX11_isPart.2.2.2 ∈ kbT := kt2 (i := 182) rfl rfl
theorem wzX11_isPart : Cond.initialized MX11_isPart.1.cls ∈ kbT := kt1 (i := 1) rfl rfl
theorem wtX11_isPart : Cond.static MX11_isPart.1 ∈ kbT := kt2 (i := 181) rfl rfl
theorem csX11_245 : kbCS "KnockBook" 245 MX11_isPart 1 := ⟨kb_all4 (kt2 (i := 180) rfl rfl) wtX11_isPart wzX11_isPart wcX11_isPart, mfX11_isPart⟩
theorem mfX11_isWorth : MX11_isWorth.1.cls ≠ "java/lang/invoke/MethodHandle" ∧ MX11_isWorth.1.cls ≠ "java/lang/invoke/VarHandle" ∧ (parseMethodDescriptor MX11_isWorth.1.desc).map (fun d => d.parameters.length) = some 1 ∧ MX11_isWorth.2.2.1 ≤ 29 := by decide +kernel
theorem wcX11_isWorth : Cond.code MX11_isWorth.1 MX11_isWorth.2.1 MX11_isWorth.2.2.1 MX11_isWorth.2.2.2 ∈ kbT := kt2 (i := 185) rfl rfl
theorem wzX11_isWorth : Cond.initialized MX11_isWorth.1.cls ∈ kbT := kt1 (i := 1) rfl rfl
theorem wtX11_isWorth : Cond.static MX11_isWorth.1 ∈ kbT := kt2 (i := 184) rfl rfl
theorem csX11_248 : kbCS "KnockBook" 248 MX11_isWorth 1 := ⟨kb_all4 (kt2 (i := 183) rfl rfl) wtX11_isWorth wzX11_isWorth wcX11_isWorth, mfX11_isWorth⟩
theorem mfX0_soundNamed : MX0_soundNamed.1.cls ≠ "java/lang/invoke/MethodHandle" ∧ MX0_soundNamed.1.cls ≠ "java/lang/invoke/VarHandle" ∧ (parseMethodDescriptor MX0_soundNamed.1.desc).map (fun d => d.parameters.length) = some 1 ∧ MX0_soundNamed.2.2.1 ≤ 29 := by decide +kernel
theorem wcX0_soundNamed : Cond.code MX0_soundNamed.1 MX0_soundNamed.2.1 MX0_soundNamed.2.2.1 MX0_soundNamed.2.2.2 ∈ kbT := kt4 (i := 134) rfl rfl
theorem wzX0_soundNamed : Cond.initialized MX0_soundNamed.1.cls ∈ kbT := kt1 (i := 2) rfl rfl
theorem wtX0_soundNamed : Cond.static MX0_soundNamed.1 ∈ kbT := kt4 (i := 133) rfl rfl
theorem csX0_125 : kbCS "KnockBook$BookText" 125 MX0_soundNamed 1 := ⟨kb_all4 (kt4 (i := 132) rfl rfl) wtX0_soundNamed wzX0_soundNamed wcX0_soundNamed, mfX0_soundNamed⟩
theorem mfX6_handBit : MX6_handBit.1.cls ≠ "java/lang/invoke/MethodHandle" ∧ MX6_handBit.1.cls ≠ "java/lang/invoke/VarHandle" ∧ (parseMethodDescriptor MX6_handBit.1.desc).map (fun d => d.parameters.length) = some 1 ∧ MX6_handBit.2.2.1 ≤ 29 := by decide +kernel
theorem wcX6_handBit : Cond.code MX6_handBit.1 MX6_handBit.2.1 MX6_handBit.2.2.1 MX6_handBit.2.2.2 ∈ kbT := kt4 (i := 155) rfl rfl
theorem wzX6_handBit : Cond.initialized MX6_handBit.1.cls ∈ kbT := kt1 (i := 23) rfl rfl
theorem wtX6_handBit : Cond.static MX6_handBit.1 ∈ kbT := kt4 (i := 154) rfl rfl
theorem csX0_131 : kbCS "KnockBook$BookText" 131 MX6_handBit 1 := ⟨kb_all4 (kt4 (i := 153) rfl rfl) wtX6_handBit wzX6_handBit wcX6_handBit, mfX6_handBit⟩
theorem mfX0_isBlank : MX0_isBlank.1.cls ≠ "java/lang/invoke/MethodHandle" ∧ MX0_isBlank.1.cls ≠ "java/lang/invoke/VarHandle" ∧ (parseMethodDescriptor MX0_isBlank.1.desc).map (fun d => d.parameters.length) = some 1 ∧ MX0_isBlank.2.2.1 ≤ 29 := by decide +kernel
theorem wcX0_isBlank : Cond.code MX0_isBlank.1 MX0_isBlank.2.1 MX0_isBlank.2.2.1 MX0_isBlank.2.2.2 ∈ kbT := kt3 (i := 219) rfl rfl
theorem wzX0_isBlank : Cond.initialized MX0_isBlank.1.cls ∈ kbT := kt1 (i := 2) rfl rfl
theorem wtX0_isBlank : Cond.static MX0_isBlank.1 ∈ kbT := kt3 (i := 218) rfl rfl
theorem csX0_205 : kbCS "KnockBook$BookText" 205 MX0_isBlank 1 := ⟨kb_all4 (kt3 (i := 217) rfl rfl) wtX0_isBlank wzX0_isBlank wcX0_isBlank, mfX0_isBlank⟩
theorem mfX0_isLetter : MX0_isLetter.1.cls ≠ "java/lang/invoke/MethodHandle" ∧ MX0_isLetter.1.cls ≠ "java/lang/invoke/VarHandle" ∧ (parseMethodDescriptor MX0_isLetter.1.desc).map (fun d => d.parameters.length) = some 1 ∧ MX0_isLetter.2.2.1 ≤ 29 := by decide +kernel
theorem wcX0_isLetter : Cond.code MX0_isLetter.1 MX0_isLetter.2.1 MX0_isLetter.2.2.1 MX0_isLetter.2.2.2 ∈ kbT := kt3 (i := 223) rfl rfl
theorem wzX0_isLetter : Cond.initialized MX0_isLetter.1.cls ∈ kbT := kt1 (i := 2) rfl rfl
theorem wtX0_isLetter : Cond.static MX0_isLetter.1 ∈ kbT := kt3 (i := 222) rfl rfl
theorem csX0_215 : kbCS "KnockBook$BookText" 215 MX0_isLetter 1 := ⟨kb_all4 (kt3 (i := 221) rfl rfl) wtX0_isLetter wzX0_isLetter wcX0_isLetter, mfX0_isLetter⟩
theorem mfX0_isDigit : MX0_isDigit.1.cls ≠ "java/lang/invoke/MethodHandle" ∧ MX0_isDigit.1.cls ≠ "java/lang/invoke/VarHandle" ∧ (parseMethodDescriptor MX0_isDigit.1.desc).map (fun d => d.parameters.length) = some 1 ∧ MX0_isDigit.2.2.1 ≤ 29 := by decide +kernel
theorem wcX0_isDigit : Cond.code MX0_isDigit.1 MX0_isDigit.2.1 MX0_isDigit.2.2.1 MX0_isDigit.2.2.2 ∈ kbT := kt3 (i := 226) rfl rfl
theorem wzX0_isDigit : Cond.initialized MX0_isDigit.1.cls ∈ kbT := kt1 (i := 2) rfl rfl
theorem wtX0_isDigit : Cond.static MX0_isDigit.1 ∈ kbT := kt3 (i := 225) rfl rfl
theorem csX0_218 : kbCS "KnockBook$BookText" 218 MX0_isDigit 1 := ⟨kb_all4 (kt3 (i := 224) rfl rfl) wtX0_isDigit wzX0_isDigit wcX0_isDigit, mfX0_isDigit⟩
theorem mfX6_slice : MX6_slice.1.cls ≠ "java/lang/invoke/MethodHandle" ∧ MX6_slice.1.cls ≠ "java/lang/invoke/VarHandle" ∧ (parseMethodDescriptor MX6_slice.1.desc).map (fun d => d.parameters.length) = some 4 ∧ MX6_slice.2.2.1 ≤ 29 := by decide +kernel
theorem wcX6_slice : Cond.code MX6_slice.1 MX6_slice.2.1 MX6_slice.2.2.1 MX6_slice.2.2.2 ∈ kbT := kt3 (i := 14) rfl rfl
theorem wzX6_slice : Cond.initialized MX6_slice.1.cls ∈ kbT := kt1 (i := 23) rfl rfl
theorem wtX6_slice : Cond.static MX6_slice.1 ∈ kbT := kt3 (i := 13) rfl rfl
theorem csX1_39 : kbCS "KnockBook$Codes" 39 MX6_slice 4 := ⟨kb_all4 (kt3 (i := 12) rfl rfl) wtX6_slice wzX6_slice wcX6_slice, mfX6_slice⟩
theorem mfX6_soundsIn : MX6_soundsIn.1.cls ≠ "java/lang/invoke/MethodHandle" ∧ MX6_soundsIn.1.cls ≠ "java/lang/invoke/VarHandle" ∧ (parseMethodDescriptor MX6_soundsIn.1.desc).map (fun d => d.parameters.length) = some 1 ∧ MX6_soundsIn.2.2.1 ≤ 29 := by decide +kernel
theorem wcX6_soundsIn : Cond.code MX6_soundsIn.1 MX6_soundsIn.2.1 MX6_soundsIn.2.2.1 MX6_soundsIn.2.2.2 ∈ kbT := kt5 (i := 48) rfl rfl
theorem wzX6_soundsIn : Cond.initialized MX6_soundsIn.1.cls ∈ kbT := kt1 (i := 23) rfl rfl
theorem wtX6_soundsIn : Cond.static MX6_soundsIn.1 ∈ kbT := kt5 (i := 47) rfl rfl
theorem csX2_28 : kbCS "KnockBook$Doors" 28 MX6_soundsIn 1 := ⟨kb_all4 (kt5 (i := 46) rfl rfl) wtX6_soundsIn wzX6_soundsIn wcX6_soundsIn, mfX6_soundsIn⟩
theorem mfX6_withoutLast : MX6_withoutLast.1.cls ≠ "java/lang/invoke/MethodHandle" ∧ MX6_withoutLast.1.cls ≠ "java/lang/invoke/VarHandle" ∧ (parseMethodDescriptor MX6_withoutLast.1.desc).map (fun d => d.parameters.length) = some 1 ∧ MX6_withoutLast.2.2.1 ≤ 29 := by decide +kernel
theorem wcX6_withoutLast : Cond.code MX6_withoutLast.1 MX6_withoutLast.2.1 MX6_withoutLast.2.2.1 MX6_withoutLast.2.2.2 ∈ kbT := kt3 (i := 64) rfl rfl
theorem wzX6_withoutLast : Cond.initialized MX6_withoutLast.1.cls ∈ kbT := kt1 (i := 23) rfl rfl
theorem wtX6_withoutLast : Cond.static MX6_withoutLast.1 ∈ kbT := kt3 (i := 63) rfl rfl
theorem csX2_34 : kbCS "KnockBook$Doors" 34 MX6_withoutLast 1 := ⟨kb_all4 (kt3 (i := 62) rfl rfl) wtX6_withoutLast wzX6_withoutLast wcX6_withoutLast, mfX6_withoutLast⟩
theorem mfX6_withoutPalms : MX6_withoutPalms.1.cls ≠ "java/lang/invoke/MethodHandle" ∧ MX6_withoutPalms.1.cls ≠ "java/lang/invoke/VarHandle" ∧ (parseMethodDescriptor MX6_withoutPalms.1.desc).map (fun d => d.parameters.length) = some 1 ∧ MX6_withoutPalms.2.2.1 ≤ 29 := by decide +kernel
theorem wcX6_withoutPalms : Cond.code MX6_withoutPalms.1 MX6_withoutPalms.2.1 MX6_withoutPalms.2.2.1 MX6_withoutPalms.2.2.2 ∈ kbT := kt3 (i := 67) rfl rfl
theorem wzX6_withoutPalms : Cond.initialized MX6_withoutPalms.1.cls ∈ kbT := kt1 (i := 23) rfl rfl
theorem wtX6_withoutPalms : Cond.static MX6_withoutPalms.1 ∈ kbT := kt3 (i := 66) rfl rfl
theorem csX2_37 : kbCS "KnockBook$Doors" 37 MX6_withoutPalms 1 := ⟨kb_all4 (kt3 (i := 65) rfl rfl) wtX6_withoutPalms wzX6_withoutPalms wcX6_withoutPalms, mfX6_withoutPalms⟩
theorem mfX6_knucklesForRings : MX6_knucklesForRings.1.cls ≠ "java/lang/invoke/MethodHandle" ∧ MX6_knucklesForRings.1.cls ≠ "java/lang/invoke/VarHandle" ∧ (parseMethodDescriptor MX6_knucklesForRings.1.desc).map (fun d => d.parameters.length) = some 1 ∧ MX6_knucklesForRings.2.2.1 ≤ 29 := by decide +kernel
theorem wcX6_knucklesForRings : Cond.code MX6_knucklesForRings.1 MX6_knucklesForRings.2.1 MX6_knucklesForRings.2.2.1 MX6_knucklesForRings.2.2.2 ∈ kbT := kt3 (i := 70) rfl rfl
theorem wzX6_knucklesForRings : Cond.initialized MX6_knucklesForRings.1.cls ∈ kbT := kt1 (i := 23) rfl rfl
theorem wtX6_knucklesForRings : Cond.static MX6_knucklesForRings.1 ∈ kbT := kt3 (i := 69) rfl rfl
theorem csX2_40 : kbCS "KnockBook$Doors" 40 MX6_knucklesForRings 1 := ⟨kb_all4 (kt3 (i := 68) rfl rfl) wtX6_knucklesForRings wzX6_knucklesForRings wcX6_knucklesForRings, mfX6_knucklesForRings⟩
theorem mfX6_withLast : MX6_withLast.1.cls ≠ "java/lang/invoke/MethodHandle" ∧ MX6_withLast.1.cls ≠ "java/lang/invoke/VarHandle" ∧ (parseMethodDescriptor MX6_withLast.1.desc).map (fun d => d.parameters.length) = some 2 ∧ MX6_withLast.2.2.1 ≤ 29 := by decide +kernel
theorem wcX6_withLast : Cond.code MX6_withLast.1 MX6_withLast.2.1 MX6_withLast.2.2.1 MX6_withLast.2.2.2 ∈ kbT := kt3 (i := 77) rfl rfl
theorem wzX6_withLast : Cond.initialized MX6_withLast.1.cls ∈ kbT := kt1 (i := 23) rfl rfl
theorem wtX6_withLast : Cond.static MX6_withLast.1 ∈ kbT := kt3 (i := 76) rfl rfl
theorem csX3_45 : kbCS "KnockBook$House" 45 MX6_withLast 2 := ⟨kb_all4 (kt3 (i := 75) rfl rfl) wtX6_withLast wzX6_withLast wcX6_withLast, mfX6_withLast⟩
theorem csX3_96 : kbCS "KnockBook$House" 96 MX6_isRow 1 := ⟨kb_all4 (kt6 (i := 27) rfl rfl) wtX6_isRow wzX6_isRow wcX6_isRow, mfX6_isRow⟩
theorem csX3_99 : kbCS "KnockBook$House" 99 MX6_soundsIn 1 := ⟨kb_all4 (kt6 (i := 28) rfl rfl) wtX6_soundsIn wzX6_soundsIn wcX6_soundsIn, mfX6_soundsIn⟩
theorem mfX4_joined : MX4_joined.1.cls ≠ "java/lang/invoke/MethodHandle" ∧ MX4_joined.1.cls ≠ "java/lang/invoke/VarHandle" ∧ (parseMethodDescriptor MX4_joined.1.desc).map (fun d => d.parameters.length) = some 3 ∧ MX4_joined.2.2.1 ≤ 29 := by decide +kernel
theorem wcX4_joined : Cond.code MX4_joined.1 MX4_joined.2.1 MX4_joined.2.2.1 MX4_joined.2.2.2 ∈ kbT := kt5 (i := 120) rfl rfl
theorem wzX4_joined : Cond.initialized MX4_joined.1.cls ∈ kbT := kt1 (i := 6) rfl rfl
theorem wtX4_joined : Cond.static MX4_joined.1 ∈ kbT := kt5 (i := 119) rfl rfl
theorem csX4_57 : kbCS "KnockBook$Joins" 57 MX4_joined 3 := ⟨kb_all4 (kt5 (i := 118) rfl rfl) wtX4_joined wzX4_joined wcX4_joined, mfX4_joined⟩
theorem mfX5_net : MX5_net.1.cls ≠ "java/lang/invoke/MethodHandle" ∧ MX5_net.1.cls ≠ "java/lang/invoke/VarHandle" ∧ (parseMethodDescriptor MX5_net.1.desc).map (fun d => d.parameters.length) = some 3 ∧ MX5_net.2.2.1 ≤ 29 := by decide +kernel
theorem wcX5_net : Cond.code MX5_net.1 MX5_net.2.1 MX5_net.2.2.1 MX5_net.2.2.2 ∈ kbT := kt6 (i := 148) rfl rfl
theorem wzX5_net : Cond.initialized MX5_net.1.cls ∈ kbT := kt1 (i := 11) rfl rfl
theorem wtX5_net : Cond.static MX5_net.1 ∈ kbT := kt6 (i := 147) rfl rfl
theorem csX5_76 : kbCS "KnockBook$Play" 76 MX5_net 3 := ⟨kb_all4 (kt6 (i := 146) rfl rfl) wtX5_net wzX5_net wcX5_net, mfX5_net⟩
theorem mfX5_frozen : MX5_frozen.1.cls ≠ "java/lang/invoke/MethodHandle" ∧ MX5_frozen.1.cls ≠ "java/lang/invoke/VarHandle" ∧ (parseMethodDescriptor MX5_frozen.1.desc).map (fun d => d.parameters.length) = some 2 ∧ MX5_frozen.2.2.1 ≤ 29 := by decide +kernel
theorem wcX5_frozen : Cond.code MX5_frozen.1 MX5_frozen.2.1 MX5_frozen.2.2.1 MX5_frozen.2.2.2 ∈ kbT := kt6 (i := 168) rfl rfl
theorem wzX5_frozen : Cond.initialized MX5_frozen.1.cls ∈ kbT := kt1 (i := 11) rfl rfl
theorem wtX5_frozen : Cond.static MX5_frozen.1 ∈ kbT := kt6 (i := 167) rfl rfl
theorem csX5_102 : kbCS "KnockBook$Play" 102 MX5_frozen 2 := ⟨kb_all4 (kt6 (i := 166) rfl rfl) wtX5_frozen wzX5_frozen wcX5_frozen, mfX5_frozen⟩
theorem mfX6_withoutFirst : MX6_withoutFirst.1.cls ≠ "java/lang/invoke/MethodHandle" ∧ MX6_withoutFirst.1.cls ≠ "java/lang/invoke/VarHandle" ∧ (parseMethodDescriptor MX6_withoutFirst.1.desc).map (fun d => d.parameters.length) = some 1 ∧ MX6_withoutFirst.2.2.1 ≤ 29 := by decide +kernel
theorem wcX6_withoutFirst : Cond.code MX6_withoutFirst.1 MX6_withoutFirst.2.1 MX6_withoutFirst.2.2.1 MX6_withoutFirst.2.2.2 ∈ kbT := kt6 (i := 171) rfl rfl
theorem wzX6_withoutFirst : Cond.initialized MX6_withoutFirst.1.cls ∈ kbT := kt1 (i := 23) rfl rfl
theorem wtX6_withoutFirst : Cond.static MX6_withoutFirst.1 ∈ kbT := kt6 (i := 170) rfl rfl
theorem csX5_106 : kbCS "KnockBook$Play" 106 MX6_withoutFirst 1 := ⟨kb_all4 (kt6 (i := 169) rfl rfl) wtX6_withoutFirst wzX6_withoutFirst wcX6_withoutFirst, mfX6_withoutFirst⟩
theorem csX5_111 : kbCS "KnockBook$Play" 111 MX6_withoutLast 1 := ⟨kb_all4 (kt6 (i := 172) rfl rfl) wtX6_withoutLast wzX6_withoutLast wcX6_withoutLast, mfX6_withoutLast⟩
theorem mfX6_withFirst : MX6_withFirst.1.cls ≠ "java/lang/invoke/MethodHandle" ∧ MX6_withFirst.1.cls ≠ "java/lang/invoke/VarHandle" ∧ (parseMethodDescriptor MX6_withFirst.1.desc).map (fun d => d.parameters.length) = some 2 ∧ MX6_withFirst.2.2.1 ≤ 29 := by decide +kernel
theorem wcX6_withFirst : Cond.code MX6_withFirst.1 MX6_withFirst.2.1 MX6_withFirst.2.2.1 MX6_withFirst.2.2.2 ∈ kbT := kt6 (i := 175) rfl rfl
theorem wzX6_withFirst : Cond.initialized MX6_withFirst.1.cls ∈ kbT := kt1 (i := 23) rfl rfl
theorem wtX6_withFirst : Cond.static MX6_withFirst.1 ∈ kbT := kt6 (i := 174) rfl rfl
theorem csX5_114 : kbCS "KnockBook$Play" 114 MX6_withFirst 2 := ⟨kb_all4 (kt6 (i := 173) rfl rfl) wtX6_withFirst wzX6_withFirst wcX6_withFirst, mfX6_withFirst⟩
theorem csX6_16 : kbCS "KnockBook$Rows" 16 MX6_slice 4 := ⟨kb_all4 (kt6 (i := 9) rfl rfl) wtX6_slice wzX6_slice wcX6_slice, mfX6_slice⟩
theorem csX6_20 : kbCS "KnockBook$Rows" 20 MX6_size 1 := ⟨kb_all4 (kt3 (i := 78) rfl rfl) wtX6_size wzX6_size wcX6_size, mfX6_size⟩
theorem csX6_24 : kbCS "KnockBook$Rows" 24 MX6_handBit 1 := ⟨kb_all4 (kt5 (i := 49) rfl rfl) wtX6_handBit wzX6_handBit wcX6_handBit, mfX6_handBit⟩
theorem mfX6_spread : MX6_spread.1.cls ≠ "java/lang/invoke/MethodHandle" ∧ MX6_spread.1.cls ≠ "java/lang/invoke/VarHandle" ∧ (parseMethodDescriptor MX6_spread.1.desc).map (fun d => d.parameters.length) = some 2 ∧ MX6_spread.2.2.1 ≤ 29 := by decide +kernel
theorem wcX6_spread : Cond.code MX6_spread.1 MX6_spread.2.1 MX6_spread.2.2.1 MX6_spread.2.2.2 ∈ kbT := kt5 (i := 160) rfl rfl
theorem wzX6_spread : Cond.initialized MX6_spread.1.cls ∈ kbT := kt1 (i := 23) rfl rfl
theorem wtX6_spread : Cond.static MX6_spread.1 ∈ kbT := kt5 (i := 159) rfl rfl
theorem csX7_25 : kbCS "KnockBook$Ruler" 25 MX6_spread 2 := ⟨kb_all4 (kt5 (i := 158) rfl rfl) wtX6_spread wzX6_spread wcX6_spread, mfX6_spread⟩
theorem csX8_33 : kbCS "KnockBook$Speech" 33 MX6_size 1 := ⟨kb_all4 (kt5 (i := 100) rfl rfl) wtX6_size wzX6_size wcX6_size, mfX6_size⟩
theorem csX8_51 : kbCS "KnockBook$Speech" 51 MX6_slice 4 := ⟨kb_all4 (kt5 (i := 105) rfl rfl) wtX6_slice wzX6_slice wcX6_slice, mfX6_slice⟩
theorem csX8_91 : kbCS "KnockBook$Speech" 91 MX6_spread 2 := ⟨kb_all4 (kt5 (i := 227) rfl rfl) wtX6_spread wzX6_spread wcX6_spread, mfX6_spread⟩
theorem mfX6_soundAt : MX6_soundAt.1.cls ≠ "java/lang/invoke/MethodHandle" ∧ MX6_soundAt.1.cls ≠ "java/lang/invoke/VarHandle" ∧ (parseMethodDescriptor MX6_soundAt.1.desc).map (fun d => d.parameters.length) = some 3 ∧ MX6_soundAt.2.2.1 ≤ 29 := by decide +kernel
theorem wcX6_soundAt : Cond.code MX6_soundAt.1 MX6_soundAt.2.1 MX6_soundAt.2.2.1 MX6_soundAt.2.2.2 ∈ kbT := kt6 (i := 8) rfl rfl
theorem wzX6_soundAt : Cond.initialized MX6_soundAt.1.cls ∈ kbT := kt1 (i := 23) rfl rfl
theorem wtX6_soundAt : Cond.static MX6_soundAt.1 ∈ kbT := kt6 (i := 7) rfl rfl
theorem csX8_109 : kbCS "KnockBook$Speech" 109 MX6_soundAt 3 := ⟨kb_all4 (kt6 (i := 6) rfl rfl) wtX6_soundAt wzX6_soundAt wcX6_soundAt, mfX6_soundAt⟩
theorem csX10_32 : kbCS "KnockBook$Words" 32 MX6_size 1 := ⟨kb_all4 (kt2 (i := 198) rfl rfl) wtX6_size wzX6_size wcX6_size, mfX6_size⟩
theorem mfX12_isIn : MX12_isIn.1.cls ≠ "java/lang/invoke/MethodHandle" ∧ MX12_isIn.1.cls ≠ "java/lang/invoke/VarHandle" ∧ (parseMethodDescriptor MX12_isIn.1.desc).map (fun d => d.parameters.length) = some 3 ∧ MX12_isIn.2.2.1 ≤ 29 := by decide +kernel
theorem wcX12_isIn : Cond.code MX12_isIn.1 MX12_isIn.2.1 MX12_isIn.2.2.1 MX12_isIn.2.2.2 ∈ kbT := kt8 (i := 38) rfl rfl
theorem wzX12_isIn : Cond.initialized MX12_isIn.1.cls ∈ kbT := kt1 (i := 12) rfl rfl
theorem wtX12_isIn : Cond.static MX12_isIn.1 ∈ kbT := kt8 (i := 37) rfl rfl
theorem csX12_165 : kbCS "KnockBookModel" 165 MX12_isIn 3 := ⟨kb_all4 (kt8 (i := 36) rfl rfl) wtX12_isIn wzX12_isIn wcX12_isIn, mfX12_isIn⟩
theorem mfX12_isLetter : MX12_isLetter.1.cls ≠ "java/lang/invoke/MethodHandle" ∧ MX12_isLetter.1.cls ≠ "java/lang/invoke/VarHandle" ∧ (parseMethodDescriptor MX12_isLetter.1.desc).map (fun d => d.parameters.length) = some 1 ∧ MX12_isLetter.2.2.1 ≤ 29 := by decide +kernel
theorem wcX12_isLetter : Cond.code MX12_isLetter.1 MX12_isLetter.2.1 MX12_isLetter.2.2.1 MX12_isLetter.2.2.2 ∈ kbT := kt7 (i := 164) rfl rfl
theorem wzX12_isLetter : Cond.initialized MX12_isLetter.1.cls ∈ kbT := kt1 (i := 12) rfl rfl
theorem wtX12_isLetter : Cond.static MX12_isLetter.1 ∈ kbT := kt7 (i := 163) rfl rfl
theorem csX12_189 : kbCS "KnockBookModel" 189 MX12_isLetter 1 := ⟨kb_all4 (kt7 (i := 162) rfl rfl) wtX12_isLetter wzX12_isLetter wcX12_isLetter, mfX12_isLetter⟩
theorem mfX12_isDigit : MX12_isDigit.1.cls ≠ "java/lang/invoke/MethodHandle" ∧ MX12_isDigit.1.cls ≠ "java/lang/invoke/VarHandle" ∧ (parseMethodDescriptor MX12_isDigit.1.desc).map (fun d => d.parameters.length) = some 1 ∧ MX12_isDigit.2.2.1 ≤ 29 := by decide +kernel
theorem wcX12_isDigit : Cond.code MX12_isDigit.1 MX12_isDigit.2.1 MX12_isDigit.2.2.1 MX12_isDigit.2.2.2 ∈ kbT := kt7 (i := 167) rfl rfl
theorem wzX12_isDigit : Cond.initialized MX12_isDigit.1.cls ∈ kbT := kt1 (i := 12) rfl rfl
theorem wtX12_isDigit : Cond.static MX12_isDigit.1 ∈ kbT := kt7 (i := 166) rfl rfl
theorem csX12_193 : kbCS "KnockBookModel" 193 MX12_isDigit 1 := ⟨kb_all4 (kt7 (i := 165) rfl rfl) wtX12_isDigit wzX12_isDigit wcX12_isDigit, mfX12_isDigit⟩
theorem mfX12_isMark : MX12_isMark.1.cls ≠ "java/lang/invoke/MethodHandle" ∧ MX12_isMark.1.cls ≠ "java/lang/invoke/VarHandle" ∧ (parseMethodDescriptor MX12_isMark.1.desc).map (fun d => d.parameters.length) = some 1 ∧ MX12_isMark.2.2.1 ≤ 29 := by decide +kernel
theorem wcX12_isMark : Cond.code MX12_isMark.1 MX12_isMark.2.1 MX12_isMark.2.2.1 MX12_isMark.2.2.2 ∈ kbT := kt7 (i := 172) rfl rfl
theorem wzX12_isMark : Cond.initialized MX12_isMark.1.cls ∈ kbT := kt1 (i := 12) rfl rfl
theorem wtX12_isMark : Cond.static MX12_isMark.1 ∈ kbT := kt7 (i := 171) rfl rfl
theorem csX12_206 : kbCS "KnockBookModel" 206 MX12_isMark 1 := ⟨kb_all4 (kt7 (i := 170) rfl rfl) wtX12_isMark wzX12_isMark wcX12_isMark, mfX12_isMark⟩
theorem mfX12_soundOf : MX12_soundOf.1.cls ≠ "java/lang/invoke/MethodHandle" ∧ MX12_soundOf.1.cls ≠ "java/lang/invoke/VarHandle" ∧ (parseMethodDescriptor MX12_soundOf.1.desc).map (fun d => d.parameters.length) = some 1 ∧ MX12_soundOf.2.2.1 ≤ 29 := by decide +kernel
theorem wcX12_soundOf : Cond.code MX12_soundOf.1 MX12_soundOf.2.1 MX12_soundOf.2.2.1 MX12_soundOf.2.2.2 ∈ kbT := kt8 (i := 5) rfl rfl
theorem wzX12_soundOf : Cond.initialized MX12_soundOf.1.cls ∈ kbT := kt1 (i := 12) rfl rfl
theorem wtX12_soundOf : Cond.static MX12_soundOf.1 ∈ kbT := kt8 (i := 4) rfl rfl
theorem csX12_277 : kbCS "KnockBookModel" 277 MX12_soundOf 1 := ⟨kb_all4 (kt8 (i := 3) rfl rfl) wtX12_soundOf wzX12_soundOf wcX12_soundOf, mfX12_soundOf⟩
theorem mfX12_takeHalf : MX12_takeHalf.1.cls ≠ "java/lang/invoke/MethodHandle" ∧ MX12_takeHalf.1.cls ≠ "java/lang/invoke/VarHandle" ∧ (parseMethodDescriptor MX12_takeHalf.1.desc).map (fun d => d.parameters.length) = some 1 ∧ MX12_takeHalf.2.2.1 ≤ 29 := by decide +kernel
theorem wcX12_takeHalf : Cond.code MX12_takeHalf.1 MX12_takeHalf.2.1 MX12_takeHalf.2.2.1 MX12_takeHalf.2.2.2 ∈ kbT := kt8 (i := 16) rfl rfl
theorem wzX12_takeHalf : Cond.initialized MX12_takeHalf.1.cls ∈ kbT := kt1 (i := 12) rfl rfl
theorem wtX12_takeHalf : Cond.static MX12_takeHalf.1 ∈ kbT := kt8 (i := 15) rfl rfl
theorem csX12_301 : kbCS "KnockBookModel" 301 MX12_takeHalf 1 := ⟨kb_all4 (kt8 (i := 14) rfl rfl) wtX12_takeHalf wzX12_takeHalf wcX12_takeHalf, mfX12_takeHalf⟩
theorem mfX12_isOf : MX12_isOf.1.cls ≠ "java/lang/invoke/MethodHandle" ∧ MX12_isOf.1.cls ≠ "java/lang/invoke/VarHandle" ∧ (parseMethodDescriptor MX12_isOf.1.desc).map (fun d => d.parameters.length) = some 2 ∧ MX12_isOf.2.2.1 ≤ 29 := by decide +kernel
theorem wcX12_isOf : Cond.code MX12_isOf.1 MX12_isOf.2.1 MX12_isOf.2.2.1 MX12_isOf.2.2.2 ∈ kbT := kt8 (i := 45) rfl rfl
theorem wzX12_isOf : Cond.initialized MX12_isOf.1.cls ∈ kbT := kt1 (i := 12) rfl rfl
theorem wtX12_isOf : Cond.static MX12_isOf.1 ∈ kbT := kt8 (i := 44) rfl rfl
theorem csX12_318 : kbCS "KnockBookModel" 318 MX12_isOf 2 := ⟨kb_all4 (kt8 (i := 43) rfl rfl) wtX12_isOf wzX12_isOf wcX12_isOf, mfX12_isOf⟩
theorem mfX12_sizeOf : MX12_sizeOf.1.cls ≠ "java/lang/invoke/MethodHandle" ∧ MX12_sizeOf.1.cls ≠ "java/lang/invoke/VarHandle" ∧ (parseMethodDescriptor MX12_sizeOf.1.desc).map (fun d => d.parameters.length) = some 1 ∧ MX12_sizeOf.2.2.1 ≤ 29 := by decide +kernel
theorem wcX12_sizeOf : Cond.code MX12_sizeOf.1 MX12_sizeOf.2.1 MX12_sizeOf.2.2.1 MX12_sizeOf.2.2.2 ∈ kbT := kt8 (i := 27) rfl rfl
theorem wzX12_sizeOf : Cond.initialized MX12_sizeOf.1.cls ∈ kbT := kt1 (i := 12) rfl rfl
theorem wtX12_sizeOf : Cond.static MX12_sizeOf.1 ∈ kbT := kt8 (i := 26) rfl rfl
theorem csX12_322 : kbCS "KnockBookModel" 322 MX12_sizeOf 1 := ⟨kb_all4 (kt8 (i := 25) rfl rfl) wtX12_sizeOf wzX12_sizeOf wcX12_sizeOf, mfX12_sizeOf⟩
theorem mfX12_can : MX12_can.1.cls ≠ "java/lang/invoke/MethodHandle" ∧ MX12_can.1.cls ≠ "java/lang/invoke/VarHandle" ∧ (parseMethodDescriptor MX12_can.1.desc).map (fun d => d.parameters.length) = some 2 ∧ MX12_can.2.2.1 ≤ 29 := by decide +kernel
theorem wcX12_can : Cond.code MX12_can.1 MX12_can.2.1 MX12_can.2.2.1 MX12_can.2.2.2 ∈ kbT := kt8 (i := 42) rfl rfl
theorem wzX12_can : Cond.initialized MX12_can.1.cls ∈ kbT := kt1 (i := 12) rfl rfl
theorem wtX12_can : Cond.static MX12_can.1 ∈ kbT := kt8 (i := 41) rfl rfl
theorem csX12_325 : kbCS "KnockBookModel" 325 MX12_can 2 := ⟨kb_all4 (kt8 (i := 40) rfl rfl) wtX12_can wzX12_can wcX12_can, mfX12_can⟩
theorem mfX12_isRow : MX12_isRow.1.cls ≠ "java/lang/invoke/MethodHandle" ∧ MX12_isRow.1.cls ≠ "java/lang/invoke/VarHandle" ∧ (parseMethodDescriptor MX12_isRow.1.desc).map (fun d => d.parameters.length) = some 1 ∧ MX12_isRow.2.2.1 ≤ 29 := by decide +kernel
theorem wcX12_isRow : Cond.code MX12_isRow.1 MX12_isRow.2.1 MX12_isRow.2.2.1 MX12_isRow.2.2.2 ∈ kbT := kt8 (i := 72) rfl rfl
theorem wzX12_isRow : Cond.initialized MX12_isRow.1.cls ∈ kbT := kt1 (i := 12) rfl rfl
theorem wtX12_isRow : Cond.static MX12_isRow.1 ∈ kbT := kt8 (i := 71) rfl rfl
theorem csX12_345 : kbCS "KnockBookModel" 345 MX12_isRow 1 := ⟨kb_all4 (kt8 (i := 70) rfl rfl) wtX12_isRow wzX12_isRow wcX12_isRow, mfX12_isRow⟩
theorem mfX12_reckon : MX12_reckon.1.cls ≠ "java/lang/invoke/MethodHandle" ∧ MX12_reckon.1.cls ≠ "java/lang/invoke/VarHandle" ∧ (parseMethodDescriptor MX12_reckon.1.desc).map (fun d => d.parameters.length) = some 3 ∧ MX12_reckon.2.2.1 ≤ 29 := by decide +kernel
theorem wcX12_reckon : Cond.code MX12_reckon.1 MX12_reckon.2.1 MX12_reckon.2.2.1 MX12_reckon.2.2.2 ∈ kbT := kt8 (i := 104) rfl rfl
theorem wzX12_reckon : Cond.initialized MX12_reckon.1.cls ∈ kbT := kt1 (i := 12) rfl rfl
theorem wtX12_reckon : Cond.static MX12_reckon.1 ∈ kbT := kt8 (i := 103) rfl rfl
theorem csX12_348 : kbCS "KnockBookModel" 348 MX12_reckon 3 := ⟨kb_all4 (kt8 (i := 102) rfl rfl) wtX12_reckon wzX12_reckon wcX12_reckon, mfX12_reckon⟩
theorem mfX12_tellRow : MX12_tellRow.1.cls ≠ "java/lang/invoke/MethodHandle" ∧ MX12_tellRow.1.cls ≠ "java/lang/invoke/VarHandle" ∧ (parseMethodDescriptor MX12_tellRow.1.desc).map (fun d => d.parameters.length) = some 2 ∧ MX12_tellRow.2.2.1 ≤ 29 := by decide +kernel
theorem wcX12_tellRow : Cond.code MX12_tellRow.1 MX12_tellRow.2.1 MX12_tellRow.2.2.1 MX12_tellRow.2.2.2 ∈ kbT := kt8 (i := 119) rfl rfl
theorem wzX12_tellRow : Cond.initialized MX12_tellRow.1.cls ∈ kbT := kt1 (i := 12) rfl rfl
theorem wtX12_tellRow : Cond.static MX12_tellRow.1 ∈ kbT := kt8 (i := 118) rfl rfl
theorem csX12_372 : kbCS "KnockBookModel" 372 MX12_tellRow 2 := ⟨kb_all4 (kt8 (i := 117) rfl rfl) wtX12_tellRow wzX12_tellRow wcX12_tellRow, mfX12_tellRow⟩
theorem mfX12_power : MX12_power.1.cls ≠ "java/lang/invoke/MethodHandle" ∧ MX12_power.1.cls ≠ "java/lang/invoke/VarHandle" ∧ (parseMethodDescriptor MX12_power.1.desc).map (fun d => d.parameters.length) = some 1 ∧ MX12_power.2.2.1 ≤ 29 := by decide +kernel
theorem wcX12_power : Cond.code MX12_power.1 MX12_power.2.1 MX12_power.2.2.1 MX12_power.2.2.2 ∈ kbT := kt8 (i := 195) rfl rfl
theorem wzX12_power : Cond.initialized MX12_power.1.cls ∈ kbT := kt1 (i := 12) rfl rfl
theorem wtX12_power : Cond.static MX12_power.1 ∈ kbT := kt8 (i := 194) rfl rfl
theorem csX12_408 : kbCS "KnockBookModel" 408 MX12_power 1 := ⟨kb_all4 (kt8 (i := 193) rfl rfl) wtX12_power wzX12_power wcX12_power, mfX12_power⟩
theorem mfX12_behind : MX12_behind.1.cls ≠ "java/lang/invoke/MethodHandle" ∧ MX12_behind.1.cls ≠ "java/lang/invoke/VarHandle" ∧ (parseMethodDescriptor MX12_behind.1.desc).map (fun d => d.parameters.length) = some 2 ∧ MX12_behind.2.2.1 ≤ 29 := by decide +kernel
theorem wcX12_behind : Cond.code MX12_behind.1 MX12_behind.2.1 MX12_behind.2.2.1 MX12_behind.2.2.2 ∈ kbT := kt8 (i := 192) rfl rfl
theorem wzX12_behind : Cond.initialized MX12_behind.1.cls ∈ kbT := kt1 (i := 12) rfl rfl
theorem wtX12_behind : Cond.static MX12_behind.1 ∈ kbT := kt8 (i := 191) rfl rfl
theorem csX12_414 : kbCS "KnockBookModel" 414 MX12_behind 2 := ⟨kb_all4 (kt8 (i := 190) rfl rfl) wtX12_behind wzX12_behind wcX12_behind, mfX12_behind⟩
theorem mfX12_bitsOf : MX12_bitsOf.1.cls ≠ "java/lang/invoke/MethodHandle" ∧ MX12_bitsOf.1.cls ≠ "java/lang/invoke/VarHandle" ∧ (parseMethodDescriptor MX12_bitsOf.1.desc).map (fun d => d.parameters.length) = some 1 ∧ MX12_bitsOf.2.2.1 ≤ 29 := by decide +kernel
theorem wcX12_bitsOf : Cond.code MX12_bitsOf.1 MX12_bitsOf.2.1 MX12_bitsOf.2.2.1 MX12_bitsOf.2.2.2 ∈ kbT := kt8 (i := 214) rfl rfl
theorem wzX12_bitsOf : Cond.initialized MX12_bitsOf.1.cls ∈ kbT := kt1 (i := 12) rfl rfl
theorem wtX12_bitsOf : Cond.static MX12_bitsOf.1 ∈ kbT := kt8 (i := 213) rfl rfl
theorem csX12_427 : kbCS "KnockBookModel" 427 MX12_bitsOf 1 := ⟨kb_all4 (kt8 (i := 212) rfl rfl) wtX12_bitsOf wzX12_bitsOf wcX12_bitsOf, mfX12_bitsOf⟩
theorem mfX12_be : MX12_be.1.cls ≠ "java/lang/invoke/MethodHandle" ∧ MX12_be.1.cls ≠ "java/lang/invoke/VarHandle" ∧ (parseMethodDescriptor MX12_be.1.desc).map (fun d => d.parameters.length) = some 2 ∧ MX12_be.2.2.1 ≤ 29 := by decide +kernel
theorem wcX12_be : Cond.code MX12_be.1 MX12_be.2.1 MX12_be.2.2.1 MX12_be.2.2.2 ∈ kbT := kt9 (i := 69) rfl rfl
theorem wzX12_be : Cond.initialized MX12_be.1.cls ∈ kbT := kt1 (i := 12) rfl rfl
theorem wtX12_be : Cond.static MX12_be.1 ∈ kbT := kt9 (i := 68) rfl rfl
theorem csX12_471 : kbCS "KnockBookModel" 471 MX12_be 2 := ⟨kb_all4 (kt9 (i := 67) rfl rfl) wtX12_be wzX12_be wcX12_be, mfX12_be⟩
theorem lsX0_78 : (("KnockBook$BookText", 78, "joins", 31) : String × Nat × String × Nat) ∈ kbSR := List.mem_of_getElem? (i := 31) rfl
theorem lsX0_142 : (("KnockBook$BookText", 142, "or", 27) : String × Nat × String × Nat) ∈ kbSR := List.mem_of_getElem? (i := 14) rfl
theorem lsX0_152 : (("KnockBook$BookText", 152, "and", 28) : String × Nat × String × Nat) ∈ kbSR := List.mem_of_getElem? (i := 15) rfl
theorem lsX0_154 : (("KnockBook$BookText", 154, "not", 29) : String × Nat × String × Nat) ∈ kbSR := List.mem_of_getElem? (i := 16) rfl
theorem lsX0_171 : (("KnockBook$BookText", 171, "left", 7) : String × Nat × String × Nat) ∈ kbSR := List.mem_of_getElem? (i := 17) rfl
theorem lsX0_173 : (("KnockBook$BookText", 173, "right", 8) : String × Nat × String × Nat) ∈ kbSR := List.mem_of_getElem? (i := 18) rfl
theorem lsX0_175 : (("KnockBook$BookText", 175, "first", 9) : String × Nat × String × Nat) ∈ kbSR := List.mem_of_getElem? (i := 19) rfl
theorem lsX0_177 : (("KnockBook$BookText", 177, "next", 10) : String × Nat × String × Nat) ∈ kbSR := List.mem_of_getElem? (i := 20) rfl
theorem lsX0_179 : (("KnockBook$BookText", 179, "long", 11) : String × Nat × String × Nat) ∈ kbSR := List.mem_of_getElem? (i := 21) rfl
theorem lsX0_181 : (("KnockBook$BookText", 181, "same", 12) : String × Nat × String × Nat) ∈ kbSR := List.mem_of_getElem? (i := 22) rfl
theorem lsX0_183 : (("KnockBook$BookText", 183, "thing", 0) : String × Nat × String × Nat) ∈ kbSR := List.mem_of_getElem? (i := 23) rfl
theorem lsX0_185 : (("KnockBook$BookText", 185, "deed", 1) : String × Nat × String × Nat) ∈ kbSR := List.mem_of_getElem? (i := 24) rfl
theorem lsX0_187 : (("KnockBook$BookText", 187, "prayer", 2) : String × Nat × String × Nat) ∈ kbSR := List.mem_of_getElem? (i := 25) rfl
theorem lsX0_189 : (("KnockBook$BookText", 189, "pine", 3) : String × Nat × String × Nat) ∈ kbSR := List.mem_of_getElem? (i := 26) rfl
theorem lsX0_191 : (("KnockBook$BookText", 191, "oak", 4) : String × Nat × String × Nat) ∈ kbSR := List.mem_of_getElem? (i := 27) rfl
theorem lsX0_193 : (("KnockBook$BookText", 193, "felt", 5) : String × Nat × String × Nat) ∈ kbSR := List.mem_of_getElem? (i := 28) rfl
theorem lsX0_195 : (("KnockBook$BookText", 195, "glass", 6) : String × Nat × String × Nat) ∈ kbSR := List.mem_of_getElem? (i := 29) rfl
theorem lsX0_221 : (("KnockBook$BookText", 221, ";()+-*/<=", 30) : String × Nat × String × Nat) ∈ kbSR := List.mem_of_getElem? (i := 30) rfl
theorem lsX12_262 : (("KnockBookModel", 262, "not", 29) : String × Nat × String × Nat) ∈ kbSR := List.mem_of_getElem? (i := 38) rfl
theorem lsX12_270 : (("KnockBookModel", 270, "and", 28) : String × Nat × String × Nat) ∈ kbSR := List.mem_of_getElem? (i := 40) rfl
theorem lsX12_275 : (("KnockBookModel", 275, "or", 27) : String × Nat × String × Nat) ∈ kbSR := List.mem_of_getElem? (i := 41) rfl
theorem lsX12_284 : (("KnockBookModel", 284, "joins", 31) : String × Nat × String × Nat) ∈ kbSR := List.mem_of_getElem? (i := 42) rfl
theorem liX1_56 : Cond.constant "KnockBook$Codes" 56 1000000 ∈ kbT := kt3 (i := 6) rfl rfl
theorem liX5_105 : Cond.constant "KnockBook$Play" 105 1103515245 ∈ kbT := kt6 (i := 165) rfl rfl
theorem liX6_9 : Cond.constant "KnockBook$Rows" 9 244140624 ∈ kbT := kt2 (i := 170) rfl rfl
theorem liX7_35 : Cond.constant "KnockBook$Ruler" 35 1000000 ∈ kbT := kt5 (i := 176) rfl rfl
theorem liX8_95 : Cond.constant "KnockBook$Speech" 95 1000000 ∈ kbT := kt5 (i := 228) rfl rfl
theorem liX12_169 : Cond.constant "KnockBookModel" 169 244140624 ∈ kbT := kt8 (i := 73) rfl rfl
theorem liX12_199 : Cond.constant "KnockBookModel" 199 100000 ∈ kbT := kt7 (i := 168) rfl rfl
theorem liX12_334 : Cond.constantLong "KnockBookModel" 334 4 ∈ kbT := kt8 (i := 39) rfl rfl
theorem liX12_389 : Cond.constantLong "KnockBookModel" 389 2 ∈ kbT := kt8 (i := 136) rfl rfl
theorem liX12_391 : Cond.constantLong "KnockBookModel" 391 99 ∈ kbT := kt8 (i := 137) rfl rfl
theorem liX12_436 : Cond.constantLong "KnockBookModel" 436 12 ∈ kbT := kt9 (i := 3) rfl rfl
theorem liX12_456 : Cond.constant "KnockBookModel" 456 1103515245 ∈ kbT := kt9 (i := 58) rfl rfl
theorem liX12_457 : Cond.constantLong "KnockBookModel" 457 60 ∈ kbT := kt9 (i := 53) rfl rfl
theorem stX3_93 : Cond.fieldLinkNest "KnockBook$House" 93 "KnockBook$Rows" "FIVES" "[I" "KnockBook" ∈ kbNF := List.mem_of_getElem? (i := 39) rfl
theorem stX6_10 : Cond.fieldLink "KnockBook$Rows" 10 "KnockBook$Rows" "FIVES" "[I" ∈ kbT := kt2 (i := 174) rfl rfl
theorem mlX0_209 : Cond.methodLink "KnockBook$BookText" 209 Lib.Math.min.name ∈ kbT := kt3 (i := 220) rfl rfl
theorem mlX1_67 : Cond.methodLink "KnockBook$Codes" 67 Lib.Math.min.name ∈ kbT := kt3 (i := 19) rfl rfl
theorem mlX2_22 : Cond.methodLink "KnockBook$Doors" 22 arraycopyName ∈ kbT := kt4 (i := 222) rfl rfl
theorem mlX4_25 : Cond.methodLink "KnockBook$Joins" 25 Lib.Math.min.name ∈ kbT := kt4 (i := 227) rfl rfl
theorem mlX4_31 : Cond.methodLink "KnockBook$Joins" 31 arraycopyName ∈ kbT := kt4 (i := 228) rfl rfl
theorem mlX7_45 : Cond.methodLink "KnockBook$Ruler" 45 Lib.Math.abs.name ∈ kbT := kt5 (i := 177) rfl rfl
theorem mlX8_64 : Cond.methodLink "KnockBook$Speech" 64 Lib.Math.min.name ∈ kbT := kt5 (i := 121) rfl rfl
theorem mlX8_85 : Cond.methodLink "KnockBook$Speech" 85 Lib.Math.max.name ∈ kbT := kt6 (i := 68) rfl rfl
theorem mlX9_45 : Cond.methodLink "KnockBook$State" 45 arraycopyName ∈ kbT := kt2 (i := 203) rfl rfl
theorem mlX10_37 : Cond.methodLink "KnockBook$Words" 37 arraycopyName ∈ kbT := kt3 (i := 125) rfl rfl
theorem mlX12_200 : Cond.methodLink "KnockBookModel" 200 Lib.Math.min.name ∈ kbT := kt7 (i := 169) rfl rfl
theorem mlX12_438 : Cond.methodLink "KnockBookModel" 438 Lib.Math.max.name ∈ kbT := kt9 (i := 4) rfl rfl
