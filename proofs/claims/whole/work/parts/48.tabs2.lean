abbrev MX11_needWord : kbMt := (yX11_needWord, cX11_needWord, 2, none)
abbrev MX11_needDoor : kbMt := (yX11_needDoor, cX11_needDoor, 2, none)
abbrev MX11_needWhat : kbMt := (yX11_needWhat, cX11_needWhat, 2, none)
abbrev MX11_needRow : kbMt := (yX11_needRow, cX11_needRow, 1, none)
abbrev MX11_book : kbMt := (yX11_book, cX11_book, 3, (some .int))
abbrev MX11_count : kbMt := (yX11_count, cX11_count, 2, (some .int))
abbrev MX11_word : kbMt := (yX11_word, cX11_word, 3, (some .int))
abbrev MX11_door : kbMt := (yX11_door, cX11_door, 3, (some .int))
abbrev MX11_hears : kbMt := (yX11_hears, cX11_hears, 3, (some .int))
abbrev MX11_read : kbMt := (yX11_read, cX11_read, 3, (some .long))
abbrev MX11_reading : kbMt := (yX11_reading, cX11_reading, 3, (some .int))
abbrev MX11_apart : kbMt := (yX11_apart, cX11_apart, 3, (some .int))
abbrev MX11_nearest : kbMt := (yX11_nearest, cX11_nearest, 4, (some .int))
abbrev MX11_die : kbMt := (yX11_die, cX11_die, 3, (some .int))
abbrev MX11_worth : kbMt := (yX11_worth, cX11_worth, 4, (some .int))
abbrev MX11_part : kbMt := (yX11_part, cX11_part, 4, (some .int))
abbrev MX11_rain : kbMt := (yX11_rain, cX11_rain, 3, (some .boolean))
abbrev MX11_mend : kbMt := (yX11_mend, cX11_mend, 2, (some .int))
abbrev MX11_newWord : kbMt := (yX11_newWord, cX11_newWord, 2, (some .int))
abbrev MX11_span : kbMt := (yX11_span, cX11_span, 3, (some .int))
abbrev MX11_closest : kbMt := (yX11_closest, cX11_closest, 3, (some .int))
abbrev MX11_said : kbMt := (yX11_said, cX11_said, 2, (some .int))
abbrev MX11_howMany : kbMt := (yX11_howMany, cX11_howMany, 2, (some .long))
abbrev MX11_hear : kbMt := (yX11_hear, cX11_hear, 3, (some .int))
abbrev MX11_listen : kbMt := (yX11_listen, cX11_listen, 4, (some .int))
abbrev MX11_telegraph : kbMt := (yX11_telegraph, cX11_telegraph, 3, (some .int))
abbrev MX11_game : kbMt := (yX11_game, cX11_game, 4, (some .int))
abbrev MX11_frost : kbMt := (yX11_frost, cX11_frost, 4, (some .int))
abbrev ML_book : kbMt := (yL_book, cL_book, 4, (some .int))
abbrev ML_count : kbMt := (yL_count, cL_count, 4, (some .int))
abbrev ML_word : kbMt := (yL_word, cL_word, 5, (some .int))
abbrev ML_door : kbMt := (yL_door, cL_door, 5, (some .int))
abbrev ML_hears : kbMt := (yL_hears, cL_hears, 5, (some .int))
abbrev ML_read : kbMt := (yL_read, cL_read, 5, (some .int))
abbrev ML_reading : kbMt := (yL_reading, cL_reading, 5, (some .int))
abbrev ML_apart : kbMt := (yL_apart, cL_apart, 5, (some .int))
abbrev ML_nearest : kbMt := (yL_nearest, cL_nearest, 5, (some .int))
abbrev ML_die : kbMt := (yL_die, cL_die, 4, (some .int))
abbrev ML_worth : kbMt := (yL_worth, cL_worth, 5, (some .int))
abbrev ML_part : kbMt := (yL_part, cL_part, 5, (some .int))
abbrev ML_rain : kbMt := (yL_rain, cL_rain, 5, (some .int))
abbrev ML_mend : kbMt := (yL_mend, cL_mend, 4, (some .int))
abbrev ML_newWord : kbMt := (yL_newWord, cL_newWord, 4, (some .int))
abbrev ML_span : kbMt := (yL_span, cL_span, 5, (some .int))
abbrev ML_closest : kbMt := (yL_closest, cL_closest, 4, (some .int))
abbrev ML_said : kbMt := (yL_said, cL_said, 4, (some .int))
abbrev ML_howMany : kbMt := (yL_howMany, cL_howMany, 4, (some .int))
abbrev ML_hear : kbMt := (yL_hear, cL_hear, 5, (some .int))
abbrev ML_listen : kbMt := (yL_listen, cL_listen, 4, (some .int))
abbrev ML_telegraph : kbMt := (yL_telegraph, cL_telegraph, 5, (some .int))
abbrev ML_game : kbMt := (yL_game, cL_game, 6, (some .int))
abbrev ML_frost : kbMt := (yL_frost, cL_frost, 6, (some .int))
theorem sh97 : kbSh[97]? = some (.inl (1, 1, [])) := rfl
theorem flX11_29 : kbFL "KnockBook" 29 10 3 true (.object "KnockBook$Doors") := ⟨RX11, TX11, 11, tyX11, rfl, by decide, kbX11_in, tyX11_ok, nmX11, rfl, rfl, Or.inl (kt2 (i := 120) rfl rfl)⟩
theorem flX11_49 : kbFL "KnockBook" 49 10 5 true (.object "KnockBook$Ruler") := ⟨RX11, TX11, 11, tyX11, rfl, by decide, kbX11_in, tyX11_ok, nmX11, rfl, rfl, Or.inl (kt2 (i := 122) rfl rfl)⟩
theorem flX11_58 : kbFL "KnockBook" 58 10 6 true (.object "KnockBook$Speech") := ⟨RX11, TX11, 11, tyX11, rfl, by decide, kbX11_in, tyX11_ok, nmX11, rfl, rfl, Or.inl (kt2 (i := 123) rfl rfl)⟩
theorem flX11_83 : kbFL "KnockBook" 83 10 9 true (.object "KnockBook$Play") := ⟨RX11, TX11, 11, tyX11, rfl, by decide, kbX11_in, tyX11_ok, nmX11, rfl, rfl, Or.inl (kt2 (i := 126) rfl rfl)⟩
theorem flX11_110 : kbFL "KnockBook" 110 0 1 true (.object "KnockBook$Words") := ⟨RX0, TX0, 12, tyX0, rfl, by decide, kbX0_in, tyX0_ok, nmX0, rfl, rfl, Or.inr ⟨"KnockBook", List.mem_of_getElem? (i := 1) rfl⟩⟩
theorem flX11_114 : kbFL "KnockBook" 114 0 2 true (.object "KnockBook$Doors") := ⟨RX0, TX0, 12, tyX0, rfl, by decide, kbX0_in, tyX0_ok, nmX0, rfl, rfl, Or.inr ⟨"KnockBook", List.mem_of_getElem? (i := 2) rfl⟩⟩
theorem flX11_119 : kbFL "KnockBook" 119 0 3 true (.array .int) := ⟨RX0, TX0, 12, tyX0, rfl, by decide, kbX0_in, tyX0_ok, nmX0, rfl, rfl, Or.inr ⟨"KnockBook", List.mem_of_getElem? (i := 3) rfl⟩⟩
theorem flX11_122 : kbFL "KnockBook" 122 0 5 false (.int) := ⟨RX0, TX0, 12, tyX0, rfl, by decide, kbX0_in, tyX0_ok, nmX0, rfl, rfl, Or.inr ⟨"KnockBook", List.mem_of_getElem? (i := 4) rfl⟩⟩
theorem flX11_140 : kbFL "KnockBook" 140 2 2 false (.int) := ⟨RX2, TX2, 3, tyX2, rfl, by decide, kbX2_in, tyX2_ok, nmX2, rfl, rfl, Or.inr ⟨"KnockBook", List.mem_of_getElem? (i := 7) rfl⟩⟩
theorem flX11_141 : kbFL "KnockBook" 141 8 7 false (.int) := ⟨RX9, TX9, 8, tyX9, rfl, by decide, kbX9_in, tyX9_ok, nmX9, rfl, rfl, Or.inr ⟨"KnockBook", List.mem_of_getElem? (i := 8) rfl⟩⟩
theorem flX11_165 : kbFL "KnockBook" 165 9 0 true (.array .int) := ⟨RX10, TX10, 5, tyX10, rfl, by decide, kbX10_in, tyX10_ok, nmX10, rfl, rfl, Or.inr ⟨"KnockBook", List.mem_of_getElem? (i := 11) rfl⟩⟩
theorem flX11_168 : kbFL "KnockBook" 168 9 1 true (.array .int) := ⟨RX10, TX10, 5, tyX10, rfl, by decide, kbX10_in, tyX10_ok, nmX10, rfl, rfl, Or.inr ⟨"KnockBook", List.mem_of_getElem? (i := 12) rfl⟩⟩
theorem flX11_171 : kbFL "KnockBook" 171 9 2 true (.array .int) := ⟨RX10, TX10, 5, tyX10, rfl, by decide, kbX10_in, tyX10_ok, nmX10, rfl, rfl, Or.inr ⟨"KnockBook", List.mem_of_getElem? (i := 13) rfl⟩⟩
theorem flX11_174 : kbFL "KnockBook" 174 9 3 true (.array .int) := ⟨RX10, TX10, 5, tyX10, rfl, by decide, kbX10_in, tyX10_ok, nmX10, rfl, rfl, Or.inr ⟨"KnockBook", List.mem_of_getElem? (i := 14) rfl⟩⟩
theorem flX11_185 : kbFL "KnockBook" 185 2 0 true (.array .int) := ⟨RX2, TX2, 3, tyX2, rfl, by decide, kbX2_in, tyX2_ok, nmX2, rfl, rfl, Or.inr ⟨"KnockBook", List.mem_of_getElem? (i := 15) rfl⟩⟩
theorem flX11_188 : kbFL "KnockBook" 188 2 1 true (.array .int) := ⟨RX2, TX2, 3, tyX2, rfl, by decide, kbX2_in, tyX2_ok, nmX2, rfl, rfl, Or.inr ⟨"KnockBook", List.mem_of_getElem? (i := 16) rfl⟩⟩
theorem flX11_312 : kbFL "KnockBook" 312 8 2 true (.array .int) := ⟨RX9, TX9, 8, tyX9, rfl, by decide, kbX9_in, tyX9_ok, nmX9, rfl, rfl, Or.inr ⟨"KnockBook", List.mem_of_getElem? (i := 17) rfl⟩⟩
theorem flX11_315 : kbFL "KnockBook" 315 8 3 true (.array .int) := ⟨RX9, TX9, 8, tyX9, rfl, by decide, kbX9_in, tyX9_ok, nmX9, rfl, rfl, Or.inr ⟨"KnockBook", List.mem_of_getElem? (i := 18) rfl⟩⟩
theorem flX11_335 : kbFL "KnockBook" 335 5 5 false (.int) := ⟨RX5, TX5, 11, tyX5, rfl, by decide, kbX5_in, tyX5_ok, nmX5, rfl, rfl, Or.inr ⟨"KnockBook", List.mem_of_getElem? (i := 19) rfl⟩⟩
theorem flX11_338 : kbFL "KnockBook" 338 5 6 false (.int) := ⟨RX5, TX5, 11, tyX5, rfl, by decide, kbX5_in, tyX5_ok, nmX5, rfl, rfl, Or.inr ⟨"KnockBook", List.mem_of_getElem? (i := 20) rfl⟩⟩
theorem flX11_346 : kbFL "KnockBook" 346 5 8 false (.int) := ⟨RX5, TX5, 11, tyX5, rfl, by decide, kbX5_in, tyX5_ok, nmX5, rfl, rfl, Or.inr ⟨"KnockBook", List.mem_of_getElem? (i := 21) rfl⟩⟩
theorem flX11_349 : kbFL "KnockBook" 349 5 9 false (.int) := ⟨RX5, TX5, 11, tyX5, rfl, by decide, kbX5_in, tyX5_ok, nmX5, rfl, rfl, Or.inr ⟨"KnockBook", List.mem_of_getElem? (i := 22) rfl⟩⟩
theorem flX11_352 : kbFL "KnockBook" 352 5 10 false (.int) := ⟨RX5, TX5, 11, tyX5, rfl, by decide, kbX5_in, tyX5_ok, nmX5, rfl, rfl, Or.inr ⟨"KnockBook", List.mem_of_getElem? (i := 24) rfl⟩⟩
theorem mfX0_parse : MX0_parse.1.cls ≠ "java/lang/invoke/MethodHandle" ∧ MX0_parse.1.cls ≠ "java/lang/invoke/VarHandle" ∧ (parseMethodDescriptor MX0_parse.1.desc).map (fun d => d.parameters.length) = some 1 ∧ MX0_parse.2.2.1 ≤ 29 := by decide +kernel
theorem wcX0_parse : Cond.code MX0_parse.1 MX0_parse.2.1 MX0_parse.2.2.1 MX0_parse.2.2.2 ∈ kbT := kt3 (i := 208) rfl rfl
theorem wzX0_parse : Cond.initialized MX0_parse.1.cls ∈ kbT := kt1 (i := 2) rfl rfl
theorem wiX0_parse : Cond.instanceMethod MX0_parse.1 ∈ kbT := kt3 (i := 206) rfl rfl
theorem wsX0_parse : Cond.selects MX0_parse.1.cls MX0_parse.1 MX0_parse.1 ∈ kbT := kt3 (i := 207) rfl rfl
theorem cvX11_102 : kbCV "KnockBook" 102 MX0_parse 1 := ⟨kb_all5 (kt3 (i := 205) rfl rfl) wiX0_parse wsX0_parse wzX0_parse wcX0_parse, mfX0_parse⟩
theorem mfX9_begin : MX9_begin.1.cls ≠ "java/lang/invoke/MethodHandle" ∧ MX9_begin.1.cls ≠ "java/lang/invoke/VarHandle" ∧ (parseMethodDescriptor MX9_begin.1.desc).map (fun d => d.parameters.length) = some 1 ∧ MX9_begin.2.2.1 ≤ 29 := by decide +kernel
theorem wcX9_begin : Cond.code MX9_begin.1 MX9_begin.2.1 MX9_begin.2.2.1 MX9_begin.2.2.2 ∈ kbT := kt4 (i := 217) rfl rfl
theorem wzX9_begin : Cond.initialized MX9_begin.1.cls ∈ kbT := kt1 (i := 5) rfl rfl
theorem wiX9_begin : Cond.instanceMethod MX9_begin.1 ∈ kbT := kt4 (i := 215) rfl rfl
theorem wsX9_begin : Cond.selects MX9_begin.1.cls MX9_begin.1 MX9_begin.1 ∈ kbT := kt4 (i := 216) rfl rfl
theorem cvX11_111 : kbCV "KnockBook" 111 MX9_begin 1 := ⟨kb_all5 (kt4 (i := 214) rfl rfl) wiX9_begin wsX9_begin wzX9_begin wcX9_begin, mfX9_begin⟩
theorem mfX2_copyFrom : MX2_copyFrom.1.cls ≠ "java/lang/invoke/MethodHandle" ∧ MX2_copyFrom.1.cls ≠ "java/lang/invoke/VarHandle" ∧ (parseMethodDescriptor MX2_copyFrom.1.desc).map (fun d => d.parameters.length) = some 1 ∧ MX2_copyFrom.2.2.1 ≤ 29 := by decide +kernel
theorem wcX2_copyFrom : Cond.code MX2_copyFrom.1 MX2_copyFrom.2.1 MX2_copyFrom.2.2.1 MX2_copyFrom.2.2.2 ∈ kbT := kt4 (i := 221) rfl rfl
theorem wzX2_copyFrom : Cond.initialized MX2_copyFrom.1.cls ∈ kbT := kt1 (i := 4) rfl rfl
theorem wiX2_copyFrom : Cond.instanceMethod MX2_copyFrom.1 ∈ kbT := kt4 (i := 219) rfl rfl
theorem wsX2_copyFrom : Cond.selects MX2_copyFrom.1.cls MX2_copyFrom.1 MX2_copyFrom.1 ∈ kbT := kt4 (i := 220) rfl rfl
theorem cvX11_115 : kbCV "KnockBook" 115 MX2_copyFrom 1 := ⟨kb_all5 (kt4 (i := 218) rfl rfl) wiX2_copyFrom wsX2_copyFrom wzX2_copyFrom wcX2_copyFrom, mfX2_copyFrom⟩
theorem mfX4_adopt : MX4_adopt.1.cls ≠ "java/lang/invoke/MethodHandle" ∧ MX4_adopt.1.cls ≠ "java/lang/invoke/VarHandle" ∧ (parseMethodDescriptor MX4_adopt.1.desc).map (fun d => d.parameters.length) = some 2 ∧ MX4_adopt.2.2.1 ≤ 29 := by decide +kernel
theorem wcX4_adopt : Cond.code MX4_adopt.1 MX4_adopt.2.1 MX4_adopt.2.2.1 MX4_adopt.2.2.2 ∈ kbT := kt4 (i := 226) rfl rfl
theorem wzX4_adopt : Cond.initialized MX4_adopt.1.cls ∈ kbT := kt1 (i := 6) rfl rfl
theorem wiX4_adopt : Cond.instanceMethod MX4_adopt.1 ∈ kbT := kt4 (i := 224) rfl rfl
theorem wsX4_adopt : Cond.selects MX4_adopt.1.cls MX4_adopt.1 MX4_adopt.1 ∈ kbT := kt4 (i := 225) rfl rfl
theorem cvX11_124 : kbCV "KnockBook" 124 MX4_adopt 2 := ⟨kb_all5 (kt4 (i := 223) rfl rfl) wiX4_adopt wsX4_adopt wzX4_adopt wcX4_adopt, mfX4_adopt⟩
theorem mfX10_worthOfAll : MX10_worthOfAll.1.cls ≠ "java/lang/invoke/MethodHandle" ∧ MX10_worthOfAll.1.cls ≠ "java/lang/invoke/VarHandle" ∧ (parseMethodDescriptor MX10_worthOfAll.1.desc).map (fun d => d.parameters.length) = some 0 ∧ MX10_worthOfAll.2.2.1 ≤ 29 := by decide +kernel
theorem wcX10_worthOfAll : Cond.code MX10_worthOfAll.1 MX10_worthOfAll.2.1 MX10_worthOfAll.2.2.1 MX10_worthOfAll.2.2.2 ∈ kbT := kt5 (i := 1) rfl rfl
theorem wzX10_worthOfAll : Cond.initialized MX10_worthOfAll.1.cls ∈ kbT := kt1 (i := 3) rfl rfl
theorem wiX10_worthOfAll : Cond.instanceMethod MX10_worthOfAll.1 ∈ kbT := kt4 (i := 239) rfl rfl
theorem wsX10_worthOfAll : Cond.selects MX10_worthOfAll.1.cls MX10_worthOfAll.1 MX10_worthOfAll.1 ∈ kbT := kt5 (i := 0) rfl rfl
theorem cvX11_144 : kbCV "KnockBook" 144 MX10_worthOfAll 0 := ⟨kb_all5 (kt4 (i := 238) rfl rfl) wiX10_worthOfAll wsX10_worthOfAll wzX10_worthOfAll wcX10_worthOfAll, mfX10_worthOfAll⟩
theorem mfX10_soundsOfAll : MX10_soundsOfAll.1.cls ≠ "java/lang/invoke/MethodHandle" ∧ MX10_soundsOfAll.1.cls ≠ "java/lang/invoke/VarHandle" ∧ (parseMethodDescriptor MX10_soundsOfAll.1.desc).map (fun d => d.parameters.length) = some 0 ∧ MX10_soundsOfAll.2.2.1 ≤ 29 := by decide +kernel
theorem wcX10_soundsOfAll : Cond.code MX10_soundsOfAll.1 MX10_soundsOfAll.2.1 MX10_soundsOfAll.2.2.1 MX10_soundsOfAll.2.2.2 ∈ kbT := kt5 (i := 5) rfl rfl
theorem wzX10_soundsOfAll : Cond.initialized MX10_soundsOfAll.1.cls ∈ kbT := kt1 (i := 3) rfl rfl
theorem wiX10_soundsOfAll : Cond.instanceMethod MX10_soundsOfAll.1 ∈ kbT := kt5 (i := 3) rfl rfl
theorem wsX10_soundsOfAll : Cond.selects MX10_soundsOfAll.1.cls MX10_soundsOfAll.1 MX10_soundsOfAll.1 ∈ kbT := kt5 (i := 4) rfl rfl
theorem cvX11_148 : kbCV "KnockBook" 148 MX10_soundsOfAll 0 := ⟨kb_all5 (kt5 (i := 2) rfl rfl) wiX10_soundsOfAll wsX10_soundsOfAll wzX10_soundsOfAll wcX10_soundsOfAll, mfX10_soundsOfAll⟩
theorem mfX11_needWord : MX11_needWord.1.cls ≠ "java/lang/invoke/MethodHandle" ∧ MX11_needWord.1.cls ≠ "java/lang/invoke/VarHandle" ∧ (parseMethodDescriptor MX11_needWord.1.desc).map (fun d => d.parameters.length) = some 1 ∧ MX11_needWord.2.2.1 ≤ 29 := by decide +kernel
theorem wcX11_needWord : Cond.code MX11_needWord.1 MX11_needWord.2.1 MX11_needWord.2.2.1 MX11_needWord.2.2.2 ∈ kbT := kt5 (i := 32) rfl rfl
theorem wzX11_needWord : Cond.initialized MX11_needWord.1.cls ∈ kbT := kt1 (i := 1) rfl rfl
theorem wiX11_needWord : Cond.instanceMethod MX11_needWord.1 ∈ kbT := kt5 (i := 31) rfl rfl
theorem wsX11_needWord : Cond.selects MX11_needWord.1.cls MX11_needWord.1 MX11_needWord.1 ∈ kbT := kts (i := 39) rfl
theorem cvX11_162 : kbCV "KnockBook" 162 MX11_needWord 1 := ⟨kb_all5 (kt5 (i := 29) rfl rfl) wiX11_needWord wsX11_needWord wzX11_needWord wcX11_needWord, mfX11_needWord⟩
theorem mfX3_doorsThatCan : MX3_doorsThatCan.1.cls ≠ "java/lang/invoke/MethodHandle" ∧ MX3_doorsThatCan.1.cls ≠ "java/lang/invoke/VarHandle" ∧ (parseMethodDescriptor MX3_doorsThatCan.1.desc).map (fun d => d.parameters.length) = some 1 ∧ MX3_doorsThatCan.2.2.1 ≤ 29 := by decide +kernel
theorem wcX3_doorsThatCan : Cond.code MX3_doorsThatCan.1 MX3_doorsThatCan.2.1 MX3_doorsThatCan.2.2.1 MX3_doorsThatCan.2.2.2 ∈ kbT := kt5 (i := 37) rfl rfl
theorem wzX3_doorsThatCan : Cond.initialized MX3_doorsThatCan.1.cls ∈ kbT := kt1 (i := 10) rfl rfl
theorem wiX3_doorsThatCan : Cond.instanceMethod MX3_doorsThatCan.1 ∈ kbT := kt5 (i := 35) rfl rfl
theorem wsX3_doorsThatCan : Cond.selects MX3_doorsThatCan.1.cls MX3_doorsThatCan.1 MX3_doorsThatCan.1 ∈ kbT := kt5 (i := 36) rfl rfl
theorem cvX11_177 : kbCV "KnockBook" 177 MX3_doorsThatCan 1 := ⟨kb_all5 (kt5 (i := 34) rfl rfl) wiX3_doorsThatCan wsX3_doorsThatCan wzX3_doorsThatCan wcX3_doorsThatCan, mfX3_doorsThatCan⟩
theorem mfX11_needDoor : MX11_needDoor.1.cls ≠ "java/lang/invoke/MethodHandle" ∧ MX11_needDoor.1.cls ≠ "java/lang/invoke/VarHandle" ∧ (parseMethodDescriptor MX11_needDoor.1.desc).map (fun d => d.parameters.length) = some 1 ∧ MX11_needDoor.2.2.1 ≤ 29 := by decide +kernel
theorem wcX11_needDoor : Cond.code MX11_needDoor.1 MX11_needDoor.2.1 MX11_needDoor.2.2.1 MX11_needDoor.2.2.2 ∈ kbT := kt5 (i := 61) rfl rfl
theorem wzX11_needDoor : Cond.initialized MX11_needDoor.1.cls ∈ kbT := kt1 (i := 1) rfl rfl
theorem wiX11_needDoor : Cond.instanceMethod MX11_needDoor.1 ∈ kbT := kt5 (i := 60) rfl rfl
theorem wsX11_needDoor : Cond.selects MX11_needDoor.1.cls MX11_needDoor.1 MX11_needDoor.1 ∈ kbT := kts (i := 40) rfl
theorem cvX11_182 : kbCV "KnockBook" 182 MX11_needDoor 1 := ⟨kb_all5 (kt5 (i := 58) rfl rfl) wiX11_needDoor wsX11_needDoor wzX11_needDoor wcX11_needDoor, mfX11_needDoor⟩
theorem cvX11_191 : kbCV "KnockBook" 191 MX9_isWet 1 := ⟨kb_all5 (kt5 (i := 63) rfl rfl) wiX9_isWet wsX9_isWet wzX9_isWet wcX9_isWet, mfX9_isWet⟩
theorem mfX3_wordsOfHand : MX3_wordsOfHand.1.cls ≠ "java/lang/invoke/MethodHandle" ∧ MX3_wordsOfHand.1.cls ≠ "java/lang/invoke/VarHandle" ∧ (parseMethodDescriptor MX3_wordsOfHand.1.desc).map (fun d => d.parameters.length) = some 1 ∧ MX3_wordsOfHand.2.2.1 ≤ 29 := by decide +kernel
theorem wcX3_wordsOfHand : Cond.code MX3_wordsOfHand.1 MX3_wordsOfHand.2.1 MX3_wordsOfHand.2.2.1 MX3_wordsOfHand.2.2.2 ∈ kbT := kt5 (i := 67) rfl rfl
theorem wzX3_wordsOfHand : Cond.initialized MX3_wordsOfHand.1.cls ∈ kbT := kt1 (i := 10) rfl rfl
theorem wiX3_wordsOfHand : Cond.instanceMethod MX3_wordsOfHand.1 ∈ kbT := kt5 (i := 65) rfl rfl
theorem wsX3_wordsOfHand : Cond.selects MX3_wordsOfHand.1.cls MX3_wordsOfHand.1 MX3_wordsOfHand.1 ∈ kbT := kt5 (i := 66) rfl rfl
theorem cvX11_195 : kbCV "KnockBook" 195 MX3_wordsOfHand 1 := ⟨kb_all5 (kt5 (i := 64) rfl rfl) wiX3_wordsOfHand wsX3_wordsOfHand wzX3_wordsOfHand wcX3_wordsOfHand, mfX3_wordsOfHand⟩
theorem mfX3_confounded : MX3_confounded.1.cls ≠ "java/lang/invoke/MethodHandle" ∧ MX3_confounded.1.cls ≠ "java/lang/invoke/VarHandle" ∧ (parseMethodDescriptor MX3_confounded.1.desc).map (fun d => d.parameters.length) = some 1 ∧ MX3_confounded.2.2.1 ≤ 29 := by decide +kernel
theorem wcX3_confounded : Cond.code MX3_confounded.1 MX3_confounded.2.1 MX3_confounded.2.2.1 MX3_confounded.2.2.2 ∈ kbT := kt5 (i := 71) rfl rfl
theorem wzX3_confounded : Cond.initialized MX3_confounded.1.cls ∈ kbT := kt1 (i := 10) rfl rfl
theorem wiX3_confounded : Cond.instanceMethod MX3_confounded.1 ∈ kbT := kt5 (i := 69) rfl rfl
theorem wsX3_confounded : Cond.selects MX3_confounded.1.cls MX3_confounded.1 MX3_confounded.1 ∈ kbT := kt5 (i := 70) rfl rfl
theorem cvX11_198 : kbCV "KnockBook" 198 MX3_confounded 1 := ⟨kb_all5 (kt5 (i := 68) rfl rfl) wiX3_confounded wsX3_confounded wzX3_confounded wcX3_confounded, mfX3_confounded⟩
theorem cvX11_206 : kbCV "KnockBook" 206 MX3_hearing 2 := ⟨kb_all5 (kt5 (i := 84) rfl rfl) wiX3_hearing wsX3_hearing wzX3_hearing wcX3_hearing, mfX3_hearing⟩
theorem mfX8_lay : MX8_lay.1.cls ≠ "java/lang/invoke/MethodHandle" ∧ MX8_lay.1.cls ≠ "java/lang/invoke/VarHandle" ∧ (parseMethodDescriptor MX8_lay.1.desc).map (fun d => d.parameters.length) = some 1 ∧ MX8_lay.2.2.1 ≤ 29 := by decide +kernel
theorem wcX8_lay : Cond.code MX8_lay.1 MX8_lay.2.1 MX8_lay.2.2.1 MX8_lay.2.2.2 ∈ kbT := kt5 (i := 99) rfl rfl
theorem wzX8_lay : Cond.initialized MX8_lay.1.cls ∈ kbT := kt1 (i := 8) rfl rfl
theorem wiX8_lay : Cond.instanceMethod MX8_lay.1 ∈ kbT := kt5 (i := 97) rfl rfl
theorem wsX8_lay : Cond.selects MX8_lay.1.cls MX8_lay.1 MX8_lay.1 ∈ kbT := kt5 (i := 98) rfl rfl
theorem cvX11_214 : kbCV "KnockBook" 214 MX8_lay 1 := ⟨kb_all5 (kt5 (i := 96) rfl rfl) wiX8_lay wsX8_lay wzX8_lay wcX8_lay, mfX8_lay⟩
theorem mfX8_waysLaid : MX8_waysLaid.1.cls ≠ "java/lang/invoke/MethodHandle" ∧ MX8_waysLaid.1.cls ≠ "java/lang/invoke/VarHandle" ∧ (parseMethodDescriptor MX8_waysLaid.1.desc).map (fun d => d.parameters.length) = some 0 ∧ MX8_waysLaid.2.2.1 ≤ 29 := by decide +kernel
theorem wcX8_waysLaid : Cond.code MX8_waysLaid.1 MX8_waysLaid.2.1 MX8_waysLaid.2.2.1 MX8_waysLaid.2.2.2 ∈ kbT := kt5 (i := 125) rfl rfl
theorem wzX8_waysLaid : Cond.initialized MX8_waysLaid.1.cls ∈ kbT := kt1 (i := 8) rfl rfl
theorem wiX8_waysLaid : Cond.instanceMethod MX8_waysLaid.1 ∈ kbT := kt5 (i := 123) rfl rfl
theorem wsX8_waysLaid : Cond.selects MX8_waysLaid.1.cls MX8_waysLaid.1 MX8_waysLaid.1 ∈ kbT := kt5 (i := 124) rfl rfl
theorem cvX11_217 : kbCV "KnockBook" 217 MX8_waysLaid 0 := ⟨kb_all5 (kt5 (i := 122) rfl rfl) wiX8_waysLaid wsX8_waysLaid wzX8_waysLaid wcX8_waysLaid, mfX8_waysLaid⟩
theorem cvX11_221 : kbCV "KnockBook" 221 MX8_fewestLaid 0 := ⟨kb_all5 (kt5 (i := 126) rfl rfl) wiX8_fewestLaid wsX8_fewestLaid wzX8_fewestLaid wcX8_fewestLaid, mfX8_fewestLaid⟩
theorem mfX8_wordLaid : MX8_wordLaid.1.cls ≠ "java/lang/invoke/MethodHandle" ∧ MX8_wordLaid.1.cls ≠ "java/lang/invoke/VarHandle" ∧ (parseMethodDescriptor MX8_wordLaid.1.desc).map (fun d => d.parameters.length) = some 1 ∧ MX8_wordLaid.2.2.1 ≤ 29 := by decide +kernel
theorem wcX8_wordLaid : Cond.code MX8_wordLaid.1 MX8_wordLaid.2.1 MX8_wordLaid.2.2.1 MX8_wordLaid.2.2.2 ∈ kbT := kt5 (i := 141) rfl rfl
theorem wzX8_wordLaid : Cond.initialized MX8_wordLaid.1.cls ∈ kbT := kt1 (i := 8) rfl rfl
theorem wiX8_wordLaid : Cond.instanceMethod MX8_wordLaid.1 ∈ kbT := kt5 (i := 139) rfl rfl
theorem wsX8_wordLaid : Cond.selects MX8_wordLaid.1.cls MX8_wordLaid.1 MX8_wordLaid.1 ∈ kbT := kt5 (i := 140) rfl rfl
theorem cvX11_226 : kbCV "KnockBook" 226 MX8_wordLaid 1 := ⟨kb_all5 (kt5 (i := 138) rfl rfl) wiX8_wordLaid wsX8_wordLaid wzX8_wordLaid wcX8_wordLaid, mfX8_wordLaid⟩
theorem mfX7_steps : MX7_steps.1.cls ≠ "java/lang/invoke/MethodHandle" ∧ MX7_steps.1.cls ≠ "java/lang/invoke/VarHandle" ∧ (parseMethodDescriptor MX7_steps.1.desc).map (fun d => d.parameters.length) = some 2 ∧ MX7_steps.2.2.1 ≤ 29 := by decide +kernel
theorem wcX7_steps : Cond.code MX7_steps.1 MX7_steps.2.1 MX7_steps.2.2.1 MX7_steps.2.2.2 ∈ kbT := kt5 (i := 157) rfl rfl
theorem wzX7_steps : Cond.initialized MX7_steps.1.cls ∈ kbT := kt1 (i := 7) rfl rfl
theorem wiX7_steps : Cond.instanceMethod MX7_steps.1 ∈ kbT := kt5 (i := 155) rfl rfl
theorem wsX7_steps : Cond.selects MX7_steps.1.cls MX7_steps.1 MX7_steps.1 ∈ kbT := kt5 (i := 156) rfl rfl
theorem cvX11_229 : kbCV "KnockBook" 229 MX7_steps 2 := ⟨kb_all5 (kt5 (i := 154) rfl rfl) wiX7_steps wsX7_steps wzX7_steps wcX7_steps, mfX7_steps⟩
theorem cvX11_232 : kbCV "KnockBook" 232 MX7_nearestWord 1 := ⟨kb_all5 (kt5 (i := 172) rfl rfl) wiX7_nearestWord wsX7_nearestWord wzX7_nearestWord wcX7_nearestWord, mfX7_nearestWord⟩
theorem mfX9_keepWord : MX9_keepWord.1.cls ≠ "java/lang/invoke/MethodHandle" ∧ MX9_keepWord.1.cls ≠ "java/lang/invoke/VarHandle" ∧ (parseMethodDescriptor MX9_keepWord.1.desc).map (fun d => d.parameters.length) = some 2 ∧ MX9_keepWord.2.2.1 ≤ 29 := by decide +kernel
theorem wcX9_keepWord : Cond.code MX9_keepWord.1 MX9_keepWord.2.1 MX9_keepWord.2.2.1 MX9_keepWord.2.2.2 ∈ kbT := kt5 (i := 190) rfl rfl
theorem wzX9_keepWord : Cond.initialized MX9_keepWord.1.cls ∈ kbT := kt1 (i := 5) rfl rfl
theorem wiX9_keepWord : Cond.instanceMethod MX9_keepWord.1 ∈ kbT := kt5 (i := 188) rfl rfl
theorem wsX9_keepWord : Cond.selects MX9_keepWord.1.cls MX9_keepWord.1 MX9_keepWord.1 ∈ kbT := kt5 (i := 189) rfl rfl
theorem cvX11_265 : kbCV "KnockBook" 265 MX9_keepWord 2 := ⟨kb_all5 (kt5 (i := 187) rfl rfl) wiX9_keepWord wsX9_keepWord wzX9_keepWord wcX9_keepWord, mfX9_keepWord⟩
theorem cvX11_268 : kbCV "KnockBook" 268 MX10_remove 1 := ⟨kb_all5 (kt5 (i := 192) rfl rfl) wiX10_remove wsX10_remove wzX10_remove wcX10_remove, mfX10_remove⟩
theorem cvX11_271 : kbCV "KnockBook" 271 MX10_change 3 := ⟨kb_all5 (kt5 (i := 200) rfl rfl) wiX10_change wsX10_change wzX10_change wcX10_change, mfX10_change⟩
theorem cvX11_275 : kbCV "KnockBook" 275 MX9_turnWeather 1 := ⟨kb_all5 (kt5 (i := 215) rfl rfl) wiX9_turnWeather wsX9_turnWeather wzX9_turnWeather wcX9_turnWeather, mfX9_turnWeather⟩
theorem mfX8_stepsToRead : MX8_stepsToRead.1.cls ≠ "java/lang/invoke/MethodHandle" ∧ MX8_stepsToRead.1.cls ≠ "java/lang/invoke/VarHandle" ∧ (parseMethodDescriptor MX8_stepsToRead.1.desc).map (fun d => d.parameters.length) = some 1 ∧ MX8_stepsToRead.2.2.1 ≤ 29 := by decide +kernel
theorem wcX8_stepsToRead : Cond.code MX8_stepsToRead.1 MX8_stepsToRead.2.1 MX8_stepsToRead.2.2.1 MX8_stepsToRead.2.2.2 ∈ kbT := kt5 (i := 226) rfl rfl
theorem wzX8_stepsToRead : Cond.initialized MX8_stepsToRead.1.cls ∈ kbT := kt1 (i := 8) rfl rfl
theorem wiX8_stepsToRead : Cond.instanceMethod MX8_stepsToRead.1 ∈ kbT := kt5 (i := 224) rfl rfl
theorem wsX8_stepsToRead : Cond.selects MX8_stepsToRead.1.cls MX8_stepsToRead.1 MX8_stepsToRead.1 ∈ kbT := kt5 (i := 225) rfl rfl
theorem cvX11_281 : kbCV "KnockBook" 281 MX8_stepsToRead 1 := ⟨kb_all5 (kt5 (i := 223) rfl rfl) wiX8_stepsToRead wsX8_stepsToRead wzX8_stepsToRead wcX8_stepsToRead, mfX8_stepsToRead⟩
theorem mfX3_freshRow : MX3_freshRow.1.cls ≠ "java/lang/invoke/MethodHandle" ∧ MX3_freshRow.1.cls ≠ "java/lang/invoke/VarHandle" ∧ (parseMethodDescriptor MX3_freshRow.1.desc).map (fun d => d.parameters.length) = some 1 ∧ MX3_freshRow.2.2.1 ≤ 29 := by decide +kernel
theorem wcX3_freshRow : Cond.code MX3_freshRow.1 MX3_freshRow.2.1 MX3_freshRow.2.2.1 MX3_freshRow.2.2.2 ∈ kbT := kt6 (i := 21) rfl rfl
theorem wzX3_freshRow : Cond.initialized MX3_freshRow.1.cls ∈ kbT := kt1 (i := 10) rfl rfl
theorem wiX3_freshRow : Cond.instanceMethod MX3_freshRow.1 ∈ kbT := kt6 (i := 19) rfl rfl
theorem wsX3_freshRow : Cond.selects MX3_freshRow.1.cls MX3_freshRow.1 MX3_freshRow.1 ∈ kbT := kt6 (i := 20) rfl rfl
theorem cvX11_295 : kbCV "KnockBook" 295 MX3_freshRow 1 := ⟨kb_all5 (kt6 (i := 18) rfl rfl) wiX3_freshRow wsX3_freshRow wzX3_freshRow wcX3_freshRow, mfX3_freshRow⟩
theorem mfX7_closestCouple : MX7_closestCouple.1.cls ≠ "java/lang/invoke/MethodHandle" ∧ MX7_closestCouple.1.cls ≠ "java/lang/invoke/VarHandle" ∧ (parseMethodDescriptor MX7_closestCouple.1.desc).map (fun d => d.parameters.length) = some 0 ∧ MX7_closestCouple.2.2.1 ≤ 29 := by decide +kernel
theorem wcX7_closestCouple : Cond.code MX7_closestCouple.1 MX7_closestCouple.2.1 MX7_closestCouple.2.2.1 MX7_closestCouple.2.2.2 ∈ kbT := kt6 (i := 51) rfl rfl
theorem wzX7_closestCouple : Cond.initialized MX7_closestCouple.1.cls ∈ kbT := kt1 (i := 7) rfl rfl
theorem wiX7_closestCouple : Cond.instanceMethod MX7_closestCouple.1 ∈ kbT := kt6 (i := 49) rfl rfl
theorem wsX7_closestCouple : Cond.selects MX7_closestCouple.1.cls MX7_closestCouple.1 MX7_closestCouple.1 ∈ kbT := kt6 (i := 50) rfl rfl
theorem cvX11_298 : kbCV "KnockBook" 298 MX7_closestCouple 0 := ⟨kb_all5 (kt6 (i := 48) rfl rfl) wiX7_closestCouple wsX7_closestCouple wzX7_closestCouple wcX7_closestCouple, mfX7_closestCouple⟩
theorem mfX8_mostWorth : MX8_mostWorth.1.cls ≠ "java/lang/invoke/MethodHandle" ∧ MX8_mostWorth.1.cls ≠ "java/lang/invoke/VarHandle" ∧ (parseMethodDescriptor MX8_mostWorth.1.desc).map (fun d => d.parameters.length) = some 1 ∧ MX8_mostWorth.2.2.1 ≤ 29 := by decide +kernel
theorem wcX8_mostWorth : Cond.code MX8_mostWorth.1 MX8_mostWorth.2.1 MX8_mostWorth.2.2.1 MX8_mostWorth.2.2.2 ∈ kbT := kt6 (i := 63) rfl rfl
theorem wzX8_mostWorth : Cond.initialized MX8_mostWorth.1.cls ∈ kbT := kt1 (i := 8) rfl rfl
theorem wiX8_mostWorth : Cond.instanceMethod MX8_mostWorth.1 ∈ kbT := kt6 (i := 61) rfl rfl
theorem wsX8_mostWorth : Cond.selects MX8_mostWorth.1.cls MX8_mostWorth.1 MX8_mostWorth.1 ∈ kbT := kt6 (i := 62) rfl rfl
theorem cvX11_303 : kbCV "KnockBook" 303 MX8_mostWorth 1 := ⟨kb_all5 (kt6 (i := 60) rfl rfl) wiX8_mostWorth wsX8_mostWorth wzX8_mostWorth wcX8_mostWorth, mfX8_mostWorth⟩
theorem mfX8_rowsOf : MX8_rowsOf.1.cls ≠ "java/lang/invoke/MethodHandle" ∧ MX8_rowsOf.1.cls ≠ "java/lang/invoke/VarHandle" ∧ (parseMethodDescriptor MX8_rowsOf.1.desc).map (fun d => d.parameters.length) = some 1 ∧ MX8_rowsOf.2.2.1 ≤ 29 := by decide +kernel
theorem wcX8_rowsOf : Cond.code MX8_rowsOf.1 MX8_rowsOf.2.1 MX8_rowsOf.2.2.1 MX8_rowsOf.2.2.2 ∈ kbT := kt6 (i := 80) rfl rfl
theorem wzX8_rowsOf : Cond.initialized MX8_rowsOf.1.cls ∈ kbT := kt1 (i := 8) rfl rfl
theorem wiX8_rowsOf : Cond.instanceMethod MX8_rowsOf.1 ∈ kbT := kt6 (i := 78) rfl rfl
theorem wsX8_rowsOf : Cond.selects MX8_rowsOf.1.cls MX8_rowsOf.1 MX8_rowsOf.1 ∈ kbT := kt6 (i := 79) rfl rfl
theorem cvX11_308 : kbCV "KnockBook" 308 MX8_rowsOf 1 := ⟨kb_all5 (kt6 (i := 77) rfl rfl) wiX8_rowsOf wsX8_rowsOf wzX8_rowsOf wcX8_rowsOf, mfX8_rowsOf⟩
theorem mfX3_tellingDoor : MX3_tellingDoor.1.cls ≠ "java/lang/invoke/MethodHandle" ∧ MX3_tellingDoor.1.cls ≠ "java/lang/invoke/VarHandle" ∧ (parseMethodDescriptor MX3_tellingDoor.1.desc).map (fun d => d.parameters.length) = some 1 ∧ MX3_tellingDoor.2.2.1 ≤ 29 := by decide +kernel
theorem wcX3_tellingDoor : Cond.code MX3_tellingDoor.1 MX3_tellingDoor.2.1 MX3_tellingDoor.2.2.1 MX3_tellingDoor.2.2.2 ∈ kbT := kt6 (i := 102) rfl rfl
theorem wzX3_tellingDoor : Cond.initialized MX3_tellingDoor.1.cls ∈ kbT := kt1 (i := 10) rfl rfl
theorem wiX3_tellingDoor : Cond.instanceMethod MX3_tellingDoor.1 ∈ kbT := kt6 (i := 100) rfl rfl
theorem wsX3_tellingDoor : Cond.selects MX3_tellingDoor.1.cls MX3_tellingDoor.1 MX3_tellingDoor.1 ∈ kbT := kt6 (i := 101) rfl rfl
theorem cvX11_321 : kbCV "KnockBook" 321 MX3_tellingDoor 1 := ⟨kb_all5 (kt6 (i := 99) rfl rfl) wiX3_tellingDoor wsX3_tellingDoor wzX3_tellingDoor wcX3_tellingDoor, mfX3_tellingDoor⟩
theorem cvX11_324 : kbCV "KnockBook" 324 MX3_unlike 2 := ⟨kb_all5 (kt6 (i := 107) rfl rfl) wiX3_unlike wsX3_unlike wzX3_unlike wcX3_unlike, mfX3_unlike⟩
theorem mfX5_passing : MX5_passing.1.cls ≠ "java/lang/invoke/MethodHandle" ∧ MX5_passing.1.cls ≠ "java/lang/invoke/VarHandle" ∧ (parseMethodDescriptor MX5_passing.1.desc).map (fun d => d.parameters.length) = some 2 ∧ MX5_passing.2.2.1 ≤ 29 := by decide +kernel
theorem wcX5_passing : Cond.code MX5_passing.1 MX5_passing.2.1 MX5_passing.2.2.1 MX5_passing.2.2.2 ∈ kbT := kt6 (i := 118) rfl rfl
theorem wzX5_passing : Cond.initialized MX5_passing.1.cls ∈ kbT := kt1 (i := 11) rfl rfl
theorem wiX5_passing : Cond.instanceMethod MX5_passing.1 ∈ kbT := kt6 (i := 116) rfl rfl
theorem wsX5_passing : Cond.selects MX5_passing.1.cls MX5_passing.1 MX5_passing.1 ∈ kbT := kt6 (i := 117) rfl rfl
theorem cvX11_327 : kbCV "KnockBook" 327 MX5_passing 2 := ⟨kb_all5 (kt6 (i := 115) rfl rfl) wiX5_passing wsX5_passing wzX5_passing wcX5_passing, mfX5_passing⟩
theorem mfX5_settle : MX5_settle.1.cls ≠ "java/lang/invoke/MethodHandle" ∧ MX5_settle.1.cls ≠ "java/lang/invoke/VarHandle" ∧ (parseMethodDescriptor MX5_settle.1.desc).map (fun d => d.parameters.length) = some 2 ∧ MX5_settle.2.2.1 ≤ 29 := by decide +kernel
theorem wcX5_settle : Cond.code MX5_settle.1 MX5_settle.2.1 MX5_settle.2.2.1 MX5_settle.2.2.2 ∈ kbT := kt6 (i := 137) rfl rfl
theorem wzX5_settle : Cond.initialized MX5_settle.1.cls ∈ kbT := kt1 (i := 11) rfl rfl
theorem wiX5_settle : Cond.instanceMethod MX5_settle.1 ∈ kbT := kt6 (i := 135) rfl rfl
theorem wsX5_settle : Cond.selects MX5_settle.1.cls MX5_settle.1 MX5_settle.1 ∈ kbT := kt6 (i := 136) rfl rfl
theorem cvX11_332 : kbCV "KnockBook" 332 MX5_settle 2 := ⟨kb_all5 (kt6 (i := 134) rfl rfl) wiX5_settle wsX5_settle wzX5_settle wcX5_settle, mfX5_settle⟩
theorem mfX5_freeze : MX5_freeze.1.cls ≠ "java/lang/invoke/MethodHandle" ∧ MX5_freeze.1.cls ≠ "java/lang/invoke/VarHandle" ∧ (parseMethodDescriptor MX5_freeze.1.desc).map (fun d => d.parameters.length) = some 2 ∧ MX5_freeze.2.2.1 ≤ 29 := by decide +kernel
theorem wcX5_freeze : Cond.code MX5_freeze.1 MX5_freeze.2.1 MX5_freeze.2.2.1 MX5_freeze.2.2.2 ∈ kbT := kt6 (i := 160) rfl rfl
theorem wzX5_freeze : Cond.initialized MX5_freeze.1.cls ∈ kbT := kt1 (i := 11) rfl rfl
theorem wiX5_freeze : Cond.instanceMethod MX5_freeze.1 ∈ kbT := kt6 (i := 158) rfl rfl
theorem wsX5_freeze : Cond.selects MX5_freeze.1.cls MX5_freeze.1 MX5_freeze.1 ∈ kbT := kt6 (i := 159) rfl rfl
theorem cvX11_343 : kbCV "KnockBook" 343 MX5_freeze 2 := ⟨kb_all5 (kt6 (i := 157) rfl rfl) wiX5_freeze wsX5_freeze wzX5_freeze wcX5_freeze, mfX5_freeze⟩
theorem mfX11_book : MX11_book.1.cls ≠ "java/lang/invoke/MethodHandle" ∧ MX11_book.1.cls ≠ "java/lang/invoke/VarHandle" ∧ (parseMethodDescriptor MX11_book.1.desc).map (fun d => d.parameters.length) = some 1 ∧ MX11_book.2.2.1 ≤ 29 := by decide +kernel
theorem wcX11_book : Cond.code MX11_book.1 MX11_book.2.1 MX11_book.2.2.1 MX11_book.2.2.2 ∈ kbT := kt3 (i := 137) rfl rfl
theorem wzX11_book : Cond.initialized MX11_book.1.cls ∈ kbT := kt1 (i := 1) rfl rfl
theorem wiX11_book : Cond.instanceMethod MX11_book.1 ∈ kbT := kt3 (i := 135) rfl rfl
theorem wsX11_book : Cond.selects MX11_book.1.cls MX11_book.1 MX11_book.1 ∈ kbT := kt3 (i := 136) rfl rfl
theorem cvL_7 : kbCV "KnockBookLaw" 7 MX11_book 1 := ⟨kb_all5 (kt3 (i := 134) rfl rfl) wiX11_book wsX11_book wzX11_book wcX11_book, mfX11_book⟩
theorem mfX11_count : MX11_count.1.cls ≠ "java/lang/invoke/MethodHandle" ∧ MX11_count.1.cls ≠ "java/lang/invoke/VarHandle" ∧ (parseMethodDescriptor MX11_count.1.desc).map (fun d => d.parameters.length) = some 1 ∧ MX11_count.2.2.1 ≤ 29 := by decide +kernel
theorem wcX11_count : Cond.code MX11_count.1 MX11_count.2.1 MX11_count.2.2.1 MX11_count.2.2.2 ∈ kbT := kt4 (i := 237) rfl rfl
theorem wzX11_count : Cond.initialized MX11_count.1.cls ∈ kbT := kt1 (i := 1) rfl rfl
theorem wiX11_count : Cond.instanceMethod MX11_count.1 ∈ kbT := kt4 (i := 235) rfl rfl
theorem wsX11_count : Cond.selects MX11_count.1.cls MX11_count.1 MX11_count.1 ∈ kbT := kt4 (i := 236) rfl rfl
theorem cvL_15 : kbCV "KnockBookLaw" 15 MX11_count 1 := ⟨kb_all5 (kt4 (i := 234) rfl rfl) wiX11_count wsX11_count wzX11_count wcX11_count, mfX11_count⟩
theorem mfX11_word : MX11_word.1.cls ≠ "java/lang/invoke/MethodHandle" ∧ MX11_word.1.cls ≠ "java/lang/invoke/VarHandle" ∧ (parseMethodDescriptor MX11_word.1.desc).map (fun d => d.parameters.length) = some 2 ∧ MX11_word.2.2.1 ≤ 29 := by decide +kernel
theorem wcX11_word : Cond.code MX11_word.1 MX11_word.2.1 MX11_word.2.2.1 MX11_word.2.2.2 ∈ kbT := kt5 (i := 28) rfl rfl
theorem wzX11_word : Cond.initialized MX11_word.1.cls ∈ kbT := kt1 (i := 1) rfl rfl
theorem wiX11_word : Cond.instanceMethod MX11_word.1 ∈ kbT := kt5 (i := 26) rfl rfl
theorem wsX11_word : Cond.selects MX11_word.1.cls MX11_word.1 MX11_word.1 ∈ kbT := kt5 (i := 27) rfl rfl
theorem cvL_20 : kbCV "KnockBookLaw" 20 MX11_word 2 := ⟨kb_all5 (kt5 (i := 25) rfl rfl) wiX11_word wsX11_word wzX11_word wcX11_word, mfX11_word⟩
theorem mfX11_door : MX11_door.1.cls ≠ "java/lang/invoke/MethodHandle" ∧ MX11_door.1.cls ≠ "java/lang/invoke/VarHandle" ∧ (parseMethodDescriptor MX11_door.1.desc).map (fun d => d.parameters.length) = some 2 ∧ MX11_door.2.2.1 ≤ 29 := by decide +kernel
theorem wcX11_door : Cond.code MX11_door.1 MX11_door.2.1 MX11_door.2.2.1 MX11_door.2.2.2 ∈ kbT := kt5 (i := 57) rfl rfl
theorem wzX11_door : Cond.initialized MX11_door.1.cls ∈ kbT := kt1 (i := 1) rfl rfl
theorem wiX11_door : Cond.instanceMethod MX11_door.1 ∈ kbT := kt5 (i := 55) rfl rfl
theorem wsX11_door : Cond.selects MX11_door.1.cls MX11_door.1 MX11_door.1 ∈ kbT := kt5 (i := 56) rfl rfl
theorem cvL_24 : kbCV "KnockBookLaw" 24 MX11_door 2 := ⟨kb_all5 (kt5 (i := 54) rfl rfl) wiX11_door wsX11_door wzX11_door wcX11_door, mfX11_door⟩
theorem mfX11_hears : MX11_hears.1.cls ≠ "java/lang/invoke/MethodHandle" ∧ MX11_hears.1.cls ≠ "java/lang/invoke/VarHandle" ∧ (parseMethodDescriptor MX11_hears.1.desc).map (fun d => d.parameters.length) = some 2 ∧ MX11_hears.2.2.1 ≤ 29 := by decide +kernel
theorem wcX11_hears : Cond.code MX11_hears.1 MX11_hears.2.1 MX11_hears.2.2.1 MX11_hears.2.2.2 ∈ kbT := kt5 (i := 79) rfl rfl
theorem wzX11_hears : Cond.initialized MX11_hears.1.cls ∈ kbT := kt1 (i := 1) rfl rfl
theorem wiX11_hears : Cond.instanceMethod MX11_hears.1 ∈ kbT := kt5 (i := 77) rfl rfl
theorem wsX11_hears : Cond.selects MX11_hears.1.cls MX11_hears.1 MX11_hears.1 ∈ kbT := kt5 (i := 78) rfl rfl
theorem cvL_27 : kbCV "KnockBookLaw" 27 MX11_hears 2 := ⟨kb_all5 (kt5 (i := 76) rfl rfl) wiX11_hears wsX11_hears wzX11_hears wcX11_hears, mfX11_hears⟩
theorem mfX11_read : MX11_read.1.cls ≠ "java/lang/invoke/MethodHandle" ∧ MX11_read.1.cls ≠ "java/lang/invoke/VarHandle" ∧ (parseMethodDescriptor MX11_read.1.desc).map (fun d => d.parameters.length) = some 2 ∧ MX11_read.2.2.1 ≤ 29 := by decide +kernel
theorem wcX11_read : Cond.code MX11_read.1 MX11_read.2.1 MX11_read.2.2.1 MX11_read.2.2.2 ∈ kbT := kt5 (i := 91) rfl rfl
theorem wzX11_read : Cond.initialized MX11_read.1.cls ∈ kbT := kt1 (i := 1) rfl rfl
theorem wiX11_read : Cond.instanceMethod MX11_read.1 ∈ kbT := kt5 (i := 89) rfl rfl
theorem wsX11_read : Cond.selects MX11_read.1.cls MX11_read.1 MX11_read.1 ∈ kbT := kt5 (i := 90) rfl rfl
theorem cvL_30 : kbCV "KnockBookLaw" 30 MX11_read 2 := ⟨kb_all5 (kt5 (i := 88) rfl rfl) wiX11_read wsX11_read wzX11_read wcX11_read, mfX11_read⟩
theorem mfX11_reading : MX11_reading.1.cls ≠ "java/lang/invoke/MethodHandle" ∧ MX11_reading.1.cls ≠ "java/lang/invoke/VarHandle" ∧ (parseMethodDescriptor MX11_reading.1.desc).map (fun d => d.parameters.length) = some 2 ∧ MX11_reading.2.2.1 ≤ 29 := by decide +kernel
theorem wcX11_reading : Cond.code MX11_reading.1 MX11_reading.2.1 MX11_reading.2.2.1 MX11_reading.2.2.2 ∈ kbT := kt5 (i := 136) rfl rfl
theorem wzX11_reading : Cond.initialized MX11_reading.1.cls ∈ kbT := kt1 (i := 1) rfl rfl
theorem wiX11_reading : Cond.instanceMethod MX11_reading.1 ∈ kbT := kt5 (i := 134) rfl rfl
theorem wsX11_reading : Cond.selects MX11_reading.1.cls MX11_reading.1 MX11_reading.1 ∈ kbT := kt5 (i := 135) rfl rfl
theorem cvL_34 : kbCV "KnockBookLaw" 34 MX11_reading 2 := ⟨kb_all5 (kt5 (i := 133) rfl rfl) wiX11_reading wsX11_reading wzX11_reading wcX11_reading, mfX11_reading⟩
theorem mfX11_apart : MX11_apart.1.cls ≠ "java/lang/invoke/MethodHandle" ∧ MX11_apart.1.cls ≠ "java/lang/invoke/VarHandle" ∧ (parseMethodDescriptor MX11_apart.1.desc).map (fun d => d.parameters.length) = some 2 ∧ MX11_apart.2.2.1 ≤ 29 := by decide +kernel
theorem wcX11_apart : Cond.code MX11_apart.1 MX11_apart.2.1 MX11_apart.2.2.1 MX11_apart.2.2.2 ∈ kbT := kt5 (i := 153) rfl rfl
theorem wzX11_apart : Cond.initialized MX11_apart.1.cls ∈ kbT := kt1 (i := 1) rfl rfl
theorem wiX11_apart : Cond.instanceMethod MX11_apart.1 ∈ kbT := kt5 (i := 151) rfl rfl
theorem wsX11_apart : Cond.selects MX11_apart.1.cls MX11_apart.1 MX11_apart.1 ∈ kbT := kt5 (i := 152) rfl rfl
theorem cvL_37 : kbCV "KnockBookLaw" 37 MX11_apart 2 := ⟨kb_all5 (kt5 (i := 150) rfl rfl) wiX11_apart wsX11_apart wzX11_apart wcX11_apart, mfX11_apart⟩
theorem mfX11_nearest : MX11_nearest.1.cls ≠ "java/lang/invoke/MethodHandle" ∧ MX11_nearest.1.cls ≠ "java/lang/invoke/VarHandle" ∧ (parseMethodDescriptor MX11_nearest.1.desc).map (fun d => d.parameters.length) = some 2 ∧ MX11_nearest.2.2.1 ≤ 29 := by decide +kernel
theorem wcX11_nearest : Cond.code MX11_nearest.1 MX11_nearest.2.1 MX11_nearest.2.2.1 MX11_nearest.2.2.2 ∈ kbT := kt5 (i := 171) rfl rfl
theorem wzX11_nearest : Cond.initialized MX11_nearest.1.cls ∈ kbT := kt1 (i := 1) rfl rfl
theorem wiX11_nearest : Cond.instanceMethod MX11_nearest.1 ∈ kbT := kt5 (i := 169) rfl rfl
theorem wsX11_nearest : Cond.selects MX11_nearest.1.cls MX11_nearest.1 MX11_nearest.1 ∈ kbT := kt5 (i := 170) rfl rfl
theorem cvL_40 : kbCV "KnockBookLaw" 40 MX11_nearest 2 := ⟨kb_all5 (kt5 (i := 168) rfl rfl) wiX11_nearest wsX11_nearest wzX11_nearest wcX11_nearest, mfX11_nearest⟩
theorem mfX11_die : MX11_die.1.cls ≠ "java/lang/invoke/MethodHandle" ∧ MX11_die.1.cls ≠ "java/lang/invoke/VarHandle" ∧ (parseMethodDescriptor MX11_die.1.desc).map (fun d => d.parameters.length) = some 1 ∧ MX11_die.2.2.1 ≤ 29 := by decide +kernel
theorem wcX11_die : Cond.code MX11_die.1 MX11_die.2.1 MX11_die.2.2.1 MX11_die.2.2.2 ∈ kbT := kt5 (i := 186) rfl rfl
theorem wzX11_die : Cond.initialized MX11_die.1.cls ∈ kbT := kt1 (i := 1) rfl rfl
theorem wiX11_die : Cond.instanceMethod MX11_die.1 ∈ kbT := kt5 (i := 184) rfl rfl
theorem wsX11_die : Cond.selects MX11_die.1.cls MX11_die.1 MX11_die.1 ∈ kbT := kt5 (i := 185) rfl rfl
theorem cvL_43 : kbCV "KnockBookLaw" 43 MX11_die 1 := ⟨kb_all5 (kt5 (i := 183) rfl rfl) wiX11_die wsX11_die wzX11_die wcX11_die, mfX11_die⟩
theorem mfX11_worth : MX11_worth.1.cls ≠ "java/lang/invoke/MethodHandle" ∧ MX11_worth.1.cls ≠ "java/lang/invoke/VarHandle" ∧ (parseMethodDescriptor MX11_worth.1.desc).map (fun d => d.parameters.length) = some 2 ∧ MX11_worth.2.2.1 ≤ 29 := by decide +kernel
theorem wcX11_worth : Cond.code MX11_worth.1 MX11_worth.2.1 MX11_worth.2.2.1 MX11_worth.2.2.2 ∈ kbT := kt5 (i := 199) rfl rfl
theorem wzX11_worth : Cond.initialized MX11_worth.1.cls ∈ kbT := kt1 (i := 1) rfl rfl
theorem wiX11_worth : Cond.instanceMethod MX11_worth.1 ∈ kbT := kt5 (i := 197) rfl rfl
theorem wsX11_worth : Cond.selects MX11_worth.1.cls MX11_worth.1 MX11_worth.1 ∈ kbT := kt5 (i := 198) rfl rfl
theorem cvL_46 : kbCV "KnockBookLaw" 46 MX11_worth 2 := ⟨kb_all5 (kt5 (i := 196) rfl rfl) wiX11_worth wsX11_worth wzX11_worth wcX11_worth, mfX11_worth⟩
theorem mfX11_part : MX11_part.1.cls ≠ "java/lang/invoke/MethodHandle" ∧ MX11_part.1.cls ≠ "java/lang/invoke/VarHandle" ∧ (parseMethodDescriptor MX11_part.1.desc).map (fun d => d.parameters.length) = some 2 ∧ MX11_part.2.2.1 ≤ 29 := by decide +kernel
theorem wcX11_part : Cond.code MX11_part.1 MX11_part.2.1 MX11_part.2.2.1 MX11_part.2.2.2 ∈ kbT := kt5 (i := 207) rfl rfl
theorem wzX11_part : Cond.initialized MX11_part.1.cls ∈ kbT := kt1 (i := 1) rfl rfl
theorem wiX11_part : Cond.instanceMethod MX11_part.1 ∈ kbT := kt5 (i := 205) rfl rfl
theorem wsX11_part : Cond.selects MX11_part.1.cls MX11_part.1 MX11_part.1 ∈ kbT := kt5 (i := 206) rfl rfl
theorem cvL_49 : kbCV "KnockBookLaw" 49 MX11_part 2 := ⟨kb_all5 (kt5 (i := 204) rfl rfl) wiX11_part wsX11_part wzX11_part wcX11_part, mfX11_part⟩
theorem mfX11_rain : MX11_rain.1.cls ≠ "java/lang/invoke/MethodHandle" ∧ MX11_rain.1.cls ≠ "java/lang/invoke/VarHandle" ∧ (parseMethodDescriptor MX11_rain.1.desc).map (fun d => d.parameters.length) = some 2 ∧ MX11_rain.2.2.1 ≤ 29 := by decide +kernel
theorem wcX11_rain : Cond.code MX11_rain.1 MX11_rain.2.1 MX11_rain.2.2.1 MX11_rain.2.2.2 ∈ kbT := kt5 (i := 214) rfl rfl
theorem wzX11_rain : Cond.initialized MX11_rain.1.cls ∈ kbT := kt1 (i := 1) rfl rfl
theorem wiX11_rain : Cond.instanceMethod MX11_rain.1 ∈ kbT := kt5 (i := 212) rfl rfl
theorem wsX11_rain : Cond.selects MX11_rain.1.cls MX11_rain.1 MX11_rain.1 ∈ kbT := kt5 (i := 213) rfl rfl
theorem cvL_52 : kbCV "KnockBookLaw" 52 MX11_rain 2 := ⟨kb_all5 (kt5 (i := 211) rfl rfl) wiX11_rain wsX11_rain wzX11_rain wcX11_rain, mfX11_rain⟩
theorem mfX11_mend : MX11_mend.1.cls ≠ "java/lang/invoke/MethodHandle" ∧ MX11_mend.1.cls ≠ "java/lang/invoke/VarHandle" ∧ (parseMethodDescriptor MX11_mend.1.desc).map (fun d => d.parameters.length) = some 1 ∧ MX11_mend.2.2.1 ≤ 29 := by decide +kernel
theorem wcX11_mend : Cond.code MX11_mend.1 MX11_mend.2.1 MX11_mend.2.2.1 MX11_mend.2.2.2 ∈ kbT := kt5 (i := 222) rfl rfl
theorem wzX11_mend : Cond.initialized MX11_mend.1.cls ∈ kbT := kt1 (i := 1) rfl rfl
theorem wiX11_mend : Cond.instanceMethod MX11_mend.1 ∈ kbT := kt5 (i := 220) rfl rfl
theorem wsX11_mend : Cond.selects MX11_mend.1.cls MX11_mend.1 MX11_mend.1 ∈ kbT := kt5 (i := 221) rfl rfl
theorem cvL_56 : kbCV "KnockBookLaw" 56 MX11_mend 1 := ⟨kb_all5 (kt5 (i := 219) rfl rfl) wiX11_mend wsX11_mend wzX11_mend wcX11_mend, mfX11_mend⟩
theorem mfX11_newWord : MX11_newWord.1.cls ≠ "java/lang/invoke/MethodHandle" ∧ MX11_newWord.1.cls ≠ "java/lang/invoke/VarHandle" ∧ (parseMethodDescriptor MX11_newWord.1.desc).map (fun d => d.parameters.length) = some 1 ∧ MX11_newWord.2.2.1 ≤ 29 := by decide +kernel
theorem wcX11_newWord : Cond.code MX11_newWord.1 MX11_newWord.2.1 MX11_newWord.2.2.1 MX11_newWord.2.2.2 ∈ kbT := kt6 (i := 16) rfl rfl
theorem wzX11_newWord : Cond.initialized MX11_newWord.1.cls ∈ kbT := kt1 (i := 1) rfl rfl
theorem wiX11_newWord : Cond.instanceMethod MX11_newWord.1 ∈ kbT := kt6 (i := 14) rfl rfl
theorem wsX11_newWord : Cond.selects MX11_newWord.1.cls MX11_newWord.1 MX11_newWord.1 ∈ kbT := kt6 (i := 15) rfl rfl
theorem cvL_59 : kbCV "KnockBookLaw" 59 MX11_newWord 1 := ⟨kb_all5 (kt6 (i := 13) rfl rfl) wiX11_newWord wsX11_newWord wzX11_newWord wcX11_newWord, mfX11_newWord⟩
theorem mfX11_span : MX11_span.1.cls ≠ "java/lang/invoke/MethodHandle" ∧ MX11_span.1.cls ≠ "java/lang/invoke/VarHandle" ∧ (parseMethodDescriptor MX11_span.1.desc).map (fun d => d.parameters.length) = some 2 ∧ MX11_span.2.2.1 ≤ 29 := by decide +kernel
theorem wcX11_span : Cond.code MX11_span.1 MX11_span.2.1 MX11_span.2.2.1 MX11_span.2.2.2 ∈ kbT := kt6 (i := 40) rfl rfl
theorem wzX11_span : Cond.initialized MX11_span.1.cls ∈ kbT := kt1 (i := 1) rfl rfl
theorem wiX11_span : Cond.instanceMethod MX11_span.1 ∈ kbT := kt6 (i := 38) rfl rfl
theorem wsX11_span : Cond.selects MX11_span.1.cls MX11_span.1 MX11_span.1 ∈ kbT := kt6 (i := 39) rfl rfl
theorem cvL_62 : kbCV "KnockBookLaw" 62 MX11_span 2 := ⟨kb_all5 (kt6 (i := 37) rfl rfl) wiX11_span wsX11_span wzX11_span wcX11_span, mfX11_span⟩
theorem mfX11_closest : MX11_closest.1.cls ≠ "java/lang/invoke/MethodHandle" ∧ MX11_closest.1.cls ≠ "java/lang/invoke/VarHandle" ∧ (parseMethodDescriptor MX11_closest.1.desc).map (fun d => d.parameters.length) = some 1 ∧ MX11_closest.2.2.1 ≤ 29 := by decide +kernel
theorem wcX11_closest : Cond.code MX11_closest.1 MX11_closest.2.1 MX11_closest.2.2.1 MX11_closest.2.2.2 ∈ kbT := kt6 (i := 47) rfl rfl
theorem wzX11_closest : Cond.initialized MX11_closest.1.cls ∈ kbT := kt1 (i := 1) rfl rfl
theorem wiX11_closest : Cond.instanceMethod MX11_closest.1 ∈ kbT := kt6 (i := 45) rfl rfl
theorem wsX11_closest : Cond.selects MX11_closest.1.cls MX11_closest.1 MX11_closest.1 ∈ kbT := kt6 (i := 46) rfl rfl
theorem cvL_65 : kbCV "KnockBookLaw" 65 MX11_closest 1 := ⟨kb_all5 (kt6 (i := 44) rfl rfl) wiX11_closest wsX11_closest wzX11_closest wcX11_closest, mfX11_closest⟩
theorem mfX11_said : MX11_said.1.cls ≠ "java/lang/invoke/MethodHandle" ∧ MX11_said.1.cls ≠ "java/lang/invoke/VarHandle" ∧ (parseMethodDescriptor MX11_said.1.desc).map (fun d => d.parameters.length) = some 1 ∧ MX11_said.2.2.1 ≤ 29 := by decide +kernel
theorem wcX11_said : Cond.code MX11_said.1 MX11_said.2.1 MX11_said.2.2.1 MX11_said.2.2.2 ∈ kbT := kt6 (i := 58) rfl rfl
theorem wzX11_said : Cond.initialized MX11_said.1.cls ∈ kbT := kt1 (i := 1) rfl rfl
theorem wiX11_said : Cond.instanceMethod MX11_said.1 ∈ kbT := kt6 (i := 56) rfl rfl
theorem wsX11_said : Cond.selects MX11_said.1.cls MX11_said.1 MX11_said.1 ∈ kbT := kt6 (i := 57) rfl rfl
theorem cvL_68 : kbCV "KnockBookLaw" 68 MX11_said 1 := ⟨kb_all5 (kt6 (i := 55) rfl rfl) wiX11_said wsX11_said wzX11_said wcX11_said, mfX11_said⟩
theorem mfX11_howMany : MX11_howMany.1.cls ≠ "java/lang/invoke/MethodHandle" ∧ MX11_howMany.1.cls ≠ "java/lang/invoke/VarHandle" ∧ (parseMethodDescriptor MX11_howMany.1.desc).map (fun d => d.parameters.length) = some 1 ∧ MX11_howMany.2.2.1 ≤ 29 := by decide +kernel
theorem wcX11_howMany : Cond.code MX11_howMany.1 MX11_howMany.2.1 MX11_howMany.2.2.1 MX11_howMany.2.2.2 ∈ kbT := kt6 (i := 75) rfl rfl
theorem wzX11_howMany : Cond.initialized MX11_howMany.1.cls ∈ kbT := kt1 (i := 1) rfl rfl
theorem wiX11_howMany : Cond.instanceMethod MX11_howMany.1 ∈ kbT := kt6 (i := 73) rfl rfl
theorem wsX11_howMany : Cond.selects MX11_howMany.1.cls MX11_howMany.1 MX11_howMany.1 ∈ kbT := kt6 (i := 74) rfl rfl
theorem cvL_71 : kbCV "KnockBookLaw" 71 MX11_howMany 1 := ⟨kb_all5 (kt6 (i := 72) rfl rfl) wiX11_howMany wsX11_howMany wzX11_howMany wcX11_howMany, mfX11_howMany⟩
theorem mfX11_hear : MX11_hear.1.cls ≠ "java/lang/invoke/MethodHandle" ∧ MX11_hear.1.cls ≠ "java/lang/invoke/VarHandle" ∧ (parseMethodDescriptor MX11_hear.1.desc).map (fun d => d.parameters.length) = some 2 ∧ MX11_hear.2.2.1 ≤ 29 := by decide +kernel
theorem wcX11_hear : Cond.code MX11_hear.1 MX11_hear.2.1 MX11_hear.2.2.1 MX11_hear.2.2.2 ∈ kbT := kt6 (i := 91) rfl rfl
theorem wzX11_hear : Cond.initialized MX11_hear.1.cls ∈ kbT := kt1 (i := 1) rfl rfl
theorem wiX11_hear : Cond.instanceMethod MX11_hear.1 ∈ kbT := kt6 (i := 89) rfl rfl
theorem wsX11_hear : Cond.selects MX11_hear.1.cls MX11_hear.1 MX11_hear.1 ∈ kbT := kt6 (i := 90) rfl rfl
theorem cvL_75 : kbCV "KnockBookLaw" 75 MX11_hear 2 := ⟨kb_all5 (kt6 (i := 88) rfl rfl) wiX11_hear wsX11_hear wzX11_hear wcX11_hear, mfX11_hear⟩
theorem mfX11_listen : MX11_listen.1.cls ≠ "java/lang/invoke/MethodHandle" ∧ MX11_listen.1.cls ≠ "java/lang/invoke/VarHandle" ∧ (parseMethodDescriptor MX11_listen.1.desc).map (fun d => d.parameters.length) = some 1 ∧ MX11_listen.2.2.1 ≤ 29 := by decide +kernel
theorem wcX11_listen : Cond.code MX11_listen.1 MX11_listen.2.1 MX11_listen.2.2.1 MX11_listen.2.2.2 ∈ kbT := kt6 (i := 98) rfl rfl
theorem wzX11_listen : Cond.initialized MX11_listen.1.cls ∈ kbT := kt1 (i := 1) rfl rfl
theorem wiX11_listen : Cond.instanceMethod MX11_listen.1 ∈ kbT := kt6 (i := 96) rfl rfl
theorem wsX11_listen : Cond.selects MX11_listen.1.cls MX11_listen.1 MX11_listen.1 ∈ kbT := kt6 (i := 97) rfl rfl
theorem cvL_78 : kbCV "KnockBookLaw" 78 MX11_listen 1 := ⟨kb_all5 (kt6 (i := 95) rfl rfl) wiX11_listen wsX11_listen wzX11_listen wcX11_listen, mfX11_listen⟩
theorem mfX11_telegraph : MX11_telegraph.1.cls ≠ "java/lang/invoke/MethodHandle" ∧ MX11_telegraph.1.cls ≠ "java/lang/invoke/VarHandle" ∧ (parseMethodDescriptor MX11_telegraph.1.desc).map (fun d => d.parameters.length) = some 2 ∧ MX11_telegraph.2.2.1 ≤ 29 := by decide +kernel
theorem wcX11_telegraph : Cond.code MX11_telegraph.1 MX11_telegraph.2.1 MX11_telegraph.2.2.1 MX11_telegraph.2.2.2 ∈ kbT := kt6 (i := 114) rfl rfl
theorem wzX11_telegraph : Cond.initialized MX11_telegraph.1.cls ∈ kbT := kt1 (i := 1) rfl rfl
theorem wiX11_telegraph : Cond.instanceMethod MX11_telegraph.1 ∈ kbT := kt6 (i := 112) rfl rfl
theorem wsX11_telegraph : Cond.selects MX11_telegraph.1.cls MX11_telegraph.1 MX11_telegraph.1 ∈ kbT := kt6 (i := 113) rfl rfl
theorem cvL_81 : kbCV "KnockBookLaw" 81 MX11_telegraph 2 := ⟨kb_all5 (kt6 (i := 111) rfl rfl) wiX11_telegraph wsX11_telegraph wzX11_telegraph wcX11_telegraph, mfX11_telegraph⟩
theorem mfX11_game : MX11_game.1.cls ≠ "java/lang/invoke/MethodHandle" ∧ MX11_game.1.cls ≠ "java/lang/invoke/VarHandle" ∧ (parseMethodDescriptor MX11_game.1.desc).map (fun d => d.parameters.length) = some 3 ∧ MX11_game.2.2.1 ≤ 29 := by decide +kernel
theorem wcX11_game : Cond.code MX11_game.1 MX11_game.2.1 MX11_game.2.2.1 MX11_game.2.2.2 ∈ kbT := kt6 (i := 132) rfl rfl
theorem wzX11_game : Cond.initialized MX11_game.1.cls ∈ kbT := kt1 (i := 1) rfl rfl
theorem wiX11_game : Cond.instanceMethod MX11_game.1 ∈ kbT := kt6 (i := 130) rfl rfl
theorem wsX11_game : Cond.selects MX11_game.1.cls MX11_game.1 MX11_game.1 ∈ kbT := kt6 (i := 131) rfl rfl
theorem cvL_84 : kbCV "KnockBookLaw" 84 MX11_game 3 := ⟨kb_all5 (kt6 (i := 129) rfl rfl) wiX11_game wsX11_game wzX11_game wcX11_game, mfX11_game⟩
theorem mfX11_frost : MX11_frost.1.cls ≠ "java/lang/invoke/MethodHandle" ∧ MX11_frost.1.cls ≠ "java/lang/invoke/VarHandle" ∧ (parseMethodDescriptor MX11_frost.1.desc).map (fun d => d.parameters.length) = some 3 ∧ MX11_frost.2.2.1 ≤ 29 := by decide +kernel
theorem wcX11_frost : Cond.code MX11_frost.1 MX11_frost.2.1 MX11_frost.2.2.1 MX11_frost.2.2.2 ∈ kbT := kt6 (i := 155) rfl rfl
theorem wzX11_frost : Cond.initialized MX11_frost.1.cls ∈ kbT := kt1 (i := 1) rfl rfl
theorem wiX11_frost : Cond.instanceMethod MX11_frost.1 ∈ kbT := kt6 (i := 153) rfl rfl
theorem wsX11_frost : Cond.selects MX11_frost.1.cls MX11_frost.1 MX11_frost.1 ∈ kbT := kt6 (i := 154) rfl rfl
theorem cvL_88 : kbCV "KnockBookLaw" 88 MX11_frost 3 := ⟨kb_all5 (kt6 (i := 152) rfl rfl) wiX11_frost wsX11_frost wzX11_frost wcX11_frost, mfX11_frost⟩
theorem mfX11_needRow : MX11_needRow.1.cls ≠ "java/lang/invoke/MethodHandle" ∧ MX11_needRow.1.cls ≠ "java/lang/invoke/VarHandle" ∧ (parseMethodDescriptor MX11_needRow.1.desc).map (fun d => d.parameters.length) = some 1 ∧ MX11_needRow.2.2.1 ≤ 29 := by decide +kernel
theorem wcX11_needRow : Cond.code MX11_needRow.1 MX11_needRow.2.1 MX11_needRow.2.2.1 MX11_needRow.2.2.2 ∈ kbT := kt5 (i := 82) rfl rfl
theorem wzX11_needRow : Cond.initialized MX11_needRow.1.cls ∈ kbT := kt1 (i := 1) rfl rfl
theorem wtX11_needRow : Cond.static MX11_needRow.1 ∈ kbT := kt5 (i := 81) rfl rfl
theorem csX11_203 : kbCS "KnockBook" 203 MX11_needRow 1 := ⟨kb_all4 (kt5 (i := 80) rfl rfl) wtX11_needRow wzX11_needRow wcX11_needRow, mfX11_needRow⟩
theorem mfX11_needWhat : MX11_needWhat.1.cls ≠ "java/lang/invoke/MethodHandle" ∧ MX11_needWhat.1.cls ≠ "java/lang/invoke/VarHandle" ∧ (parseMethodDescriptor MX11_needWhat.1.desc).map (fun d => d.parameters.length) = some 2 ∧ MX11_needWhat.2.2.1 ≤ 29 := by decide +kernel
theorem wcX11_needWhat : Cond.code MX11_needWhat.1 MX11_needWhat.2.1 MX11_needWhat.2.2.1 MX11_needWhat.2.2.2 ∈ kbT := kt5 (i := 94) rfl rfl
theorem wzX11_needWhat : Cond.initialized MX11_needWhat.1.cls ∈ kbT := kt1 (i := 1) rfl rfl
theorem wtX11_needWhat : Cond.static MX11_needWhat.1 ∈ kbT := kt5 (i := 93) rfl rfl
theorem csX11_210 : kbCS "KnockBook" 210 MX11_needWhat 2 := ⟨kb_all4 (kt5 (i := 92) rfl rfl) wtX11_needWhat wzX11_needWhat wcX11_needWhat, mfX11_needWhat⟩
theorem lsX11_97 : (("KnockBook", 97, "the tape has not so many bytes", 26) : String × Nat × String × Nat) ∈ kbSR := List.mem_of_getElem? (i := 13) rfl
theorem lsX11_159 : (("KnockBook", 159, "no such count", 13) : String × Nat × String × Nat) ∈ kbSR := List.mem_of_getElem? (i := 0) rfl
theorem lsX11_180 : (("KnockBook", 180, "no such thing of a word", 14) : String × Nat × String × Nat) ∈ kbSR := List.mem_of_getElem? (i := 1) rfl
theorem lsX11_201 : (("KnockBook", 201, "no such thing of a door", 15) : String × Nat × String × Nat) ∈ kbSR := List.mem_of_getElem? (i := 2) rfl
theorem lsX11_224 : (("KnockBook", 224, "the reading has no such word", 16) : String × Nat × String × Nat) ∈ kbSR := List.mem_of_getElem? (i := 3) rfl
theorem lsX11_293 : (("KnockBook", 293, "bits of doors that there aren't", 17) : String × Nat × String × Nat) ∈ kbSR := List.mem_of_getElem? (i := 4) rfl
theorem lsX11_301 : (("KnockBook", 301, "not 0 to 12 sounds", 18) : String × Nat × String × Nat) ∈ kbSR := List.mem_of_getElem? (i := 5) rfl
theorem lsX11_306 : (("KnockBook", 306, "not 1 to 12 sounds", 19) : String × Nat × String × Nat) ∈ kbSR := List.mem_of_getElem? (i := 6) rfl
theorem lsX11_330 : (("KnockBook", 330, "both doors are one", 20) : String × Nat × String × Nat) ∈ kbSR := List.mem_of_getElem? (i := 7) rfl
theorem lsX11_341 : (("KnockBook", 341, "not 0 to 60 times", 21) : String × Nat × String × Nat) ∈ kbSR := List.mem_of_getElem? (i := 8) rfl
theorem lsX11_358 : (("KnockBook", 358, "no such word", 22) : String × Nat × String × Nat) ∈ kbSR := List.mem_of_getElem? (i := 9) rfl
theorem lsX11_360 : (("KnockBook", 360, "no such door", 23) : String × Nat × String × Nat) ∈ kbSR := List.mem_of_getElem? (i := 10) rfl
theorem lsX11_362 : (("KnockBook", 362, "no such thing to ask for", 24) : String × Nat × String × Nat) ∈ kbSR := List.mem_of_getElem? (i := 11) rfl
theorem lsX11_364 : (("KnockBook", 364, "no row", 25) : String × Nat × String × Nat) ∈ kbSR := List.mem_of_getElem? (i := 12) rfl
def kbXn (b : Bool) : String := if b = true then kxNSE else kxIAE
theorem clN : Cond.classLink "KnockBookLaw" 18 kxNSE ∈ kbT := kt4 (i := 233) rfl rfl
theorem clI : Cond.classLink "KnockBookLaw" 13 kxIAE ∈ kbT := kt3 (i := 133) rfl rfl
theorem caN : kbCa (kbXn true) kxNSE true := by simp [kbCa, kbXC2, kbXn]
theorem caI : kbCa (kbXn false) kxIAE true := by simp [kbCa, kbXC2, kbXn]
theorem cnN : kbCa (kbXn true) kxIAE false := by simp [kbCa, kbXn]
theorem cnI : kbCa (kbXn false) kxNSE false := by simp [kbCa, kbXn]
theorem kb_lne {x w : Int32} (k : Int) (hk : w.toInt = k) (h : ¬ x = w) : ¬ x.toInt = k := fun e => h (Int32.toInt_inj.mp (e.trans hk.symm))
section InvY
variable {l : Launch} {M : kbMt} {tb : List ExceptionTableEntry} {rm : Room} {ck cn : Nat} {F : kbFt} {pc : Nat} {L : List (Option Value)} {st : List Value} {μ : kbM}
theorem y_invV_i {idx i d' n ci : Nat} {My : kbMt} {As st' : List Value} {v : Int32} {μ1 : kbM} {fds : List (Option Nat)} {T : u_T} {N : Nat} (hc : kbCV M.1.cls idx My n) (hs : kbSh[i]? = some (.inr (ci, fds))) (hcl : vwCl[ci]? = some (My.1.cls, T, N)) (hM : kbS l My d' (.ref i :: As) μ (fun r μ' => r = some (.int v) ∧ μ' = μ1)) (hst : st' = As.reverse ++ .ref i :: st) (hn : As.length = n) (hr : (st.map fun v => v.category).sum ≤ 8) (hro : kbRo My d' rm ck cn 0) (hd : decode M.2.1 pc = .ok (.invokevirtual idx, 3))
    (kk : kbY l M tb rm ck cn F (pc + 3) L (.int v :: st) μ1) : kbY l M tb rm ck cn F pc L st' μ := y_invV hc hs hcl hM hst hn hr hro hd (fun r μ' h => by obtain ⟨rfl, rfl⟩ := h; exact kk)
theorem y_invV_l {idx i d' n ci : Nat} {My : kbMt} {As st' : List Value} {v : Int64} {μ1 : kbM} {fds : List (Option Nat)} {T : u_T} {N : Nat} (hc : kbCV M.1.cls idx My n) (hs : kbSh[i]? = some (.inr (ci, fds))) (hcl : vwCl[ci]? = some (My.1.cls, T, N)) (hM : kbS l My d' (.ref i :: As) μ (fun r μ' => r = some (.long v) ∧ μ' = μ1)) (hst : st' = As.reverse ++ .ref i :: st) (hn : As.length = n) (hr : (st.map fun v => v.category).sum ≤ 8) (hro : kbRo My d' rm ck cn 0) (hd : decode M.2.1 pc = .ok (.invokevirtual idx, 3))
    (kk : kbY l M tb rm ck cn F (pc + 3) L (.long v :: st) μ1) : kbY l M tb rm ck cn F pc L st' μ := y_invV hc hs hcl hM hst hn hr hro hd (fun r μ' h => by obtain ⟨rfl, rfl⟩ := h; exact kk)
theorem y_invV_v {idx i d' n ci : Nat} {My : kbMt} {As st' : List Value} {μ1 : kbM} {fds : List (Option Nat)} {T : u_T} {N : Nat} (hc : kbCV M.1.cls idx My n) (hs : kbSh[i]? = some (.inr (ci, fds))) (hcl : vwCl[ci]? = some (My.1.cls, T, N)) (hM : kbS l My d' (.ref i :: As) μ (fun r μ' => r = none ∧ μ' = μ1)) (hst : st' = As.reverse ++ .ref i :: st) (hn : As.length = n) (hr : (st.map fun v => v.category).sum ≤ 8) (hro : kbRo My d' rm ck cn 0) (hd : decode M.2.1 pc = .ok (.invokevirtual idx, 3))
    (kk : kbY l M tb rm ck cn F (pc + 3) L st μ1) : kbY l M tb rm ck cn F pc L st' μ := y_invV hc hs hcl hM hst hn hr hro hd (fun r μ' h => by obtain ⟨rfl, rfl⟩ := h; exact kk)
theorem y_inv_i {idx d' n : Nat} {My : kbMt} {As st' : List Value} {v : Int32} {μ1 : kbM} (hc : kbCS M.1.cls idx My n) (hM : kbS l My d' As μ (fun r μ' => r = some (.int v) ∧ μ' = μ1)) (hst : st' = As.reverse ++ st) (hn : As.length = n) (hr : (st.map fun v => v.category).sum ≤ 8) (hro : kbRo My d' rm ck cn 0) (hd : decode M.2.1 pc = .ok (.invokestatic idx, 3))
    (kk : kbY l M tb rm ck cn F (pc + 3) L (.int v :: st) μ1) : kbY l M tb rm ck cn F pc L st' μ := y_inv hc hM hst hn hr hro hd (fun r μ' h => by obtain ⟨rfl, rfl⟩ := h; exact kk)
theorem y_inv_l {idx d' n : Nat} {My : kbMt} {As st' : List Value} {v : Int64} {μ1 : kbM} (hc : kbCS M.1.cls idx My n) (hM : kbS l My d' As μ (fun r μ' => r = some (.long v) ∧ μ' = μ1)) (hst : st' = As.reverse ++ st) (hn : As.length = n) (hr : (st.map fun v => v.category).sum ≤ 8) (hro : kbRo My d' rm ck cn 0) (hd : decode M.2.1 pc = .ok (.invokestatic idx, 3))
    (kk : kbY l M tb rm ck cn F (pc + 3) L (.long v :: st) μ1) : kbY l M tb rm ck cn F pc L st' μ := y_inv hc hM hst hn hr hro hd (fun r μ' h => by obtain ⟨rfl, rfl⟩ := h; exact kk)
theorem y_inv_v {idx d' n : Nat} {My : kbMt} {As st' : List Value} {μ1 : kbM} (hc : kbCS M.1.cls idx My n) (hM : kbS l My d' As μ (fun r μ' => r = none ∧ μ' = μ1)) (hst : st' = As.reverse ++ st) (hn : As.length = n) (hr : (st.map fun v => v.category).sum ≤ 8) (hro : kbRo My d' rm ck cn 0) (hd : decode M.2.1 pc = .ok (.invokestatic idx, 3))
    (kk : kbY l M tb rm ck cn F (pc + 3) L st μ1) : kbY l M tb rm ck cn F pc L st' μ := y_inv hc hM hst hn hr hro hd (fun r μ' h => by obtain ⟨rfl, rfl⟩ := h; exact kk)
end InvY
