/-! THE LAW: its end, the script's rows, the calls of wrappers -/
abbrev ML_law : kbMt := (yL_law, cL_law, 8, some .boolean)
/-- what the law's entry gives of its places -/
def kbLaw (b L : Nat) (xs : Nat → Int32) (E : kbE) (s : State) (args : Array Value) : Prop := args = #[.ref b] ∧ E.1 4000 = b ∧ va_X b L xs s s.heap ∧ b < s.heap.size ∧ ∀ i : Nat, i < kbN → E.1 i = s.heap.size + i
def kbFlaw (b L : Nat) (xs : Nat → Int32) : kbFt := fun E s args below t => kbLaw b L xs E s args → lw_Z below args s t
theorem kbLaw.out {b L : Nat} {xs : Nat → Int32} {E : kbE} {s : State} {args : Array Value} (h : kbLaw b L xs E s args) : ∀ q, kbAE E s.heap.size q → s.heap.size ≤ q := by
  intro q hq
  rcases hq with ⟨i, hi, rfl⟩ | hq
  · rw [h.2.2.2.2 i hi]; omega
  · exact hq
/-- i is the place j of the script, and five more are there -/
def kbIdx (L j : Nat) (i : Int32) : Prop := ∀ k : Nat, k < 6 → vp_in (i + Int32.ofNat k) L ∧ (i + Int32.ofNat k).toNatClampNeg = j + k
theorem kbRo_law {My : kbMt} {d' ck cn mk : Nat} (h1 : d' + 1 ≤ 2048) (h2 : 8 + (My.2.2.1 + 11) + 48 * d' ≤ 84000) (h3 : ck + mk ≤ 601024) (h4 : cn + 6 * mk ≤ 7293034) : kbRo My d' room_1 ck cn mk := ⟨h1, h2, h3, h4⟩
/-- entry idx names the wrapper My with the table hh -/
def kbCW (own : String) (idx : Nat) (My : kbMt) (hh : List (Nat × Nat × Nat × Nat)) (n : Nat) : Prop := (∀ w ∈ [Cond.methodLink own idx My.1, .static My.1, .initialized My.1.cls, .codeWith My.1 My.2.1 My.2.2.1 My.2.2.2 hh], w ∈ kbT) ∧ My.1.cls ≠ "java/lang/invoke/MethodHandle" ∧ My.1.cls ≠ "java/lang/invoke/VarHandle" ∧ (parseMethodDescriptor My.1.desc).map (fun d => d.parameters.length) = some n
section LawRows
variable {l : Launch} {M : kbMt} {tb : List ExceptionTableEntry} {rm : Room} {ck cn : Nat} {F : kbFt} {pc : Nat} {L : List (Option Value)} {st : List Value} {μ : kbM}
theorem y_widen {ck' cn' : Nat} (h1 : ck ≤ ck') (h2 : cn ≤ cn') (k : kbY l M tb rm ck' cn' F pc L st μ) : kbY l M tb rm ck cn F pc L st μ := by
  intro E p e s m args below meth c C D H locs ls hP hS hL
  exact W.widen h1 h2 (k E p e s m args below meth c C D H locs ls hP hS hL)
theorem y_vacuous {P : Prop} {p : Program} {e : Env} {R : Room} {s : State} {m : MethodId} {args : Array Value} {below : List Frame} {meth : Method} {c : Code} {H : Heap} {locs : List Loc} {Z : State → Prop} {g : JFrame} (h : ¬ P) : W p l e R s m args below meth c H locs ck cn (fun t => P → Z t) g := fun T _ _ => ⟨_, Steps.refl _, fun hp => absurd hp h⟩
theorem y_sld {b N : Nat} {xs : Nat → Int32} {i : Int32} (jn : Nat) (hin : vp_in i N) (hj : i.toNatClampNeg = jn) (hd : decode M.2.1 pc = .ok (.iaload, 1)) (k : kbY l M tb rm ck cn (kbFlaw b N xs) (pc + 1) L (.int (xs jn) :: st) μ) : kbY l M tb rm ck cn (kbFlaw b N xs) pc L (.int i :: .ref 4000 :: st) μ := by
  subst hj
  intro E p e s m args below meth c C D H locs ls hP hS hL
  have k' := k E p e s m args below meth c C D H locs ls hP hS hL
  by_cases hlaw : kbLaw b N xs E s args
  · have h2 := hlaw.2.1
    show W p l e rm s m args below meth c H locs ck cn _ (F0 m pc ls (.int i :: .ref (E.1 4000) :: st.map (kbV E)))
    rw [h2]
    exact va_sld C.1 C.2.1 hlaw.2.2.1 hlaw.2.2.2.1 (fun hA => Nat.not_le.mpr hlaw.2.2.2.1 (hlaw.out _ hA)) hS hin hd k'
  · exact y_vacuous hlaw
theorem y_slen {b N : Nat} {xs : Nat → Int32} (hd : decode M.2.1 pc = .ok (.arraylength, 1)) (k : kbY l M tb rm ck cn (kbFlaw b N xs) (pc + 1) L (.int (Int32.ofNat N) :: st) μ) : kbY l M tb rm ck cn (kbFlaw b N xs) pc L (.ref 4000 :: st) μ := by
  intro E p e s m args below meth c C D H locs ls hP hS hL
  have k' := k E p e s m args below meth c C D H locs ls hP hS hL
  by_cases hlaw : kbLaw b N xs E s args
  · have h2 := hlaw.2.1
    show W p l e rm s m args below meth c H locs ck cn _ (F0 m pc ls (.ref (E.1 4000) :: st.map (kbV E)))
    rw [h2]
    exact va_slen C.1 C.2.1 hlaw.2.2.1 hlaw.2.2.2.1 (fun hA => Nat.not_le.mpr hlaw.2.2.2.1 (hlaw.out _ hA)) hS hd k'
  · exact y_vacuous hlaw
theorem y_lawret {b N : Nat} {xs : Nat → Int32} (h1 : ck ≤ 601024) (h2 : cn ≤ 7293034) (hd : decode code pc = .ok (.ireturn, 1)) : kbY l ML_law [] room_1 ck cn (kbFlaw b N xs) pc L [.int 1] μ := by
  intro E p e s m args below meth c C D H locs ls hP hS hL
  by_cases hlaw : kbLaw b N xs E s args
  · obtain ⟨rfl, -⟩ := (fun z => z) hlaw
    refine va_forget (fun q hq => hlaw.out _ (hS.2.2 q hq)) (W.widen h1 h2 ?_)
    intro T hT X
    obtain ⟨t, a1, b1⟩ := lw_ret (l := l) (ls := ls) (H := H) (below := below) (b := b) C.1 C.2.1 C.2.2.2.1 C.2.2.2.2.1 hd T hT X
    exact ⟨t, a1, fun _ => b1⟩
  · exact y_vacuous hlaw
theorem y_invSW {idx d' n mk : Nat} {My : kbMt} {hh : List (Nat × Nat × Nat × Nat)} {As st' : List Value} {v : Int32} {μ1 : kbM} (hc : kbCW M.1.cls idx My hh n) (hM : kbSW l My hh d' mk As μ (fun r μ' => r = some (.int v) ∧ μ' = μ1)) (hst : st' = As.reverse ++ st) (hn : As.length = n) (hr : (st.map fun v => v.category).sum ≤ 8) (hro : kbRo My d' rm ck cn mk) (hd : decode M.2.1 pc = .ok (.invokestatic idx, 3))
    (kk : kbY l M tb rm (ck + mk) (cn + 6 * mk) F (pc + 3) L (.int v :: st) μ1) : kbY l M tb rm ck cn F pc L st' μ := by
  subst hst
  intro E p e s m args below meth c C D H locs ls hP hS hL
  obtain ⟨hx, hb, hml, hrt, hlk, hown, hts, hK, hJ, hTb, hSt⟩ := (fun z => z) C
  obtain ⟨h1, h2, h3, h4⟩ := hc
  have hG : GoodIn kbT (va_wsS M.1.cls idx My.1 (Cond.codeWith My.1 My.2.1 My.2.2.1 My.2.2.2 hh :: kbT)) := by
    intro w hw
    have hk : w ∈ kbT := by
      rcases List.mem_append.mp hw with z | z
      · exact h1 w (List.mem_append_left [Cond.codeWith My.1 My.2.1 My.2.2.1 My.2.2.2 hh] z)
      · rcases List.mem_cons.mp z with z | z
        · rw [z]; exact h1 _ (List.mem_of_getElem? (i := 3) rfl)
        · exact z
    exact ⟨hk, good_of_word (kbT_good w hk)⟩
  rw [show ((As.reverse ++ st).map (kbV E)) = (As.map (kbV E)).reverse ++ st.map (kbV E) by simp]
  refine kb_calledY (mk := mk) (nk := 6 * mk) (rest := st) (vx_runSW (As := As.map (kbV E)) (rest := st.map (kbV E)) ⟨hx, hb, hml, hown, hts⟩ (hM E H.size) (vx_cwSW n hts hG rfl rfl rfl ⟨h2, h3, h4⟩ ⟨hro.1, hro.2.1⟩)
    ⟨fun a U g mk q => ⟨q.1, q.2.1, q.2.2.1.calling, q.2.2.2.calling⟩, fun U hU hW => ⟨rfl, by rw [hU], kbWD_at hP hS hK hJ hTb hSt hU hW, D.2.at hS hU hW⟩⟩
    rfl (by rw [List.length_map]; exact hn) hL.2.1 rfl (lv_room (by rw [kbV_sum]; exact hr)) hd ⟨hro.2.2.1, hro.2.2.2⟩) hS (fun r μ' H1 locs1 hq hP1 hS1 => ?_)
  obtain ⟨rfl, rfl⟩ := hq
  exact kk E p e s m args below meth c C D H1 locs1 ls hP1 hS1 hL
end LawRows

theorem mfX11_feed : MX11_feed.1.cls ≠ "java/lang/invoke/MethodHandle" ∧ MX11_feed.1.cls ≠ "java/lang/invoke/VarHandle" ∧ (parseMethodDescriptor MX11_feed.1.desc).map (fun d => d.parameters.length) = some 5 ∧ MX11_feed.2.2.1 ≤ 29 := by decide +kernel
theorem wcX11_feed : Cond.code MX11_feed.1 MX11_feed.2.1 MX11_feed.2.2.1 MX11_feed.2.2.2 ∈ kbT := kt2 (i := 154) rfl rfl
theorem wzX11_feed : Cond.initialized MX11_feed.1.cls ∈ kbT := kt1 (i := 1) rfl rfl
theorem wiX11_feed : Cond.instanceMethod MX11_feed.1 ∈ kbT := kt2 (i := 152) rfl rfl
theorem wsX11_feed : Cond.selects MX11_feed.1.cls MX11_feed.1 MX11_feed.1 ∈ kbT := kt2 (i := 153) rfl rfl
theorem cvL_95 : kbCV "KnockBookLaw" 95 MX11_feed 5 := ⟨kb_all5 (kt2 (i := 151) rfl rfl) wiX11_feed wsX11_feed wzX11_feed wcX11_feed, mfX11_feed⟩
theorem mfX12_feed : MX12_feed.1.cls ≠ "java/lang/invoke/MethodHandle" ∧ MX12_feed.1.cls ≠ "java/lang/invoke/VarHandle" ∧ (parseMethodDescriptor MX12_feed.1.desc).map (fun d => d.parameters.length) = some 5 ∧ MX12_feed.2.2.1 ≤ 29 := by decide +kernel
theorem wcX12_feed : Cond.code MX12_feed.1 MX12_feed.2.1 MX12_feed.2.2.1 MX12_feed.2.2.2 ∈ kbT := kt7 (i := 145) rfl rfl
theorem wzX12_feed : Cond.initialized MX12_feed.1.cls ∈ kbT := kt1 (i := 12) rfl rfl
theorem wiX12_feed : Cond.instanceMethod MX12_feed.1 ∈ kbT := kt7 (i := 143) rfl rfl
theorem wsX12_feed : Cond.selects MX12_feed.1.cls MX12_feed.1 MX12_feed.1 ∈ kbT := kt7 (i := 144) rfl rfl
theorem cvL_99 : kbCV "KnockBookLaw" 99 MX12_feed 5 := ⟨kb_all5 (kt7 (i := 142) rfl rfl) wiX12_feed wsX12_feed wzX12_feed wcX12_feed, mfX12_feed⟩
theorem mfX12_book : MX12_book.1.cls ≠ "java/lang/invoke/MethodHandle" ∧ MX12_book.1.cls ≠ "java/lang/invoke/VarHandle" ∧ (parseMethodDescriptor MX12_book.1.desc).map (fun d => d.parameters.length) = some 1 ∧ MX12_book.2.2.1 ≤ 29 := by decide +kernel
theorem wcX12_book : Cond.code MX12_book.1 MX12_book.2.1 MX12_book.2.2.1 MX12_book.2.2.2 ∈ kbT := kt7 (i := 149) rfl rfl
theorem wzX12_book : Cond.initialized MX12_book.1.cls ∈ kbT := kt1 (i := 12) rfl rfl
theorem wiX12_book : Cond.instanceMethod MX12_book.1 ∈ kbT := kt7 (i := 147) rfl rfl
theorem wsX12_book : Cond.selects MX12_book.1.cls MX12_book.1 MX12_book.1 ∈ kbT := kt7 (i := 148) rfl rfl
theorem cvL_105 : kbCV "KnockBookLaw" 105 MX12_book 1 := ⟨kb_all5 (kt7 (i := 146) rfl rfl) wiX12_book wsX12_book wzX12_book wcX12_book, mfX12_book⟩
theorem mfX12_thrown : MX12_thrown.1.cls ≠ "java/lang/invoke/MethodHandle" ∧ MX12_thrown.1.cls ≠ "java/lang/invoke/VarHandle" ∧ (parseMethodDescriptor MX12_thrown.1.desc).map (fun d => d.parameters.length) = some 0 ∧ MX12_thrown.2.2.1 ≤ 29 := by decide +kernel
theorem wcX12_thrown : Cond.code MX12_thrown.1 MX12_thrown.2.1 MX12_thrown.2.2.1 MX12_thrown.2.2.2 ∈ kbT := kt7 (i := 141) rfl rfl
theorem wzX12_thrown : Cond.initialized MX12_thrown.1.cls ∈ kbT := kt1 (i := 12) rfl rfl
theorem wiX12_thrown : Cond.instanceMethod MX12_thrown.1 ∈ kbT := kt7 (i := 139) rfl rfl
theorem wsX12_thrown : Cond.selects MX12_thrown.1.cls MX12_thrown.1 MX12_thrown.1 ∈ kbT := kt7 (i := 140) rfl rfl
theorem cvL_106 : kbCV "KnockBookLaw" 106 MX12_thrown 0 := ⟨kb_all5 (kt7 (i := 138) rfl rfl) wiX12_thrown wsX12_thrown wzX12_thrown wcX12_thrown, mfX12_thrown⟩
theorem mfX11_fault : MX11_fault.1.cls ≠ "java/lang/invoke/MethodHandle" ∧ MX11_fault.1.cls ≠ "java/lang/invoke/VarHandle" ∧ (parseMethodDescriptor MX11_fault.1.desc).map (fun d => d.parameters.length) = some 0 ∧ MX11_fault.2.2.1 ≤ 29 := by decide +kernel
theorem wcX11_fault : Cond.code MX11_fault.1 MX11_fault.2.1 MX11_fault.2.2.1 MX11_fault.2.2.2 ∈ kbT := kt2 (i := 162) rfl rfl
theorem wzX11_fault : Cond.initialized MX11_fault.1.cls ∈ kbT := kt1 (i := 1) rfl rfl
theorem wiX11_fault : Cond.instanceMethod MX11_fault.1 ∈ kbT := kt2 (i := 160) rfl rfl
theorem wsX11_fault : Cond.selects MX11_fault.1.cls MX11_fault.1 MX11_fault.1 ∈ kbT := kt2 (i := 161) rfl rfl
theorem cvL_110 : kbCV "KnockBookLaw" 110 MX11_fault 0 := ⟨kb_all5 (kt2 (i := 159) rfl rfl) wiX11_fault wsX11_fault wzX11_fault wcX11_fault, mfX11_fault⟩
theorem mfX12_fault : MX12_fault.1.cls ≠ "java/lang/invoke/MethodHandle" ∧ MX12_fault.1.cls ≠ "java/lang/invoke/VarHandle" ∧ (parseMethodDescriptor MX12_fault.1.desc).map (fun d => d.parameters.length) = some 0 ∧ MX12_fault.2.2.1 ≤ 29 := by decide +kernel
theorem wcX12_fault : Cond.code MX12_fault.1 MX12_fault.2.1 MX12_fault.2.2.1 MX12_fault.2.2.2 ∈ kbT := kt8 (i := 20) rfl rfl
theorem wzX12_fault : Cond.initialized MX12_fault.1.cls ∈ kbT := kt1 (i := 12) rfl rfl
theorem wiX12_fault : Cond.instanceMethod MX12_fault.1 ∈ kbT := kt8 (i := 18) rfl rfl
theorem wsX12_fault : Cond.selects MX12_fault.1.cls MX12_fault.1 MX12_fault.1 ∈ kbT := kt8 (i := 19) rfl rfl
theorem cvL_113 : kbCV "KnockBookLaw" 113 MX12_fault 0 := ⟨kb_all5 (kt8 (i := 17) rfl rfl) wiX12_fault wsX12_fault wzX12_fault wcX12_fault, mfX12_fault⟩
theorem mfX12_count : MX12_count.1.cls ≠ "java/lang/invoke/MethodHandle" ∧ MX12_count.1.cls ≠ "java/lang/invoke/VarHandle" ∧ (parseMethodDescriptor MX12_count.1.desc).map (fun d => d.parameters.length) = some 1 ∧ MX12_count.2.2.1 ≤ 29 := by decide +kernel
theorem wcX12_count : Cond.code MX12_count.1 MX12_count.2.1 MX12_count.2.2.1 MX12_count.2.2.2 ∈ kbT := kt8 (i := 24) rfl rfl
theorem wzX12_count : Cond.initialized MX12_count.1.cls ∈ kbT := kt1 (i := 12) rfl rfl
theorem wiX12_count : Cond.instanceMethod MX12_count.1 ∈ kbT := kt8 (i := 22) rfl rfl
theorem wsX12_count : Cond.selects MX12_count.1.cls MX12_count.1 MX12_count.1 ∈ kbT := kt8 (i := 23) rfl rfl
theorem cvL_116 : kbCV "KnockBookLaw" 116 MX12_count 1 := ⟨kb_all5 (kt8 (i := 21) rfl rfl) wiX12_count wsX12_count wzX12_count wcX12_count, mfX12_count⟩
theorem mfX12_word : MX12_word.1.cls ≠ "java/lang/invoke/MethodHandle" ∧ MX12_word.1.cls ≠ "java/lang/invoke/VarHandle" ∧ (parseMethodDescriptor MX12_word.1.desc).map (fun d => d.parameters.length) = some 2 ∧ MX12_word.2.2.1 ≤ 29 := by decide +kernel
theorem wcX12_word : Cond.code MX12_word.1 MX12_word.2.1 MX12_word.2.2.1 MX12_word.2.2.2 ∈ kbT := kt8 (i := 31) rfl rfl
theorem wzX12_word : Cond.initialized MX12_word.1.cls ∈ kbT := kt1 (i := 12) rfl rfl
theorem wiX12_word : Cond.instanceMethod MX12_word.1 ∈ kbT := kt8 (i := 29) rfl rfl
theorem wsX12_word : Cond.selects MX12_word.1.cls MX12_word.1 MX12_word.1 ∈ kbT := kt8 (i := 30) rfl rfl
theorem cvL_120 : kbCV "KnockBookLaw" 120 MX12_word 2 := ⟨kb_all5 (kt8 (i := 28) rfl rfl) wiX12_word wsX12_word wzX12_word wcX12_word, mfX12_word⟩
theorem mfX12_door : MX12_door.1.cls ≠ "java/lang/invoke/MethodHandle" ∧ MX12_door.1.cls ≠ "java/lang/invoke/VarHandle" ∧ (parseMethodDescriptor MX12_door.1.desc).map (fun d => d.parameters.length) = some 2 ∧ MX12_door.2.2.1 ≤ 29 := by decide +kernel
theorem wcX12_door : Cond.code MX12_door.1 MX12_door.2.1 MX12_door.2.2.1 MX12_door.2.2.2 ∈ kbT := kt8 (i := 49) rfl rfl
theorem wzX12_door : Cond.initialized MX12_door.1.cls ∈ kbT := kt1 (i := 12) rfl rfl
theorem wiX12_door : Cond.instanceMethod MX12_door.1 ∈ kbT := kt8 (i := 47) rfl rfl
theorem wsX12_door : Cond.selects MX12_door.1.cls MX12_door.1 MX12_door.1 ∈ kbT := kt8 (i := 48) rfl rfl
theorem cvL_123 : kbCV "KnockBookLaw" 123 MX12_door 2 := ⟨kb_all5 (kt8 (i := 46) rfl rfl) wiX12_door wsX12_door wzX12_door wcX12_door, mfX12_door⟩
theorem mfX12_hears : MX12_hears.1.cls ≠ "java/lang/invoke/MethodHandle" ∧ MX12_hears.1.cls ≠ "java/lang/invoke/VarHandle" ∧ (parseMethodDescriptor MX12_hears.1.desc).map (fun d => d.parameters.length) = some 2 ∧ MX12_hears.2.2.1 ≤ 29 := by decide +kernel
theorem wcX12_hears : Cond.code MX12_hears.1 MX12_hears.2.1 MX12_hears.2.2.1 MX12_hears.2.2.2 ∈ kbT := kt8 (i := 69) rfl rfl
theorem wzX12_hears : Cond.initialized MX12_hears.1.cls ∈ kbT := kt1 (i := 12) rfl rfl
theorem wiX12_hears : Cond.instanceMethod MX12_hears.1 ∈ kbT := kt8 (i := 67) rfl rfl
theorem wsX12_hears : Cond.selects MX12_hears.1.cls MX12_hears.1 MX12_hears.1 ∈ kbT := kt8 (i := 68) rfl rfl
theorem cvL_126 : kbCV "KnockBookLaw" 126 MX12_hears 2 := ⟨kb_all5 (kt8 (i := 66) rfl rfl) wiX12_hears wsX12_hears wzX12_hears wcX12_hears, mfX12_hears⟩
theorem mfX12_read : MX12_read.1.cls ≠ "java/lang/invoke/MethodHandle" ∧ MX12_read.1.cls ≠ "java/lang/invoke/VarHandle" ∧ (parseMethodDescriptor MX12_read.1.desc).map (fun d => d.parameters.length) = some 2 ∧ MX12_read.2.2.1 ≤ 29 := by decide +kernel
theorem wcX12_read : Cond.code MX12_read.1 MX12_read.2.1 MX12_read.2.2.1 MX12_read.2.2.2 ∈ kbT := kt8 (i := 77) rfl rfl
theorem wzX12_read : Cond.initialized MX12_read.1.cls ∈ kbT := kt1 (i := 12) rfl rfl
theorem wiX12_read : Cond.instanceMethod MX12_read.1 ∈ kbT := kt8 (i := 75) rfl rfl
theorem wsX12_read : Cond.selects MX12_read.1.cls MX12_read.1 MX12_read.1 ∈ kbT := kt8 (i := 76) rfl rfl
theorem cvL_129 : kbCV "KnockBookLaw" 129 MX12_read 2 := ⟨kb_all5 (kt8 (i := 74) rfl rfl) wiX12_read wsX12_read wzX12_read wcX12_read, mfX12_read⟩
theorem mfX12_reading : MX12_reading.1.cls ≠ "java/lang/invoke/MethodHandle" ∧ MX12_reading.1.cls ≠ "java/lang/invoke/VarHandle" ∧ (parseMethodDescriptor MX12_reading.1.desc).map (fun d => d.parameters.length) = some 2 ∧ MX12_reading.2.2.1 ≤ 29 := by decide +kernel
theorem wcX12_reading : Cond.code MX12_reading.1 MX12_reading.2.1 MX12_reading.2.2.1 MX12_reading.2.2.2 ∈ kbT := kt8 (i := 108) rfl rfl
theorem wzX12_reading : Cond.initialized MX12_reading.1.cls ∈ kbT := kt1 (i := 12) rfl rfl
theorem wiX12_reading : Cond.instanceMethod MX12_reading.1 ∈ kbT := kt8 (i := 106) rfl rfl
theorem wsX12_reading : Cond.selects MX12_reading.1.cls MX12_reading.1 MX12_reading.1 ∈ kbT := kt8 (i := 107) rfl rfl
theorem cvL_132 : kbCV "KnockBookLaw" 132 MX12_reading 2 := ⟨kb_all5 (kt8 (i := 105) rfl rfl) wiX12_reading wsX12_reading wzX12_reading wcX12_reading, mfX12_reading⟩
theorem mfX12_apart : MX12_apart.1.cls ≠ "java/lang/invoke/MethodHandle" ∧ MX12_apart.1.cls ≠ "java/lang/invoke/VarHandle" ∧ (parseMethodDescriptor MX12_apart.1.desc).map (fun d => d.parameters.length) = some 2 ∧ MX12_apart.2.2.1 ≤ 29 := by decide +kernel
theorem wcX12_apart : Cond.code MX12_apart.1 MX12_apart.2.1 MX12_apart.2.2.1 MX12_apart.2.2.2 ∈ kbT := kt8 (i := 112) rfl rfl
theorem wzX12_apart : Cond.initialized MX12_apart.1.cls ∈ kbT := kt1 (i := 12) rfl rfl
theorem wiX12_apart : Cond.instanceMethod MX12_apart.1 ∈ kbT := kt8 (i := 110) rfl rfl
theorem wsX12_apart : Cond.selects MX12_apart.1.cls MX12_apart.1 MX12_apart.1 ∈ kbT := kt8 (i := 111) rfl rfl
theorem cvL_135 : kbCV "KnockBookLaw" 135 MX12_apart 2 := ⟨kb_all5 (kt8 (i := 109) rfl rfl) wiX12_apart wsX12_apart wzX12_apart wcX12_apart, mfX12_apart⟩
theorem mfX12_nearest : MX12_nearest.1.cls ≠ "java/lang/invoke/MethodHandle" ∧ MX12_nearest.1.cls ≠ "java/lang/invoke/VarHandle" ∧ (parseMethodDescriptor MX12_nearest.1.desc).map (fun d => d.parameters.length) = some 2 ∧ MX12_nearest.2.2.1 ≤ 29 := by decide +kernel
theorem wcX12_nearest : Cond.code MX12_nearest.1 MX12_nearest.2.1 MX12_nearest.2.2.1 MX12_nearest.2.2.2 ∈ kbT := kt8 (i := 123) rfl rfl
theorem wzX12_nearest : Cond.initialized MX12_nearest.1.cls ∈ kbT := kt1 (i := 12) rfl rfl
theorem wiX12_nearest : Cond.instanceMethod MX12_nearest.1 ∈ kbT := kt8 (i := 121) rfl rfl
theorem wsX12_nearest : Cond.selects MX12_nearest.1.cls MX12_nearest.1 MX12_nearest.1 ∈ kbT := kt8 (i := 122) rfl rfl
theorem cvL_138 : kbCV "KnockBookLaw" 138 MX12_nearest 2 := ⟨kb_all5 (kt8 (i := 120) rfl rfl) wiX12_nearest wsX12_nearest wzX12_nearest wcX12_nearest, mfX12_nearest⟩
theorem mfX11_take : MX11_take.1.cls ≠ "java/lang/invoke/MethodHandle" ∧ MX11_take.1.cls ≠ "java/lang/invoke/VarHandle" ∧ (parseMethodDescriptor MX11_take.1.desc).map (fun d => d.parameters.length) = some 3 ∧ MX11_take.2.2.1 ≤ 29 := by decide +kernel
theorem wcX11_take : Cond.code MX11_take.1 MX11_take.2.1 MX11_take.2.2.1 MX11_take.2.2.2 ∈ kbT := kt2 (i := 166) rfl rfl
theorem wzX11_take : Cond.initialized MX11_take.1.cls ∈ kbT := kt1 (i := 1) rfl rfl
theorem wiX11_take : Cond.instanceMethod MX11_take.1 ∈ kbT := kt2 (i := 164) rfl rfl
theorem wsX11_take : Cond.selects MX11_take.1.cls MX11_take.1 MX11_take.1 ∈ kbT := kt2 (i := 165) rfl rfl
theorem cvL_139 : kbCV "KnockBookLaw" 139 MX11_take 3 := ⟨kb_all5 (kt2 (i := 163) rfl rfl) wiX11_take wsX11_take wzX11_take wcX11_take, mfX11_take⟩
theorem mfX12_take : MX12_take.1.cls ≠ "java/lang/invoke/MethodHandle" ∧ MX12_take.1.cls ≠ "java/lang/invoke/VarHandle" ∧ (parseMethodDescriptor MX12_take.1.desc).map (fun d => d.parameters.length) = some 3 ∧ MX12_take.2.2.1 ≤ 29 := by decide +kernel
theorem wcX12_take : Cond.code MX12_take.1 MX12_take.2.1 MX12_take.2.2.1 MX12_take.2.2.2 ∈ kbT := kt8 (i := 131) rfl rfl
theorem wzX12_take : Cond.initialized MX12_take.1.cls ∈ kbT := kt1 (i := 12) rfl rfl
theorem wiX12_take : Cond.instanceMethod MX12_take.1 ∈ kbT := kt8 (i := 129) rfl rfl
theorem wsX12_take : Cond.selects MX12_take.1.cls MX12_take.1 MX12_take.1 ∈ kbT := kt8 (i := 130) rfl rfl
theorem cvL_142 : kbCV "KnockBookLaw" 142 MX12_take 3 := ⟨kb_all5 (kt8 (i := 128) rfl rfl) wiX12_take wsX12_take wzX12_take wcX12_take, mfX12_take⟩
theorem mfX12_die : MX12_die.1.cls ≠ "java/lang/invoke/MethodHandle" ∧ MX12_die.1.cls ≠ "java/lang/invoke/VarHandle" ∧ (parseMethodDescriptor MX12_die.1.desc).map (fun d => d.parameters.length) = some 1 ∧ MX12_die.2.2.1 ≤ 29 := by decide +kernel
theorem wcX12_die : Cond.code MX12_die.1 MX12_die.2.1 MX12_die.2.2.1 MX12_die.2.2.2 ∈ kbT := kt8 (i := 153) rfl rfl
theorem wzX12_die : Cond.initialized MX12_die.1.cls ∈ kbT := kt1 (i := 12) rfl rfl
theorem wiX12_die : Cond.instanceMethod MX12_die.1 ∈ kbT := kt8 (i := 151) rfl rfl
theorem wsX12_die : Cond.selects MX12_die.1.cls MX12_die.1 MX12_die.1 ∈ kbT := kt8 (i := 152) rfl rfl
theorem cvL_145 : kbCV "KnockBookLaw" 145 MX12_die 1 := ⟨kb_all5 (kt8 (i := 150) rfl rfl) wiX12_die wsX12_die wzX12_die wcX12_die, mfX12_die⟩
theorem mfX12_worth : MX12_worth.1.cls ≠ "java/lang/invoke/MethodHandle" ∧ MX12_worth.1.cls ≠ "java/lang/invoke/VarHandle" ∧ (parseMethodDescriptor MX12_worth.1.desc).map (fun d => d.parameters.length) = some 2 ∧ MX12_worth.2.2.1 ≤ 29 := by decide +kernel
theorem wcX12_worth : Cond.code MX12_worth.1 MX12_worth.2.1 MX12_worth.2.2.1 MX12_worth.2.2.2 ∈ kbT := kt8 (i := 157) rfl rfl
theorem wzX12_worth : Cond.initialized MX12_worth.1.cls ∈ kbT := kt1 (i := 12) rfl rfl
theorem wiX12_worth : Cond.instanceMethod MX12_worth.1 ∈ kbT := kt8 (i := 155) rfl rfl
theorem wsX12_worth : Cond.selects MX12_worth.1.cls MX12_worth.1 MX12_worth.1 ∈ kbT := kt8 (i := 156) rfl rfl
theorem cvL_148 : kbCV "KnockBookLaw" 148 MX12_worth 2 := ⟨kb_all5 (kt8 (i := 154) rfl rfl) wiX12_worth wsX12_worth wzX12_worth wcX12_worth, mfX12_worth⟩
theorem mfX12_part : MX12_part.1.cls ≠ "java/lang/invoke/MethodHandle" ∧ MX12_part.1.cls ≠ "java/lang/invoke/VarHandle" ∧ (parseMethodDescriptor MX12_part.1.desc).map (fun d => d.parameters.length) = some 2 ∧ MX12_part.2.2.1 ≤ 29 := by decide +kernel
theorem wcX12_part : Cond.code MX12_part.1 MX12_part.2.1 MX12_part.2.2.1 MX12_part.2.2.2 ∈ kbT := kt8 (i := 161) rfl rfl
theorem wzX12_part : Cond.initialized MX12_part.1.cls ∈ kbT := kt1 (i := 12) rfl rfl
theorem wiX12_part : Cond.instanceMethod MX12_part.1 ∈ kbT := kt8 (i := 159) rfl rfl
theorem wsX12_part : Cond.selects MX12_part.1.cls MX12_part.1 MX12_part.1 ∈ kbT := kt8 (i := 160) rfl rfl
theorem cvL_151 : kbCV "KnockBookLaw" 151 MX12_part 2 := ⟨kb_all5 (kt8 (i := 158) rfl rfl) wiX12_part wsX12_part wzX12_part wcX12_part, mfX12_part⟩
theorem mfX12_rain : MX12_rain.1.cls ≠ "java/lang/invoke/MethodHandle" ∧ MX12_rain.1.cls ≠ "java/lang/invoke/VarHandle" ∧ (parseMethodDescriptor MX12_rain.1.desc).map (fun d => d.parameters.length) = some 2 ∧ MX12_rain.2.2.1 ≤ 29 := by decide +kernel
theorem wcX12_rain : Cond.code MX12_rain.1 MX12_rain.2.1 MX12_rain.2.2.1 MX12_rain.2.2.2 ∈ kbT := kt8 (i := 165) rfl rfl
theorem wzX12_rain : Cond.initialized MX12_rain.1.cls ∈ kbT := kt1 (i := 12) rfl rfl
theorem wiX12_rain : Cond.instanceMethod MX12_rain.1 ∈ kbT := kt8 (i := 163) rfl rfl
theorem wsX12_rain : Cond.selects MX12_rain.1.cls MX12_rain.1 MX12_rain.1 ∈ kbT := kt8 (i := 164) rfl rfl
theorem cvL_155 : kbCV "KnockBookLaw" 155 MX12_rain 2 := ⟨kb_all5 (kt8 (i := 162) rfl rfl) wiX12_rain wsX12_rain wzX12_rain wcX12_rain, mfX12_rain⟩
theorem mfX11_undo : MX11_undo.1.cls ≠ "java/lang/invoke/MethodHandle" ∧ MX11_undo.1.cls ≠ "java/lang/invoke/VarHandle" ∧ (parseMethodDescriptor MX11_undo.1.desc).map (fun d => d.parameters.length) = some 0 ∧ MX11_undo.2.2.1 ≤ 29 := by decide +kernel
theorem wcX11_undo : Cond.code MX11_undo.1 MX11_undo.2.1 MX11_undo.2.2.1 MX11_undo.2.2.2 ∈ kbT := kt2 (i := 216) rfl rfl
theorem wzX11_undo : Cond.initialized MX11_undo.1.cls ∈ kbT := kt1 (i := 1) rfl rfl
theorem wiX11_undo : Cond.instanceMethod MX11_undo.1 ∈ kbT := kt2 (i := 214) rfl rfl
theorem wsX11_undo : Cond.selects MX11_undo.1.cls MX11_undo.1 MX11_undo.1 ∈ kbT := kt2 (i := 215) rfl rfl
theorem cvL_156 : kbCV "KnockBookLaw" 156 MX11_undo 0 := ⟨kb_all5 (kt2 (i := 213) rfl rfl) wiX11_undo wsX11_undo wzX11_undo wcX11_undo, mfX11_undo⟩
theorem mfX12_undo : MX12_undo.1.cls ≠ "java/lang/invoke/MethodHandle" ∧ MX12_undo.1.cls ≠ "java/lang/invoke/VarHandle" ∧ (parseMethodDescriptor MX12_undo.1.desc).map (fun d => d.parameters.length) = some 0 ∧ MX12_undo.2.2.1 ≤ 29 := by decide +kernel
theorem wcX12_undo : Cond.code MX12_undo.1 MX12_undo.2.1 MX12_undo.2.2.1 MX12_undo.2.2.2 ∈ kbT := kt8 (i := 169) rfl rfl
theorem wzX12_undo : Cond.initialized MX12_undo.1.cls ∈ kbT := kt1 (i := 12) rfl rfl
theorem wiX12_undo : Cond.instanceMethod MX12_undo.1 ∈ kbT := kt8 (i := 167) rfl rfl
theorem wsX12_undo : Cond.selects MX12_undo.1.cls MX12_undo.1 MX12_undo.1 ∈ kbT := kt8 (i := 168) rfl rfl
theorem cvL_159 : kbCV "KnockBookLaw" 159 MX12_undo 0 := ⟨kb_all5 (kt8 (i := 166) rfl rfl) wiX12_undo wsX12_undo wzX12_undo wcX12_undo, mfX12_undo⟩
theorem mfX12_mend : MX12_mend.1.cls ≠ "java/lang/invoke/MethodHandle" ∧ MX12_mend.1.cls ≠ "java/lang/invoke/VarHandle" ∧ (parseMethodDescriptor MX12_mend.1.desc).map (fun d => d.parameters.length) = some 1 ∧ MX12_mend.2.2.1 ≤ 29 := by decide +kernel
theorem wcX12_mend : Cond.code MX12_mend.1 MX12_mend.2.1 MX12_mend.2.2.1 MX12_mend.2.2.2 ∈ kbT := kt8 (i := 177) rfl rfl
theorem wzX12_mend : Cond.initialized MX12_mend.1.cls ∈ kbT := kt1 (i := 12) rfl rfl
theorem wiX12_mend : Cond.instanceMethod MX12_mend.1 ∈ kbT := kt8 (i := 175) rfl rfl
theorem wsX12_mend : Cond.selects MX12_mend.1.cls MX12_mend.1 MX12_mend.1 ∈ kbT := kt8 (i := 176) rfl rfl
theorem cvL_162 : kbCV "KnockBookLaw" 162 MX12_mend 1 := ⟨kb_all5 (kt8 (i := 174) rfl rfl) wiX12_mend wsX12_mend wzX12_mend wcX12_mend, mfX12_mend⟩
theorem mfX11_twoWays : MX11_twoWays.1.cls ≠ "java/lang/invoke/MethodHandle" ∧ MX11_twoWays.1.cls ≠ "java/lang/invoke/VarHandle" ∧ (parseMethodDescriptor MX11_twoWays.1.desc).map (fun d => d.parameters.length) = some 0 ∧ MX11_twoWays.2.2.1 ≤ 29 := by decide +kernel
theorem wcX11_twoWays : Cond.code MX11_twoWays.1 MX11_twoWays.2.1 MX11_twoWays.2.2.1 MX11_twoWays.2.2.2 ∈ kbT := kt2 (i := 237) rfl rfl
theorem wzX11_twoWays : Cond.initialized MX11_twoWays.1.cls ∈ kbT := kt1 (i := 1) rfl rfl
theorem wiX11_twoWays : Cond.instanceMethod MX11_twoWays.1 ∈ kbT := kt2 (i := 235) rfl rfl
theorem wsX11_twoWays : Cond.selects MX11_twoWays.1.cls MX11_twoWays.1 MX11_twoWays.1 ∈ kbT := kt2 (i := 236) rfl rfl
theorem cvL_163 : kbCV "KnockBookLaw" 163 MX11_twoWays 0 := ⟨kb_all5 (kt2 (i := 234) rfl rfl) wiX11_twoWays wsX11_twoWays wzX11_twoWays wcX11_twoWays, mfX11_twoWays⟩
theorem mfX12_twoWays : MX12_twoWays.1.cls ≠ "java/lang/invoke/MethodHandle" ∧ MX12_twoWays.1.cls ≠ "java/lang/invoke/VarHandle" ∧ (parseMethodDescriptor MX12_twoWays.1.desc).map (fun d => d.parameters.length) = some 0 ∧ MX12_twoWays.2.2.1 ≤ 29 := by decide +kernel
theorem wcX12_twoWays : Cond.code MX12_twoWays.1 MX12_twoWays.2.1 MX12_twoWays.2.2.1 MX12_twoWays.2.2.2 ∈ kbT := kt8 (i := 189) rfl rfl
theorem wzX12_twoWays : Cond.initialized MX12_twoWays.1.cls ∈ kbT := kt1 (i := 12) rfl rfl
theorem wiX12_twoWays : Cond.instanceMethod MX12_twoWays.1 ∈ kbT := kt8 (i := 187) rfl rfl
theorem wsX12_twoWays : Cond.selects MX12_twoWays.1.cls MX12_twoWays.1 MX12_twoWays.1 ∈ kbT := kt8 (i := 188) rfl rfl
theorem cvL_166 : kbCV "KnockBookLaw" 166 MX12_twoWays 0 := ⟨kb_all5 (kt8 (i := 186) rfl rfl) wiX12_twoWays wsX12_twoWays wzX12_twoWays wcX12_twoWays, mfX12_twoWays⟩
theorem mfX11_prefixes : MX11_prefixes.1.cls ≠ "java/lang/invoke/MethodHandle" ∧ MX11_prefixes.1.cls ≠ "java/lang/invoke/VarHandle" ∧ (parseMethodDescriptor MX11_prefixes.1.desc).map (fun d => d.parameters.length) = some 0 ∧ MX11_prefixes.2.2.1 ≤ 29 := by decide +kernel
theorem wcX11_prefixes : Cond.code MX11_prefixes.1 MX11_prefixes.2.1 MX11_prefixes.2.2.1 MX11_prefixes.2.2.2 ∈ kbT := kt3 (i := 33) rfl rfl
theorem wzX11_prefixes : Cond.initialized MX11_prefixes.1.cls ∈ kbT := kt1 (i := 1) rfl rfl
theorem wiX11_prefixes : Cond.instanceMethod MX11_prefixes.1 ∈ kbT := kt3 (i := 31) rfl rfl
theorem wsX11_prefixes : Cond.selects MX11_prefixes.1.cls MX11_prefixes.1 MX11_prefixes.1 ∈ kbT := kt3 (i := 32) rfl rfl
theorem cvL_167 : kbCV "KnockBookLaw" 167 MX11_prefixes 0 := ⟨kb_all5 (kt3 (i := 30) rfl rfl) wiX11_prefixes wsX11_prefixes wzX11_prefixes wcX11_prefixes, mfX11_prefixes⟩
theorem mfX12_prefixes : MX12_prefixes.1.cls ≠ "java/lang/invoke/MethodHandle" ∧ MX12_prefixes.1.cls ≠ "java/lang/invoke/VarHandle" ∧ (parseMethodDescriptor MX12_prefixes.1.desc).map (fun d => d.parameters.length) = some 0 ∧ MX12_prefixes.2.2.1 ≤ 29 := by decide +kernel
theorem wcX12_prefixes : Cond.code MX12_prefixes.1 MX12_prefixes.2.1 MX12_prefixes.2.2.1 MX12_prefixes.2.2.2 ∈ kbT := kt8 (i := 207) rfl rfl
theorem wzX12_prefixes : Cond.initialized MX12_prefixes.1.cls ∈ kbT := kt1 (i := 12) rfl rfl
theorem wiX12_prefixes : Cond.instanceMethod MX12_prefixes.1 ∈ kbT := kt8 (i := 205) rfl rfl
theorem wsX12_prefixes : Cond.selects MX12_prefixes.1.cls MX12_prefixes.1 MX12_prefixes.1 ∈ kbT := kt8 (i := 206) rfl rfl
theorem cvL_170 : kbCV "KnockBookLaw" 170 MX12_prefixes 0 := ⟨kb_all5 (kt8 (i := 204) rfl rfl) wiX12_prefixes wsX12_prefixes wzX12_prefixes wcX12_prefixes, mfX12_prefixes⟩
theorem mfX11_tellApart : MX11_tellApart.1.cls ≠ "java/lang/invoke/MethodHandle" ∧ MX11_tellApart.1.cls ≠ "java/lang/invoke/VarHandle" ∧ (parseMethodDescriptor MX11_tellApart.1.desc).map (fun d => d.parameters.length) = some 0 ∧ MX11_tellApart.2.2.1 ≤ 29 := by decide +kernel
theorem wcX11_tellApart : Cond.code MX11_tellApart.1 MX11_tellApart.2.1 MX11_tellApart.2.2.1 MX11_tellApart.2.2.2 ∈ kbT := kt3 (i := 41) rfl rfl
theorem wzX11_tellApart : Cond.initialized MX11_tellApart.1.cls ∈ kbT := kt1 (i := 1) rfl rfl
theorem wiX11_tellApart : Cond.instanceMethod MX11_tellApart.1 ∈ kbT := kt3 (i := 39) rfl rfl
theorem wsX11_tellApart : Cond.selects MX11_tellApart.1.cls MX11_tellApart.1 MX11_tellApart.1 ∈ kbT := kt3 (i := 40) rfl rfl
theorem cvL_171 : kbCV "KnockBookLaw" 171 MX11_tellApart 0 := ⟨kb_all5 (kt3 (i := 38) rfl rfl) wiX11_tellApart wsX11_tellApart wzX11_tellApart wcX11_tellApart, mfX11_tellApart⟩
theorem mfX12_tellApart : MX12_tellApart.1.cls ≠ "java/lang/invoke/MethodHandle" ∧ MX12_tellApart.1.cls ≠ "java/lang/invoke/VarHandle" ∧ (parseMethodDescriptor MX12_tellApart.1.desc).map (fun d => d.parameters.length) = some 0 ∧ MX12_tellApart.2.2.1 ≤ 29 := by decide +kernel
theorem wcX12_tellApart : Cond.code MX12_tellApart.1 MX12_tellApart.2.1 MX12_tellApart.2.2.1 MX12_tellApart.2.2.2 ∈ kbT := kt8 (i := 211) rfl rfl
theorem wzX12_tellApart : Cond.initialized MX12_tellApart.1.cls ∈ kbT := kt1 (i := 12) rfl rfl
theorem wiX12_tellApart : Cond.instanceMethod MX12_tellApart.1 ∈ kbT := kt8 (i := 209) rfl rfl
theorem wsX12_tellApart : Cond.selects MX12_tellApart.1.cls MX12_tellApart.1 MX12_tellApart.1 ∈ kbT := kt8 (i := 210) rfl rfl
theorem cvL_174 : kbCV "KnockBookLaw" 174 MX12_tellApart 0 := ⟨kb_all5 (kt8 (i := 208) rfl rfl) wiX12_tellApart wsX12_tellApart wzX12_tellApart wcX12_tellApart, mfX12_tellApart⟩
theorem mfX12_newWord : MX12_newWord.1.cls ≠ "java/lang/invoke/MethodHandle" ∧ MX12_newWord.1.cls ≠ "java/lang/invoke/VarHandle" ∧ (parseMethodDescriptor MX12_newWord.1.desc).map (fun d => d.parameters.length) = some 1 ∧ MX12_newWord.2.2.1 ≤ 29 := by decide +kernel
theorem wcX12_newWord : Cond.code MX12_newWord.1 MX12_newWord.2.1 MX12_newWord.2.2.1 MX12_newWord.2.2.2 ∈ kbT := kt8 (i := 226) rfl rfl
theorem wzX12_newWord : Cond.initialized MX12_newWord.1.cls ∈ kbT := kt1 (i := 12) rfl rfl
theorem wiX12_newWord : Cond.instanceMethod MX12_newWord.1 ∈ kbT := kt8 (i := 224) rfl rfl
theorem wsX12_newWord : Cond.selects MX12_newWord.1.cls MX12_newWord.1 MX12_newWord.1 ∈ kbT := kt8 (i := 225) rfl rfl
theorem cvL_177 : kbCV "KnockBookLaw" 177 MX12_newWord 1 := ⟨kb_all5 (kt8 (i := 223) rfl rfl) wiX12_newWord wsX12_newWord wzX12_newWord wcX12_newWord, mfX12_newWord⟩
theorem mfX12_span : MX12_span.1.cls ≠ "java/lang/invoke/MethodHandle" ∧ MX12_span.1.cls ≠ "java/lang/invoke/VarHandle" ∧ (parseMethodDescriptor MX12_span.1.desc).map (fun d => d.parameters.length) = some 2 ∧ MX12_span.2.2.1 ≤ 29 := by decide +kernel
theorem wcX12_span : Cond.code MX12_span.1 MX12_span.2.1 MX12_span.2.2.1 MX12_span.2.2.2 ∈ kbT := kt8 (i := 234) rfl rfl
theorem wzX12_span : Cond.initialized MX12_span.1.cls ∈ kbT := kt1 (i := 12) rfl rfl
theorem wiX12_span : Cond.instanceMethod MX12_span.1 ∈ kbT := kt8 (i := 232) rfl rfl
theorem wsX12_span : Cond.selects MX12_span.1.cls MX12_span.1 MX12_span.1 ∈ kbT := kt8 (i := 233) rfl rfl
theorem cvL_180 : kbCV "KnockBookLaw" 180 MX12_span 2 := ⟨kb_all5 (kt8 (i := 231) rfl rfl) wiX12_span wsX12_span wzX12_span wcX12_span, mfX12_span⟩
theorem mfX12_closest : MX12_closest.1.cls ≠ "java/lang/invoke/MethodHandle" ∧ MX12_closest.1.cls ≠ "java/lang/invoke/VarHandle" ∧ (parseMethodDescriptor MX12_closest.1.desc).map (fun d => d.parameters.length) = some 1 ∧ MX12_closest.2.2.1 ≤ 29 := by decide +kernel
theorem wcX12_closest : Cond.code MX12_closest.1 MX12_closest.2.1 MX12_closest.2.2.1 MX12_closest.2.2.2 ∈ kbT := kt8 (i := 238) rfl rfl
theorem wzX12_closest : Cond.initialized MX12_closest.1.cls ∈ kbT := kt1 (i := 12) rfl rfl
theorem wiX12_closest : Cond.instanceMethod MX12_closest.1 ∈ kbT := kt8 (i := 236) rfl rfl
theorem wsX12_closest : Cond.selects MX12_closest.1.cls MX12_closest.1 MX12_closest.1 ∈ kbT := kt8 (i := 237) rfl rfl
theorem cvL_183 : kbCV "KnockBookLaw" 183 MX12_closest 1 := ⟨kb_all5 (kt8 (i := 235) rfl rfl) wiX12_closest wsX12_closest wzX12_closest wcX12_closest, mfX12_closest⟩
theorem mfX12_said : MX12_said.1.cls ≠ "java/lang/invoke/MethodHandle" ∧ MX12_said.1.cls ≠ "java/lang/invoke/VarHandle" ∧ (parseMethodDescriptor MX12_said.1.desc).map (fun d => d.parameters.length) = some 1 ∧ MX12_said.2.2.1 ≤ 29 := by decide +kernel
theorem wcX12_said : Cond.code MX12_said.1 MX12_said.2.1 MX12_said.2.2.1 MX12_said.2.2.2 ∈ kbT := kt9 (i := 2) rfl rfl
theorem wzX12_said : Cond.initialized MX12_said.1.cls ∈ kbT := kt1 (i := 12) rfl rfl
theorem wiX12_said : Cond.instanceMethod MX12_said.1 ∈ kbT := kt9 (i := 0) rfl rfl
theorem wsX12_said : Cond.selects MX12_said.1.cls MX12_said.1 MX12_said.1 ∈ kbT := kt9 (i := 1) rfl rfl
theorem cvL_186 : kbCV "KnockBookLaw" 186 MX12_said 1 := ⟨kb_all5 (kt8 (i := 239) rfl rfl) wiX12_said wsX12_said wzX12_said wcX12_said, mfX12_said⟩
theorem mfX12_howMany : MX12_howMany.1.cls ≠ "java/lang/invoke/MethodHandle" ∧ MX12_howMany.1.cls ≠ "java/lang/invoke/VarHandle" ∧ (parseMethodDescriptor MX12_howMany.1.desc).map (fun d => d.parameters.length) = some 1 ∧ MX12_howMany.2.2.1 ≤ 29 := by decide +kernel
theorem wcX12_howMany : Cond.code MX12_howMany.1 MX12_howMany.2.1 MX12_howMany.2.2.1 MX12_howMany.2.2.2 ∈ kbT := kt9 (i := 8) rfl rfl
theorem wzX12_howMany : Cond.initialized MX12_howMany.1.cls ∈ kbT := kt1 (i := 12) rfl rfl
theorem wiX12_howMany : Cond.instanceMethod MX12_howMany.1 ∈ kbT := kt9 (i := 6) rfl rfl
theorem wsX12_howMany : Cond.selects MX12_howMany.1.cls MX12_howMany.1 MX12_howMany.1 ∈ kbT := kt9 (i := 7) rfl rfl
theorem cvL_189 : kbCV "KnockBookLaw" 189 MX12_howMany 1 := ⟨kb_all5 (kt9 (i := 5) rfl rfl) wiX12_howMany wsX12_howMany wzX12_howMany wcX12_howMany, mfX12_howMany⟩
theorem mfX12_hear : MX12_hear.1.cls ≠ "java/lang/invoke/MethodHandle" ∧ MX12_hear.1.cls ≠ "java/lang/invoke/VarHandle" ∧ (parseMethodDescriptor MX12_hear.1.desc).map (fun d => d.parameters.length) = some 2 ∧ MX12_hear.2.2.1 ≤ 29 := by decide +kernel
theorem wcX12_hear : Cond.code MX12_hear.1 MX12_hear.2.1 MX12_hear.2.2.1 MX12_hear.2.2.2 ∈ kbT := kt9 (i := 12) rfl rfl
theorem wzX12_hear : Cond.initialized MX12_hear.1.cls ∈ kbT := kt1 (i := 12) rfl rfl
theorem wiX12_hear : Cond.instanceMethod MX12_hear.1 ∈ kbT := kt9 (i := 10) rfl rfl
theorem wsX12_hear : Cond.selects MX12_hear.1.cls MX12_hear.1 MX12_hear.1 ∈ kbT := kt9 (i := 11) rfl rfl
theorem cvL_192 : kbCV "KnockBookLaw" 192 MX12_hear 2 := ⟨kb_all5 (kt9 (i := 9) rfl rfl) wiX12_hear wsX12_hear wzX12_hear wcX12_hear, mfX12_hear⟩
theorem mfX11_which : MX11_which.1.cls ≠ "java/lang/invoke/MethodHandle" ∧ MX11_which.1.cls ≠ "java/lang/invoke/VarHandle" ∧ (parseMethodDescriptor MX11_which.1.desc).map (fun d => d.parameters.length) = some 0 ∧ MX11_which.2.2.1 ≤ 29 := by decide +kernel
theorem wcX11_which : Cond.code MX11_which.1 MX11_which.2.1 MX11_which.2.2.1 MX11_which.2.2.2 ∈ kbT := kt3 (i := 100) rfl rfl
theorem wzX11_which : Cond.initialized MX11_which.1.cls ∈ kbT := kt1 (i := 1) rfl rfl
theorem wiX11_which : Cond.instanceMethod MX11_which.1 ∈ kbT := kt3 (i := 98) rfl rfl
theorem wsX11_which : Cond.selects MX11_which.1.cls MX11_which.1 MX11_which.1 ∈ kbT := kt3 (i := 99) rfl rfl
theorem cvL_193 : kbCV "KnockBookLaw" 193 MX11_which 0 := ⟨kb_all5 (kt3 (i := 97) rfl rfl) wiX11_which wsX11_which wzX11_which wcX11_which, mfX11_which⟩
theorem mfX12_which : MX12_which.1.cls ≠ "java/lang/invoke/MethodHandle" ∧ MX12_which.1.cls ≠ "java/lang/invoke/VarHandle" ∧ (parseMethodDescriptor MX12_which.1.desc).map (fun d => d.parameters.length) = some 0 ∧ MX12_which.2.2.1 ≤ 29 := by decide +kernel
theorem wcX12_which : Cond.code MX12_which.1 MX12_which.2.1 MX12_which.2.2.1 MX12_which.2.2.2 ∈ kbT := kt9 (i := 16) rfl rfl
theorem wzX12_which : Cond.initialized MX12_which.1.cls ∈ kbT := kt1 (i := 12) rfl rfl
theorem wiX12_which : Cond.instanceMethod MX12_which.1 ∈ kbT := kt9 (i := 14) rfl rfl
theorem wsX12_which : Cond.selects MX12_which.1.cls MX12_which.1 MX12_which.1 ∈ kbT := kt9 (i := 15) rfl rfl
theorem cvL_196 : kbCV "KnockBookLaw" 196 MX12_which 0 := ⟨kb_all5 (kt9 (i := 13) rfl rfl) wiX12_which wsX12_which wzX12_which wcX12_which, mfX12_which⟩
theorem mfX12_listen : MX12_listen.1.cls ≠ "java/lang/invoke/MethodHandle" ∧ MX12_listen.1.cls ≠ "java/lang/invoke/VarHandle" ∧ (parseMethodDescriptor MX12_listen.1.desc).map (fun d => d.parameters.length) = some 1 ∧ MX12_listen.2.2.1 ≤ 29 := by decide +kernel
theorem wcX12_listen : Cond.code MX12_listen.1 MX12_listen.2.1 MX12_listen.2.2.1 MX12_listen.2.2.2 ∈ kbT := kt9 (i := 24) rfl rfl
theorem wzX12_listen : Cond.initialized MX12_listen.1.cls ∈ kbT := kt1 (i := 12) rfl rfl
theorem wiX12_listen : Cond.instanceMethod MX12_listen.1 ∈ kbT := kt9 (i := 22) rfl rfl
theorem wsX12_listen : Cond.selects MX12_listen.1.cls MX12_listen.1 MX12_listen.1 ∈ kbT := kt9 (i := 23) rfl rfl
theorem cvL_199 : kbCV "KnockBookLaw" 199 MX12_listen 1 := ⟨kb_all5 (kt9 (i := 21) rfl rfl) wiX12_listen wsX12_listen wzX12_listen wcX12_listen, mfX12_listen⟩
theorem mfX11_forget : MX11_forget.1.cls ≠ "java/lang/invoke/MethodHandle" ∧ MX11_forget.1.cls ≠ "java/lang/invoke/VarHandle" ∧ (parseMethodDescriptor MX11_forget.1.desc).map (fun d => d.parameters.length) = some 0 ∧ MX11_forget.2.2.1 ≤ 29 := by decide +kernel
theorem wcX11_forget : Cond.code MX11_forget.1 MX11_forget.2.1 MX11_forget.2.2.1 MX11_forget.2.2.2 ∈ kbT := kt3 (i := 112) rfl rfl
theorem wzX11_forget : Cond.initialized MX11_forget.1.cls ∈ kbT := kt1 (i := 1) rfl rfl
theorem wiX11_forget : Cond.instanceMethod MX11_forget.1 ∈ kbT := kt3 (i := 110) rfl rfl
theorem wsX11_forget : Cond.selects MX11_forget.1.cls MX11_forget.1 MX11_forget.1 ∈ kbT := kt3 (i := 111) rfl rfl
theorem cvL_200 : kbCV "KnockBookLaw" 200 MX11_forget 0 := ⟨kb_all5 (kt3 (i := 109) rfl rfl) wiX11_forget wsX11_forget wzX11_forget wcX11_forget, mfX11_forget⟩
theorem mfX12_forget : MX12_forget.1.cls ≠ "java/lang/invoke/MethodHandle" ∧ MX12_forget.1.cls ≠ "java/lang/invoke/VarHandle" ∧ (parseMethodDescriptor MX12_forget.1.desc).map (fun d => d.parameters.length) = some 0 ∧ MX12_forget.2.2.1 ≤ 29 := by decide +kernel
theorem wcX12_forget : Cond.code MX12_forget.1 MX12_forget.2.1 MX12_forget.2.2.1 MX12_forget.2.2.2 ∈ kbT := kt9 (i := 32) rfl rfl
theorem wzX12_forget : Cond.initialized MX12_forget.1.cls ∈ kbT := kt1 (i := 12) rfl rfl
theorem wiX12_forget : Cond.instanceMethod MX12_forget.1 ∈ kbT := kt9 (i := 30) rfl rfl
theorem wsX12_forget : Cond.selects MX12_forget.1.cls MX12_forget.1 MX12_forget.1 ∈ kbT := kt9 (i := 31) rfl rfl
theorem cvL_203 : kbCV "KnockBookLaw" 203 MX12_forget 0 := ⟨kb_all5 (kt9 (i := 29) rfl rfl) wiX12_forget wsX12_forget wzX12_forget wcX12_forget, mfX12_forget⟩
theorem mfX12_telegraph : MX12_telegraph.1.cls ≠ "java/lang/invoke/MethodHandle" ∧ MX12_telegraph.1.cls ≠ "java/lang/invoke/VarHandle" ∧ (parseMethodDescriptor MX12_telegraph.1.desc).map (fun d => d.parameters.length) = some 2 ∧ MX12_telegraph.2.2.1 ≤ 29 := by decide +kernel
theorem wcX12_telegraph : Cond.code MX12_telegraph.1 MX12_telegraph.2.1 MX12_telegraph.2.2.1 MX12_telegraph.2.2.2 ∈ kbT := kt9 (i := 36) rfl rfl
theorem wzX12_telegraph : Cond.initialized MX12_telegraph.1.cls ∈ kbT := kt1 (i := 12) rfl rfl
theorem wiX12_telegraph : Cond.instanceMethod MX12_telegraph.1 ∈ kbT := kt9 (i := 34) rfl rfl
theorem wsX12_telegraph : Cond.selects MX12_telegraph.1.cls MX12_telegraph.1 MX12_telegraph.1 ∈ kbT := kt9 (i := 35) rfl rfl
theorem cvL_206 : kbCV "KnockBookLaw" 206 MX12_telegraph 2 := ⟨kb_all5 (kt9 (i := 33) rfl rfl) wiX12_telegraph wsX12_telegraph wzX12_telegraph wcX12_telegraph, mfX12_telegraph⟩
theorem mfX12_game : MX12_game.1.cls ≠ "java/lang/invoke/MethodHandle" ∧ MX12_game.1.cls ≠ "java/lang/invoke/VarHandle" ∧ (parseMethodDescriptor MX12_game.1.desc).map (fun d => d.parameters.length) = some 3 ∧ MX12_game.2.2.1 ≤ 29 := by decide +kernel
theorem wcX12_game : Cond.code MX12_game.1 MX12_game.2.1 MX12_game.2.2.1 MX12_game.2.2.2 ∈ kbT := kt9 (i := 44) rfl rfl
theorem wzX12_game : Cond.initialized MX12_game.1.cls ∈ kbT := kt1 (i := 12) rfl rfl
theorem wiX12_game : Cond.instanceMethod MX12_game.1 ∈ kbT := kt9 (i := 42) rfl rfl
theorem wsX12_game : Cond.selects MX12_game.1.cls MX12_game.1 MX12_game.1 ∈ kbT := kt9 (i := 43) rfl rfl
theorem cvL_210 : kbCV "KnockBookLaw" 210 MX12_game 3 := ⟨kb_all5 (kt9 (i := 41) rfl rfl) wiX12_game wsX12_game wzX12_game wcX12_game, mfX12_game⟩
theorem mfX12_frost : MX12_frost.1.cls ≠ "java/lang/invoke/MethodHandle" ∧ MX12_frost.1.cls ≠ "java/lang/invoke/VarHandle" ∧ (parseMethodDescriptor MX12_frost.1.desc).map (fun d => d.parameters.length) = some 3 ∧ MX12_frost.2.2.1 ≤ 29 := by decide +kernel
theorem wcX12_frost : Cond.code MX12_frost.1 MX12_frost.2.1 MX12_frost.2.2.1 MX12_frost.2.2.2 ∈ kbT := kt9 (i := 52) rfl rfl
theorem wzX12_frost : Cond.initialized MX12_frost.1.cls ∈ kbT := kt1 (i := 12) rfl rfl
theorem wiX12_frost : Cond.instanceMethod MX12_frost.1 ∈ kbT := kt9 (i := 50) rfl rfl
theorem wsX12_frost : Cond.selects MX12_frost.1.cls MX12_frost.1 MX12_frost.1 ∈ kbT := kt9 (i := 51) rfl rfl
theorem cvL_213 : kbCV "KnockBookLaw" 213 MX12_frost 3 := ⟨kb_all5 (kt9 (i := 49) rfl rfl) wiX12_frost wsX12_frost wzX12_frost wcX12_frost, mfX12_frost⟩
theorem mfX11_image : MX11_image.1.cls ≠ "java/lang/invoke/MethodHandle" ∧ MX11_image.1.cls ≠ "java/lang/invoke/VarHandle" ∧ (parseMethodDescriptor MX11_image.1.desc).map (fun d => d.parameters.length) = some 0 ∧ MX11_image.2.2.1 ≤ 29 := by decide +kernel
theorem wcX11_image : Cond.code MX11_image.1 MX11_image.2.1 MX11_image.2.2.1 MX11_image.2.2.2 ∈ kbT := kt3 (i := 116) rfl rfl
theorem wzX11_image : Cond.initialized MX11_image.1.cls ∈ kbT := kt1 (i := 1) rfl rfl
theorem wiX11_image : Cond.instanceMethod MX11_image.1 ∈ kbT := kt3 (i := 114) rfl rfl
theorem wsX11_image : Cond.selects MX11_image.1.cls MX11_image.1 MX11_image.1 ∈ kbT := kt3 (i := 115) rfl rfl
theorem cvL_214 : kbCV "KnockBookLaw" 214 MX11_image 0 := ⟨kb_all5 (kt3 (i := 113) rfl rfl) wiX11_image wsX11_image wzX11_image wcX11_image, mfX11_image⟩
theorem mfX12_image : MX12_image.1.cls ≠ "java/lang/invoke/MethodHandle" ∧ MX12_image.1.cls ≠ "java/lang/invoke/VarHandle" ∧ (parseMethodDescriptor MX12_image.1.desc).map (fun d => d.parameters.length) = some 0 ∧ MX12_image.2.2.1 ≤ 29 := by decide +kernel
theorem wcX12_image : Cond.code MX12_image.1 MX12_image.2.1 MX12_image.2.2.1 MX12_image.2.2.2 ∈ kbT := kt9 (i := 66) rfl rfl
theorem wzX12_image : Cond.initialized MX12_image.1.cls ∈ kbT := kt1 (i := 12) rfl rfl
theorem wiX12_image : Cond.instanceMethod MX12_image.1 ∈ kbT := kt9 (i := 64) rfl rfl
theorem wsX12_image : Cond.selects MX12_image.1.cls MX12_image.1 MX12_image.1 ∈ kbT := kt9 (i := 65) rfl rfl
theorem cvL_217 : kbCV "KnockBookLaw" 217 MX12_image 0 := ⟨kb_all5 (kt9 (i := 63) rfl rfl) wiX12_image wsX12_image wzX12_image wcX12_image, mfX12_image⟩
theorem mfX11_restore : MX11_restore.1.cls ≠ "java/lang/invoke/MethodHandle" ∧ MX11_restore.1.cls ≠ "java/lang/invoke/VarHandle" ∧ (parseMethodDescriptor MX11_restore.1.desc).map (fun d => d.parameters.length) = some 0 ∧ MX11_restore.2.2.1 ≤ 29 := by decide +kernel
theorem wcX11_restore : Cond.code MX11_restore.1 MX11_restore.2.1 MX11_restore.2.2.1 MX11_restore.2.2.2 ∈ kbT := kt3 (i := 129) rfl rfl
theorem wzX11_restore : Cond.initialized MX11_restore.1.cls ∈ kbT := kt1 (i := 1) rfl rfl
theorem wiX11_restore : Cond.instanceMethod MX11_restore.1 ∈ kbT := kt3 (i := 127) rfl rfl
theorem wsX11_restore : Cond.selects MX11_restore.1.cls MX11_restore.1 MX11_restore.1 ∈ kbT := kt3 (i := 128) rfl rfl
theorem cvL_218 : kbCV "KnockBookLaw" 218 MX11_restore 0 := ⟨kb_all5 (kt3 (i := 126) rfl rfl) wiX11_restore wsX11_restore wzX11_restore wcX11_restore, mfX11_restore⟩
theorem mfX12_restore : MX12_restore.1.cls ≠ "java/lang/invoke/MethodHandle" ∧ MX12_restore.1.cls ≠ "java/lang/invoke/VarHandle" ∧ (parseMethodDescriptor MX12_restore.1.desc).map (fun d => d.parameters.length) = some 0 ∧ MX12_restore.2.2.1 ≤ 29 := by decide +kernel
theorem wcX12_restore : Cond.code MX12_restore.1 MX12_restore.2.1 MX12_restore.2.2.1 MX12_restore.2.2.2 ∈ kbT := kt9 (i := 73) rfl rfl
theorem wzX12_restore : Cond.initialized MX12_restore.1.cls ∈ kbT := kt1 (i := 12) rfl rfl
theorem wiX12_restore : Cond.instanceMethod MX12_restore.1 ∈ kbT := kt9 (i := 71) rfl rfl
theorem wsX12_restore : Cond.selects MX12_restore.1.cls MX12_restore.1 MX12_restore.1 ∈ kbT := kt9 (i := 72) rfl rfl
theorem cvL_222 : kbCV "KnockBookLaw" 222 MX12_restore 0 := ⟨kb_all5 (kt9 (i := 70) rfl rfl) wiX12_restore wsX12_restore wzX12_restore wcX12_restore, mfX12_restore⟩
theorem cwL_100 : kbCW "KnockBookLaw" 100 ML_book [(0, 9, 12, 13)] 3 := ⟨kb_all4 (kt3 (i := 130) rfl rfl) (kt3 (i := 131) rfl rfl) (kt1 (i := 0) rfl rfl) (kt3 (i := 132) rfl rfl), by decide +kernel⟩
theorem cwL_114 : kbCW "KnockBookLaw" 114 ML_count [(0, 9, 12, 18)] 3 := ⟨kb_all4 (kt4 (i := 230) rfl rfl) (kt4 (i := 231) rfl rfl) (kt1 (i := 0) rfl rfl) (kt4 (i := 232) rfl rfl), by decide +kernel⟩
theorem cwL_117 : kbCW "KnockBookLaw" 117 ML_word [(0, 10, 13, 18)] 4 := ⟨kb_all4 (kt5 (i := 22) rfl rfl) (kt5 (i := 23) rfl rfl) (kt1 (i := 0) rfl rfl) (kt5 (i := 24) rfl rfl), by decide +kernel⟩
theorem cwL_121 : kbCW "KnockBookLaw" 121 ML_door [(0, 10, 13, 18)] 4 := ⟨kb_all4 (kt5 (i := 51) rfl rfl) (kt5 (i := 52) rfl rfl) (kt1 (i := 0) rfl rfl) (kt5 (i := 53) rfl rfl), by decide +kernel⟩
theorem cwL_124 : kbCW "KnockBookLaw" 124 ML_hears [(0, 10, 13, 18), (0, 10, 17, 13)] 4 := ⟨kb_all4 (kt5 (i := 73) rfl rfl) (kt5 (i := 74) rfl rfl) (kt1 (i := 0) rfl rfl) (kt5 (i := 75) rfl rfl), by decide +kernel⟩
theorem cwL_127 : kbCW "KnockBookLaw" 127 ML_read [(0, 9, 12, 18), (0, 9, 16, 13)] 4 := ⟨kb_all4 (kt5 (i := 85) rfl rfl) (kt5 (i := 86) rfl rfl) (kt1 (i := 0) rfl rfl) (kt5 (i := 87) rfl rfl), by decide +kernel⟩
theorem cwL_130 : kbCW "KnockBookLaw" 130 ML_reading [(0, 10, 13, 13), (0, 10, 17, 18)] 4 := ⟨kb_all4 (kt5 (i := 130) rfl rfl) (kt5 (i := 131) rfl rfl) (kt1 (i := 0) rfl rfl) (kt5 (i := 132) rfl rfl), by decide +kernel⟩
theorem cwL_133 : kbCW "KnockBookLaw" 133 ML_apart [(0, 10, 13, 13)] 4 := ⟨kb_all4 (kt5 (i := 147) rfl rfl) (kt5 (i := 148) rfl rfl) (kt1 (i := 0) rfl rfl) (kt5 (i := 149) rfl rfl), by decide +kernel⟩
theorem cwL_136 : kbCW "KnockBookLaw" 136 ML_nearest [(0, 10, 13, 18), (0, 10, 17, 13)] 4 := ⟨kb_all4 (kt5 (i := 165) rfl rfl) (kt5 (i := 166) rfl rfl) (kt1 (i := 0) rfl rfl) (kt5 (i := 167) rfl rfl), by decide +kernel⟩
theorem cwL_143 : kbCW "KnockBookLaw" 143 ML_die [(0, 9, 12, 18)] 3 := ⟨kb_all4 (kt5 (i := 180) rfl rfl) (kt5 (i := 181) rfl rfl) (kt1 (i := 0) rfl rfl) (kt5 (i := 182) rfl rfl), by decide +kernel⟩
theorem cwL_146 : kbCW "KnockBookLaw" 146 ML_worth [(0, 10, 13, 18)] 4 := ⟨kb_all4 (kt5 (i := 193) rfl rfl) (kt5 (i := 194) rfl rfl) (kt1 (i := 0) rfl rfl) (kt5 (i := 195) rfl rfl), by decide +kernel⟩
theorem cwL_149 : kbCW "KnockBookLaw" 149 ML_part [(0, 10, 13, 18)] 4 := ⟨kb_all4 (kt5 (i := 201) rfl rfl) (kt5 (i := 202) rfl rfl) (kt1 (i := 0) rfl rfl) (kt5 (i := 203) rfl rfl), by decide +kernel⟩
theorem cwL_152 : kbCW "KnockBookLaw" 152 ML_rain [(0, 17, 20, 18)] 4 := ⟨kb_all4 (kt5 (i := 208) rfl rfl) (kt5 (i := 209) rfl rfl) (kt1 (i := 0) rfl rfl) (kt5 (i := 210) rfl rfl), by decide +kernel⟩
theorem cwL_160 : kbCW "KnockBookLaw" 160 ML_mend [(0, 9, 12, 13)] 3 := ⟨kb_all4 (kt5 (i := 216) rfl rfl) (kt5 (i := 217) rfl rfl) (kt1 (i := 0) rfl rfl) (kt5 (i := 218) rfl rfl), by decide +kernel⟩
theorem cwL_175 : kbCW "KnockBookLaw" 175 ML_newWord [(0, 9, 12, 13)] 3 := ⟨kb_all4 (kt6 (i := 10) rfl rfl) (kt6 (i := 11) rfl rfl) (kt1 (i := 0) rfl rfl) (kt6 (i := 12) rfl rfl), by decide +kernel⟩
theorem cwL_178 : kbCW "KnockBookLaw" 178 ML_span [(0, 10, 13, 18)] 4 := ⟨kb_all4 (kt6 (i := 34) rfl rfl) (kt6 (i := 35) rfl rfl) (kt1 (i := 0) rfl rfl) (kt6 (i := 36) rfl rfl), by decide +kernel⟩
theorem cwL_181 : kbCW "KnockBookLaw" 181 ML_closest [(0, 9, 12, 18)] 3 := ⟨kb_all4 (kt6 (i := 41) rfl rfl) (kt6 (i := 42) rfl rfl) (kt1 (i := 0) rfl rfl) (kt6 (i := 43) rfl rfl), by decide +kernel⟩
theorem cwL_184 : kbCW "KnockBookLaw" 184 ML_said [(0, 9, 12, 13)] 3 := ⟨kb_all4 (kt6 (i := 52) rfl rfl) (kt6 (i := 53) rfl rfl) (kt1 (i := 0) rfl rfl) (kt6 (i := 54) rfl rfl), by decide +kernel⟩
theorem cwL_187 : kbCW "KnockBookLaw" 187 ML_howMany [(0, 8, 11, 13)] 3 := ⟨kb_all4 (kt6 (i := 69) rfl rfl) (kt6 (i := 70) rfl rfl) (kt1 (i := 0) rfl rfl) (kt6 (i := 71) rfl rfl), by decide +kernel⟩
theorem cwL_190 : kbCW "KnockBookLaw" 190 ML_hear [(0, 10, 13, 18)] 4 := ⟨kb_all4 (kt6 (i := 85) rfl rfl) (kt6 (i := 86) rfl rfl) (kt1 (i := 0) rfl rfl) (kt6 (i := 87) rfl rfl), by decide +kernel⟩
theorem cwL_197 : kbCW "KnockBookLaw" 197 ML_listen [(0, 9, 12, 18)] 3 := ⟨kb_all4 (kt6 (i := 92) rfl rfl) (kt6 (i := 93) rfl rfl) (kt1 (i := 0) rfl rfl) (kt6 (i := 94) rfl rfl), by decide +kernel⟩
theorem cwL_204 : kbCW "KnockBookLaw" 204 ML_telegraph [(0, 10, 13, 18)] 4 := ⟨kb_all4 (kt6 (i := 108) rfl rfl) (kt6 (i := 109) rfl rfl) (kt1 (i := 0) rfl rfl) (kt6 (i := 110) rfl rfl), by decide +kernel⟩
theorem cwL_207 : kbCW "KnockBookLaw" 207 ML_game [(0, 12, 15, 18), (0, 12, 19, 13)] 5 := ⟨kb_all4 (kt6 (i := 126) rfl rfl) (kt6 (i := 127) rfl rfl) (kt1 (i := 0) rfl rfl) (kt6 (i := 128) rfl rfl), by decide +kernel⟩
theorem cwL_211 : kbCW "KnockBookLaw" 211 ML_frost [(0, 12, 15, 18), (0, 12, 19, 13)] 5 := ⟨kb_all4 (kt6 (i := 149) rfl rfl) (kt6 (i := 150) rfl rfl) (kt1 (i := 0) rfl rfl) (kt6 (i := 151) rfl rfl), by decide +kernel⟩
