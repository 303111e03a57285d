/-! CATCHES: one row of the table asked, its class linked if it isn't yet -/
theorem kx_row {Q : Handler → Pre} {E : CtlPost} {e : Env} {d : Bool} {acts : List Action} {s : State} {f : JFrame} {a : Addr} {x : ExceptionTableEntry} {t : List ExceptionTableEntry} {c : ClassId} {cell : Cell} (hx : covers x f.pc = true) (h0 : x.catchType ≠ 0)
    (hl : s.vm.ClassLinks e.platform f.method.cls x.catchType c) (hcell : s.heap[a]? = some cell) (hobj : ∀ k, cell.vm ≠ .statics k)
    (hk : ∃ k, s.vm.classes[cell.cls]? = some k) (hc : ∃ k, s.vm.classes[c]? = some k) (b : Bool) (hb : s.vm.assignable cell.cls c = b) :
    wp (findHandler.go f a (x :: t)) Q E e d acts s ↔ if b = true then Q (.found x.handlerPc) d acts (s.setVm (s.vm.noted f.method.cls x.catchType (.cls c))) else wp (findHandler.go f a t) Q E e d acts (s.setVm (s.vm.noted f.method.cls x.catchType (.cls c))) := by
  simp only [covers] at hx
  obtain ⟨ha, ht⟩ := (resolveClass_links e.toSetting hl).op (op := VmOp.resolveClass f.method.cls x.catchType) rfl
  have hal : s.vm.Alike (s.vm.noted f.method.cls x.catchType (.cls c)) := (Vm.Alike.refl s.vm).noted _ _ _
  obtain ⟨k1, hk1⟩ := hk
  obtain ⟨k2, hk2⟩ := hc
  obtain ⟨k1', hk1', -⟩ := hal.2.2 _ _ hk1
  obtain ⟨k2', hk2', -⟩ := hal.2.2 _ _ hk2
  have hb' : (s.vm.noted f.method.cls x.catchType (.cls c)).assignable cell.cls c = b := by rw [hal.assignable]; exact hb
  cases b <;> simp [findHandler.go, hx, h0, ha, ht, hcell, hobj, hk1', hk2', hb', VmOp.dirties, VmOp.acts]
/-- what the search answers, and the tables that it leaves -/
def kxFinds (e : Env) (s : State) (f : JFrame) (a : Addr) (tab : List ExceptionTableEntry) (h : Handler) (vm' : Vm) : Prop :=
  ∀ (Q : Handler → Pre) (E : CtlPost) (d : Bool) (acts : List Action), wp (findHandler.go f a tab) Q E e d acts s ↔ Q h d acts (s.setVm vm')
theorem kx_first {e : Env} {s₀ S : State} {f : JFrame} {a : Addr} {x : ExceptionTableEntry} {t : List ExceptionTableEntry} {c : ClassId} {cell : Cell} (hx : covers x f.pc = true) (h0 : x.catchType ≠ 0)
    (hl : s₀.vm.ClassLinks e.platform f.method.cls x.catchType c) (hW : s₀.WarmedH S.vm) (hcell : S.heap[a]? = some cell) (hobj : ∀ k, cell.vm ≠ .statics k) (hk : ∃ k, s₀.vm.classes[cell.cls]? = some k) (hfit : s₀.vm.assignable cell.cls c = true) :
    ∃ vm', s₀.WarmedH vm' ∧ kxFinds e S f a (x :: t) (.found x.handlerPc) vm' := by
  obtain ⟨k0, hk0⟩ := hk
  obtain ⟨k0', hk0', -⟩ := hW.alike.2.2 _ _ hk0
  obtain ⟨dk, _, _, kt, hd, _, _, _, _, hkt, _, hopen⟩ := hl.here
  obtain ⟨kt', hkt', -⟩ := hW.alike.2.2 _ _ hkt
  refine ⟨_, hW.noted hd hopen (State.rightAt_cls hl), fun Q E d acts => ?_⟩
  rw [kx_row hx h0 (hW.classLinks hl) hcell hobj ⟨k0', hk0'⟩ ⟨kt', hkt'⟩ true (by rw [hW.alike.assignable]; exact hfit)]
  simp
theorem kx_second {e : Env} {s₀ S : State} {f : JFrame} {a : Addr} {y x : ExceptionTableEntry} {t : List ExceptionTableEntry} {c0 c : ClassId} {cell : Cell} (hy : covers y f.pc = true) (hy0 : y.catchType ≠ 0)
    (hyl : s₀.vm.ClassLinks e.platform f.method.cls y.catchType c0) (hno : s₀.vm.assignable cell.cls c0 = false) (hx : covers x f.pc = true) (h0 : x.catchType ≠ 0)
    (hl : s₀.vm.ClassLinks e.platform f.method.cls x.catchType c) (hW : s₀.WarmedH S.vm) (hcell : S.heap[a]? = some cell) (hobj : ∀ k, cell.vm ≠ .statics k) (hk : ∃ k, s₀.vm.classes[cell.cls]? = some k) (hfit : s₀.vm.assignable cell.cls c = true) :
    ∃ vm', s₀.WarmedH vm' ∧ kxFinds e S f a (y :: x :: t) (.found x.handlerPc) vm' := by
  obtain ⟨k0, hk0⟩ := hk
  obtain ⟨k0', hk0', -⟩ := hW.alike.2.2 _ _ hk0
  obtain ⟨dk, _, _, kt, hd, _, _, _, _, hkt, _, hopen⟩ := hyl.here
  obtain ⟨kt', hkt', -⟩ := hW.alike.2.2 _ _ hkt
  obtain ⟨vm', h1, h2⟩ := kx_first (e := e) (s₀ := s₀) (S := S.setVm (S.vm.noted f.method.cls y.catchType (.cls c0))) (f := f) (a := a) (x := x) (t := t) (c := c) (cell := cell) hx h0 hl (hW.noted hd hopen (State.rightAt_cls hyl)) hcell hobj ⟨k0, hk0⟩ hfit
  refine ⟨vm', h1, fun Q E d acts => ?_⟩
  rw [kx_row hy hy0 (hW.classLinks hyl) hcell hobj ⟨k0', hk0'⟩ ⟨kt', hkt'⟩ false (by rw [hW.alike.assignable]; exact hno)]
  simp only [Bool.false_eq_true, if_false]
  exact h2 Q E d acts
theorem kx_sf (u : State) (vm' : Vm) (F G : List Frame) : ((u.setFrames F).setVm vm').setFrames G = (u.setVm vm').setFrames G := by
  have h1 : (u.setFrames F).setVm vm' = (u.setVm vm').setFrames F := rfl
  rw [h1, State.setFrames_setFrames]
section Catch
variable {p : Program} {l : Launch} {e : Env} {R : Room} {s : State} {m : MethodId} {args : Array Value} {below : List Frame} {meth : Method} {c : Code} {T : State} {locs : List Loc} {cells slots : Nat}
theorem kx_caught (X : Stand p l e R s m args below meth c T locs cells slots) {a : Addr} {g : JFrame} (hg : g.method = m) {pc : Nat} {vm' : Vm} (hW : s.WarmedH vm') (hf : kxFinds e ((T.setTop g).pushFrame (.throwing a)) g a c.exceptionTable.toList (.found pc) vm') :
    Stand p l e R s m args below meth c (T.setVm vm') locs cells slots ∧ ∀ target, Steps p.tables e below ((T.setVm vm').setTop { g with pc := pc, stack := [.ref a] }) target → Steps p.tables e below ((T.setTop g).pushFrame (.throwing a)) target := by
  subst hg
  refine ⟨X.noted hW, fun target hrest => ?_⟩
  have hfind : ∀ (Q : Handler → Pre) (E : CtlPost) (d : Bool) (acts : List Action), wp (findHandler g a) Q E e d acts ((T.setTop g).pushFrame (.throwing a)) ↔ Q (.found pc) d acts (((T.setTop g).pushFrame (.throwing a)).setVm vm') := fun Q E d acts => by
    exact (W.findHandler_eq (s := (T.setTop g).pushFrame (.throwing a)) (f := g) (meth := meth) (code := c) X.method' X.code).trans (hf Q E d acts)
  obtain ⟨hgo, hw⟩ := X.here.throwing a
  refine Steps.head hgo hw ?_
  have hstep : (stepThrowing e ((T.setTop g).pushFrame (.throwing a)) a (.java g :: T.frames.tail)).Is ((((T.setTop g).pushFrame (.throwing a)).setVm vm').setFrames (.java { g with pc := pc, stack := [.ref a] } :: T.frames.tail)) [] := by
    simp only [stepThrowing, searchFrame, vmDo]
    generalize hr : Sem.go _ e false [] _ = res
    obtain ⟨as, rfl, ha⟩ := Sem.eq_ok_of hr (a := Handler.found pc) (s' := ((T.setTop g).pushFrame (.throwing a)).setVm vm') (acts' := []) (by simp [hfind _ _ _ _])
    exact ⟨rfl, ha⟩
  rw [stepThread_throwing (frames_entered X.here.top _), hstep.1]
  obtain ⟨g₀, hg⟩ := Option.isSome_iff_exists.mp X.here.top
  obtain ⟨r, hr⟩ := State.topJava?_eq_some.mp hg
  have hr' : (T.setVm vm').frames = .java g₀ :: r := hr
  rw [State.setTop_of_frames _ hr'] at hrest
  rw [hr, List.tail_cons, State.pushFrame, kx_sf, State.setTop_of_frames _ hr, kx_sf]
  exact hrest
end Catch
/-- slot i filled with something that isn't a place -/
theorem kbL.forget {E : kbE} {n : Nat} {L : List (Option Value)} {ls' : Array Slot} {i : Nat} {w : Value} (hn : L.length = n) (hno : kbNo L i = true)
    (h : lv_has ls' n ((i, w) :: (kbAs E L).filter (fun q => !(q.1 == i) && !(q.1 + 1 == i && q.2.category == 2)))) : kbL E n (L.set i none) ls' := by
  refine ⟨by rw [List.length_set]; exact hn, h.1, h.2.1, fun j v hj => ?_⟩
  by_cases e : j = i
  · subst e
    by_cases hlt : j < L.length
    · rw [List.getElem?_set_self hlt] at hj; cases hj
    · rw [List.getElem?_eq_none (by rw [List.length_set]; omega)] at hj; cases hj
  · rw [List.getElem?_set_ne (Ne.symm e)] at hj
    refine h.2.2 (j, kbV E v) (List.mem_cons_of_mem _ (List.mem_filter.mpr ⟨kbAs_mem hj, ?_⟩))
    by_cases e1 : j + 1 = i
    · have := kbNo_of hno e1 hj
      simp [e, kbV_cat, this]
    · simp [e, e1]
section CatchY
variable {l : Launch} {M : kbMt} {tb : List ExceptionTableEntry} {rm : Room} {ck cn : Nat} {F : kbFt} {pc : Nat} {L : List (Option Value)} {st : List Value} {μ : kbM}
/-- the class of X may be assigned to that of N, or may not -/
def kbCa (X N : String) (b : Bool) : Prop := if b = true then Cond.castable X N ∈ kbXC2 else (X = kxNSE ∧ N = kxIAE) ∨ (X = kxIAE ∧ N = kxNSE)
theorem kbCa_at {X N : String} {b : Bool} (h : kbCa X N b) {E : kbE} {s : State} (hx : kbXw E s) : ∃ c t : ClassId, s.vm.findClass X = some c ∧ s.vm.findClass N = some t ∧ s.vm.assignable c t = b := by
  cases b with
  | true =>
    have h' : Cond.castable X N ∈ kbXC2 := by simpa [kbCa] using h
    obtain ⟨c, t, h1, h2, h3⟩ := Cond.castable_spec (hx.1.2.1 _ h')
    exact ⟨c, t, h1, h2, h3⟩
  | false =>
    have h' : (X = kxNSE ∧ N = kxIAE) ∨ (X = kxIAE ∧ N = kxNSE) := by simpa [kbCa] using h
    rcases h' with ⟨rfl, rfl⟩ | ⟨rfl, rfl⟩
    · exact hx.1.2.2.1
    · exact hx.1.2.2.2
theorem y_handler {X : String} {k hpc w : Nat} (hd : (decode M.2.1 hpc = .ok (.astore k, 2) ∧ w = 2) ∨ (∃ j : Fin 4, decode M.2.1 hpc = .ok (.astore_n j, 1) ∧ (j : Nat) = k ∧ w = 1)) (hk : k < M.2.2.1) (hno : kbNo L k = true)
    (hfind : ∀ (E : kbE) (e : Env) (s S : State) (f : JFrame) (a : Addr) (cell : Cell), kbXw E s → (∀ w ∈ kbT, w.before #[] s = true) → e.platform.magicAccessors = ({} : Platform).magicAccessors → s.vm.findClass M.1.cls = some f.method.cls → f.pc = pc → s.WarmedH S.vm → S.heap[a]? = some cell → cell.vm = .none → s.vm.findClass X = some cell.cls → ∃ vm', s.WarmedH vm' ∧ kxFinds e S f a tb (.found hpc) vm')
    (kk : kbY l M tb rm ck cn F (hpc + w) (L.set k none) [] μ) : kbYX l M tb rm ck cn F pc L st X μ := by
  intro E p e s m args below meth c C D H locs ls hP hS hL q ce g1 g2 g3 T hT X'
  have hpl : e.platform.magicAccessors = ({} : Platform).magicAccessors := by rw [X'.admits.platform]
  obtain ⟨vm', hW', hf⟩ := hfind E e s ((T.setTop (F0 m pc ls (st.map (kbV E)))).pushFrame (.throwing q)) (F0 m pc ls (st.map (kbV E))) q ce D.2 (fun w hw => word_at (State.WarmedH.refl s) (good_of_word (kbT_good w hw)) (C.2.2.2.2.2.2.1 w hw)) hpl C.2.2.2.2.2.1 rfl X'.warmed (by show T.heap[q]? = some ce; rw [hT]; exact g1) g2 g3
  rw [← D.1] at hf
  obtain ⟨X2, st2⟩ := kx_caught X' (g := F0 m pc ls (st.map (kbV E))) rfl hW' hf
  have hw : W p l e rm s m args below meth c H locs ck cn (F E s args below) (F0 m hpc ls [.ref q]) := by
    rcases hd with ⟨hd, rfl⟩ | ⟨j, hd, rfl, rfl⟩
    · exact lv_astore C.1 C.2.1 hd hL.has hk rfl fun ls' h' => kk E p e s m args below meth c C D H locs ls' hP hS (kbL.forget hL.1 hno h')
    · exact lv_astore_n C.1 C.2.1 hd rfl hL.has hk rfl fun ls' h' => kk E p e s m args below meth c C D H locs ls' hP hS (kbL.forget hL.1 hno h')
  obtain ⟨t, a1, b1⟩ := hw (T.setVm vm') hT X2
  exact ⟨t, st2 t a1, b1⟩
/-- the table's first row takes it -/
theorem y_catch1 {X N : String} {x : ExceptionTableEntry} {t : List ExceptionTableEntry} {k w : Nat} (hd : (decode M.2.1 x.handlerPc = .ok (.astore k, 2) ∧ w = 2) ∨ (∃ j : Fin 4, decode M.2.1 x.handlerPc = .ok (.astore_n j, 1) ∧ (j : Nat) = k ∧ w = 1)) (hk : k < M.2.2.1) (hno : kbNo L k = true)
    (hx : covers x pc = true) (h0 : x.catchType ≠ 0) (hl : Cond.classLink M.1.cls x.catchType N ∈ kbT) (hc : kbCa X N true)
    (kk : kbY l M (x :: t) rm ck cn F (x.handlerPc + w) (L.set k none) [] μ) : kbYX l M (x :: t) rm ck cn F pc L st X μ := by
  refine y_handler hd hk hno ?_ kk
  intro E e s S f a cell hX hw hpl hown hpc hW hcell hv hcl
  obtain ⟨c1, c2, q1, q2, q3⟩ := kbCa_at hc hX
  cases Option.some.inj (q1.symm.trans hcl)
  obtain ⟨c5, hc5, hcl5⟩ := Cond.classLink_spec hown (hw _ hl) e.platform hpl
  cases Option.some.inj (q2.symm.trans hc5)
  exact kx_first (by rw [hpc]; exact hx) h0 hcl5 hW hcell (fun k => by rw [hv]; exact fun z => nomatch z) (by obtain ⟨k9, h9, -⟩ := Vm.findClass_spec hcl; exact ⟨k9, h9⟩) q3
/-- the first row doesn't, the second does -/
theorem y_catch2 {X N0 N : String} {y x : ExceptionTableEntry} {t : List ExceptionTableEntry} {k w : Nat} (hd : (decode M.2.1 x.handlerPc = .ok (.astore k, 2) ∧ w = 2) ∨ (∃ j : Fin 4, decode M.2.1 x.handlerPc = .ok (.astore_n j, 1) ∧ (j : Nat) = k ∧ w = 1)) (hk : k < M.2.2.1) (hno : kbNo L k = true)
    (hy : covers y pc = true) (hy0 : y.catchType ≠ 0) (hyl : Cond.classLink M.1.cls y.catchType N0 ∈ kbT) (hyc : kbCa X N0 false) (hx : covers x pc = true) (h0 : x.catchType ≠ 0) (hl : Cond.classLink M.1.cls x.catchType N ∈ kbT) (hc : kbCa X N true)
    (kk : kbY l M (y :: x :: t) rm ck cn F (x.handlerPc + w) (L.set k none) [] μ) : kbYX l M (y :: x :: t) rm ck cn F pc L st X μ := by
  refine y_handler hd hk hno ?_ kk
  intro E e s S f a cell hX hw hpl hown hpc hW hcell hv hcl
  obtain ⟨c1, c2, q1, q2, q3⟩ := kbCa_at hc hX
  cases Option.some.inj (q1.symm.trans hcl)
  obtain ⟨c5, hc5, hcl5⟩ := Cond.classLink_spec hown (hw _ hl) e.platform hpl
  cases Option.some.inj (q2.symm.trans hc5)
  obtain ⟨c6, c7, r1, r2, r3⟩ := kbCa_at hyc hX
  cases Option.some.inj (r1.symm.trans hcl)
  obtain ⟨c8, hc8, hcl8⟩ := Cond.classLink_spec hown (hw _ hyl) e.platform hpl
  cases Option.some.inj (r2.symm.trans hc8)
  exact kx_second (by rw [hpc]; exact hy) hy0 hcl8 r3 (by rw [hpc]; exact hx) h0 hcl5 hW hcell (fun k => by rw [hv]; exact fun z => nomatch z) (by obtain ⟨k9, h9, -⟩ := Vm.findClass_spec hcl; exact ⟨k9, h9⟩) q3
end CatchY
