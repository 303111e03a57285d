/-! ENDS, CALLS, THROWS and CATCHES of bodies that may throw -/
def kbRmX (d mc : Nat) : Room := { frames := d, cells := mc, slots := 6 * mc, locals := 48 * d }
abbrev kbXt : Type := String → kbM → Prop
def kbXC (E : kbE) (QX : kbXt) (A : Nat → Prop) : String → State → State → Prop := fun X st t => ∃ μ' : kbM, QX X μ' ∧ va_P E.2.1 vwCl (kbWs E μ') t.heap ∧ va_F A st t
def kbFx (mc : Nat) (Q : kbQt) (QX : kbXt) : kbFt := fun E s args below => vx_MQ below (kbQ E Q (kbAE E s.heap.size)) (kbXC E QX (kbAE E s.heap.size)) args s mc (6 * mc) (kbAE E s.heap.size)
/-- the end of a body that catches all -/
def kbFm (mc : Nat) (Q : kbQt) : kbFt := fun E s args below => MQ below (kbQ E Q (kbAE E s.heap.size)) args s mc (6 * mc) (kbAE E s.heap.size)
/-- a contract of a method that may throw -/
def kbSX (l : Launch) (M : kbMt) (d mc : Nat) (av : List Value) (μ : kbM) (Q : kbQt) (QX : kbXt) : Prop :=
  ∀ (E : kbE) (sz : Nat), vx_Met l M.1 (kbWd M) (kbRmX d mc) (va_Pc (av.map (kbV E)) (fun U => U.heap.size = sz ∧ kbWD E μ U ∧ kbXw E U)) (kbQ E Q (kbAE E sz)) (kbXC E QX (kbAE E sz)) mc (6 * mc) (kbAE E sz)
/-- .. of one with a table of its own that catches all -/
def kbSW (l : Launch) (M : kbMt) (hh : List (Nat × Nat × Nat × Nat)) (d mc : Nat) (av : List Value) (μ : kbM) (Q : kbQt) : Prop :=
  ∀ (E : kbE) (sz : Nat), Met l M.1 (Cond.codeWith M.1 M.2.1 M.2.2.1 M.2.2.2 hh :: kbT) (kbRmX d mc) (va_Pc (av.map (kbV E)) (fun U => U.heap.size = sz ∧ kbWD E μ U ∧ kbXw E U)) (kbQ E Q (kbAE E sz)) mc (6 * mc) (kbAE E sz)
theorem kb_locals {E : kbE} {av : List Value} {k n : Nat} (hk : (kbEn av).length + k = n) : ∃ ls : Array Slot, (lg_sl (av.map (kbV E)) ++ List.replicate (n - (lg_sl (av.map (kbV E))).length) Slot.unset).toArray = ls ∧ kbL E n (kbEn av ++ List.replicate k none) ls := by
  have hl := lv_entry (av.map (kbV E)) (n := n) (by rw [kbEn_len]; omega)
  refine ⟨_, rfl, by simp; omega, hl.1, hl.2.1, fun i v hi => ?_⟩
  by_cases hlt : i < (kbEn av).length
  · rw [List.getElem?_append_left hlt] at hi
    have := kbEn_at E av 0 i v hi
    rw [Nat.zero_add] at this
    exact hl.2.2 _ this
  · rw [List.getElem?_append_right (by omega), List.getElem?_replicate] at hi
    by_cases h2 : i - (kbEn av).length < k
    · simp [h2] at hi
    · simp [h2] at hi
theorem kb_enterX {l : Launch} {M : kbMt} {d mc : Nat} {av : List Value} {μ : kbM} {Q : kbQt} {QX : kbXt} (k : Nat) (hp : plainName M.1.cls = true) (hk : (kbEn av).length + k = M.2.2.1)
    (h : kbY l M [] (kbRmX d mc) 0 0 (kbFx mc Q QX) 0 (kbEn av ++ List.replicate k none) [] μ) : kbSX l M d mc av μ Q QX := by
  intro E sz
  refine vx_ofW (cc := M.2.1) (maxL := M.2.2.1) (ret := M.2.2.2) hp rfl ?_
  intro p e s m args below meth c s₁ B hml ht hv
  obtain ⟨rfl, hsz, ⟨hP, hK, hJ, hT, hSt⟩, hXw⟩ := hv
  subst hsz
  obtain ⟨ls, hls, hL⟩ := kb_locals (E := E) hk
  rw [lg_entry_eq, hls]
  have htab : c.exceptionTable.toList = [] := by
    cases hc : c.exceptionTable.toList with
    | nil => rfl
    | cons a b => exact (ht a (by rw [hc]; exact List.mem_cons_self)).elim
  exact h E p e s m _ below meth c ⟨B.exec, B.bytes, hml, B.returns, B.notSynchronized, findClass_of_methodNamed B.named, fun w hw => atoms_spec (ws := kbWd M) B.pre w (List.mem_cons_of_mem _ hw), hK, hJ, hT, hSt⟩ ⟨htab, hXw⟩ s.heap [] _ hP va_S.rf hL
theorem kb_enterW {l : Launch} {M : kbMt} {hh : List (Nat × Nat × Nat × Nat)} {d mc : Nat} {av : List Value} {μ : kbM} {Q : kbQt} (k : Nat) (hp : plainName M.1.cls = true) (hk : (kbEn av).length + k = M.2.2.1)
    (h : kbY l M (tableOf hh) (kbRmX d mc) 0 0 (kbFm mc Q) 0 (kbEn av ++ List.replicate k none) [] μ) : kbSW l M hh d mc av μ Q := by
  intro E sz
  refine va_MetW (cc := M.2.1) (maxL := M.2.2.1) (ret := M.2.2.2) (hh := hh) hp rfl ?_
  intro p e s m args below meth c s₁ B hml hv
  obtain ⟨rfl, hsz, ⟨hP, hK, hJ, hT, hSt⟩, hXw⟩ := hv
  subst hsz
  obtain ⟨ls, hls, hL⟩ := kb_locals (E := E) hk
  rw [lg_entry_eq, hls]
  have hts := atoms_spec (ws := Cond.codeWith M.1 M.2.1 M.2.2.1 M.2.2.2 hh :: kbT) B.pre
  have htab : c.exceptionTable.toList = tableOf hh := vx_table (x := M.1) B (hts _ List.mem_cons_self)
  exact h E p e s m _ below meth c ⟨B.exec, B.bytes, hml, B.returns, B.notSynchronized, findClass_of_methodNamed B.named, fun w hw => hts w (List.mem_cons_of_mem _ hw), hK, hJ, hT, hSt⟩ ⟨htab, hXw⟩ s.heap [] _ hP va_S.rf hL
section Ends
variable {l : Launch} {M : kbMt} {tb : List ExceptionTableEntry} {rm : Room} {ck cn mc : Nat} {F : kbFt} {Q : kbQt} {QX : kbXt} {pc : Nat} {L : List (Option Value)} {st : List Value} {μ : kbM}
theorem y_iret {v : Int32} (hr : M.2.2.2 = some .int) (h1 : ck ≤ mc) (h2 : cn ≤ 6 * mc) (hd : decode M.2.1 pc = .ok (.ireturn, 1)) (hq : Q (some (.int v)) μ) : kbY l M tb rm ck cn (kbFx mc Q QX) pc L [.int v] μ := by
  intro E p e s m args below meth c C D H locs ls hP hS hL
  exact W.widen h1 h2 (vx_ret (W.iret C.1 C.2.1 (C.2.2.2.1.trans hr) (fun t ht _ => kbQ_of (r := some (.int v)) hP hS hq ht) hS.2.2 hd C.2.2.2.2.1))
theorem y_zret {v : Int32} {ty : FieldType} (hr : M.2.2.2 = some ty) (hn : narrow ty (.int v) = .int v) (h1 : ck ≤ mc) (h2 : cn ≤ 6 * mc) (hd : decode M.2.1 pc = .ok (.ireturn, 1)) (hq : Q (some (.int v)) μ) : kbY l M tb rm ck cn (kbFx mc Q QX) pc L [.int v] μ := by
  intro E p e s m args below meth c C D H locs ls hP hS hL
  exact W.widen h1 h2 (vx_ret (W.zret C.1 C.2.1 (C.2.2.2.1.trans hr) hn (fun t ht _ => kbQ_of (r := some (.int v)) hP hS hq ht) hS.2.2 hd C.2.2.2.2.1))
theorem y_lret {v : Int64} (hr : M.2.2.2 = some .long) (h1 : ck ≤ mc) (h2 : cn ≤ 6 * mc) (hd : decode M.2.1 pc = .ok (.lreturn, 1)) (hq : Q (some (.long v)) μ) : kbY l M tb rm ck cn (kbFx mc Q QX) pc L [.long v] μ := by
  intro E p e s m args below meth c C D H locs ls hP hS hL
  exact W.widen h1 h2 (vx_ret (W.lret C.1 C.2.1 (C.2.2.2.1.trans hr) (fun t ht _ => kbQ_of (r := some (.long v)) hP hS hq ht) hS.2.2 hd C.2.2.2.2.1))
theorem y_vret (hr : M.2.2.2 = none) (h1 : ck ≤ mc) (h2 : cn ≤ 6 * mc) (hd : decode M.2.1 pc = .ok (.return_, 1)) (hq : Q none μ) : kbY l M tb rm ck cn (kbFx mc Q QX) pc L [] μ := by
  intro E p e s m args below meth c C D H locs ls hP hS hL
  exact W.widen h1 h2 (vx_ret (W.vret C.1 C.2.1 (C.2.2.2.1.trans hr) (fun t ht _ => kbQ_of (r := none) hP hS hq ht) hS.2.2 hd C.2.2.2.2.1))
theorem w_iret {v : Int32} (hr : M.2.2.2 = some .int) (h1 : ck ≤ mc) (h2 : cn ≤ 6 * mc) (hd : decode M.2.1 pc = .ok (.ireturn, 1)) (hq : Q (some (.int v)) μ) : kbY l M tb rm ck cn (kbFm mc Q) pc L [.int v] μ := by
  intro E p e s m args below meth c C D H locs ls hP hS hL
  exact W.widen h1 h2 (W.iret C.1 C.2.1 (C.2.2.2.1.trans hr) (fun t ht _ => kbQ_of (r := some (.int v)) hP hS hq ht) hS.2.2 hd C.2.2.2.2.1)
/-! calls of methods that don't throw -/
theorem kb_calledY {E : kbE} {p : Program} {e : Env} {R : Room} {s : State} {m : MethodId} {args : Array Value} {below : List Frame} {meth : Method} {c : Code} {H : Heap} {locs : List Loc} {ls : Array Slot} {st0 rest : List Value} {Qc : kbQt} {a : Array Value} {Q9 : State → Prop} {mk nk : Nat}
    (hr : va_Run p l e R s m args below meth c H locs ck cn mk nk (F0 m pc ls st0) (rest.map (kbV E)) (kbQ E Qc (kbAE E H.size) a) (kbAE E H.size)) (hS : va_S (kbAE E s.heap.size) s.heap H locs)
    (kk : ∀ (r : Option Value) (μ' : kbM) (H1 : Heap) (locs1 : List Loc), Qc r μ' → va_P E.2.1 vwCl (kbWs E μ') H1 → va_S (kbAE E s.heap.size) s.heap H1 locs1 → W p l e R s m args below meth c H1 locs1 (ck + mk) (cn + nk) Q9 (F0 m (pc + 3) ls ((r.toList ++ rest).map (kbV E)))) : W p l e R s m args below meth c H locs ck cn Q9 (F0 m pc ls st0) := by
  intro T hT X
  obtain ⟨v, st₀, t, T', Lc, h0, X', hL, e1, e2, ⟨r, μ', hv, hq, hP, hF⟩, stp⟩ := hr T hT X
  have hv' : v = r.map (kbV E) := by cases hv; rfl
  subst hv'
  have hsub : ∀ q, kbAE E H.size q → kbAE E s.heap.size q := fun q hq => by
    rcases hq with hq | hq
    · exact Or.inl hq
    · exact Or.inr (Nat.le_trans hS.1 hq)
  obtain ⟨k1, k2, k3⟩ := vx_keep h0 e1 hS (fun q _ h => hsub q h) hsub hL hF
  obtain ⟨t2, a1, b1⟩ := kk r μ' T'.heap (locs ++ Lc) hq (by rw [e1]; exact hP) k3 T' rfl X'
  refine ⟨t2, stp t2 ?_, b1⟩
  have e3 : (r.toList ++ rest).map (kbV E) = (r.map (kbV E)).toList ++ rest.map (kbV E) := by cases r <;> simp
  rw [e3] at a1
  exact a1
def kbRo (My : kbMt) (d' : Nat) (rm : Room) (ck cn mk : Nat) : Prop := d' + 1 ≤ rm.frames ∧ 8 + (My.2.2.1 + 11) + 48 * d' ≤ rm.locals ∧ ck + mk ≤ rm.cells ∧ cn + 6 * mk ≤ rm.slots
theorem y_invV {idx i d' n ci : Nat} {My : kbMt} {As st' : List Value} {Qc : kbQt} {fds : List (Option Nat)} {T : u_T} {N : Nat} (hc : kbCV M.1.cls idx My n) (hs : kbSh[i]? = some (.inr (ci, fds))) (hcl : vwCl[ci]? = some (My.1.cls, T, N)) (hM : kbS l My d' (.ref i :: As) μ Qc) (hst : st' = As.reverse ++ .ref i :: st) (hn : As.length = n) (hr : (st.map fun v => v.category).sum ≤ 8) (hro : kbRo My d' rm ck cn 0) (hd : decode M.2.1 pc = .ok (.invokevirtual idx, 3))
    (kk : ∀ (r : Option Value) (μ' : kbM), Qc r μ' → kbY l M tb rm ck cn F (pc + 3) L (r.toList ++ st) μ') : kbY l M tb rm ck cn F pc L st' μ := by
  subst hst
  intro E p e s m args below meth c C D H locs ls hP hS hL
  obtain ⟨hx, hb, hml, hrt, hlk, hown, hts, hK, hJ, hTb, hSt⟩ := (fun z => z) C
  obtain ⟨h1, h2, h3, h4, h5⟩ := hc
  have hG : GoodIn kbT (wsV M.1.cls idx My.1.cls My.1 (kbWd My)) := by
    intro w hw
    have hk : w ∈ kbT := by
      rcases List.mem_append.mp hw with z | z
      · exact h1 w (List.mem_append_left [Cond.code My.1 My.2.1 My.2.2.1 My.2.2.2] z)
      · rcases List.mem_cons.mp z with z | z
        · rw [z]; exact h1 _ (List.mem_of_getElem? (i := 4) rfl)
        · exact z
    exact ⟨hk, good_of_word (kbT_good w hk)⟩
  rw [show ((As.reverse ++ Value.ref i :: st).map (kbV E)) = (As.map (kbV E)).reverse ++ .ref (E.1 i) :: st.map (kbV E) by simp [kbV]]
  refine kb_calledY (mk := 0) (nk := 0) (rest := st) (va_runV (As := As.map (kbV E)) (rest := st.map (kbV E)) ⟨hx, hb, hml, hown, hts⟩ (hM E H.size) (cwV n hts hG rfl rfl rfl ⟨rfl, h2, h3, h4⟩ ⟨hro.1, hro.2.1⟩)
    ⟨fun a U g mk q => ⟨q.1, q.2.1, q.2.2.calling⟩, va_recv hK hP hcl (kbWs_get hs), fun U hU hW => ⟨rfl, by rw [hU], kbWD_at hP hS hK hJ hTb hSt hU hW⟩⟩
    rfl (by rw [List.length_map]; exact hn) hL.2.1 rfl (lv_room (by rw [kbV_sum]; exact hr)) hd ⟨hro.2.2.1, hro.2.2.2⟩) hS (fun r μ' H1 locs1 hq hP1 hS1 => ?_)
  exact kk r μ' hq E p e s m args below meth c C D H1 locs1 ls hP1 hS1 hL
theorem y_inv {idx d' n : Nat} {My : kbMt} {As st' : List Value} {Qc : kbQt} (hc : kbCS M.1.cls idx My n) (hM : kbS l My d' As μ Qc) (hst : st' = As.reverse ++ st) (hn : As.length = n) (hr : (st.map fun v => v.category).sum ≤ 8) (hro : kbRo My d' rm ck cn 0) (hd : decode M.2.1 pc = .ok (.invokestatic idx, 3))
    (kk : ∀ (r : Option Value) (μ' : kbM), Qc r μ' → kbY l M tb rm ck cn F (pc + 3) L (r.toList ++ st) μ') : kbY l M tb rm ck cn F pc L st' μ := by
  subst hst
  intro E p e s m args below meth c C D H locs ls hP hS hL
  obtain ⟨hx, hb, hml, hrt, hlk, hown, hts, hK, hJ, hTb, hSt⟩ := (fun z => z) C
  obtain ⟨h1, h2, h3, h4, h5⟩ := hc
  have hG : GoodIn kbT (va_wsS M.1.cls idx My.1 (kbWd My)) := by
    intro w hw
    have hk : w ∈ kbT := by
      rcases List.mem_append.mp hw with z | z
      · exact h1 w (List.mem_append_left [Cond.code My.1 My.2.1 My.2.2.1 My.2.2.2] z)
      · rcases List.mem_cons.mp z with z | z
        · rw [z]; exact h1 _ (List.mem_of_getElem? (i := 3) rfl)
        · exact z
    exact ⟨hk, good_of_word (kbT_good w hk)⟩
  rw [show ((As.reverse ++ st).map (kbV E)) = (As.map (kbV E)).reverse ++ st.map (kbV E) by simp]
  refine kb_calledY (mk := 0) (nk := 0) (rest := st) (va_runS (As := As.map (kbV E)) (rest := st.map (kbV E)) ⟨hx, hb, hml, hown, hts⟩ (hM E H.size) (va_cwS n hts hG rfl rfl rfl ⟨h2, h3, h4⟩ ⟨hro.1, hro.2.1⟩)
    ⟨fun a U g mk q => ⟨q.1, q.2.1, q.2.2.calling⟩, fun U hU hW => ⟨rfl, by rw [hU], kbWD_at hP hS hK hJ hTb hSt hU hW⟩⟩
    rfl (by rw [List.length_map]; exact hn) hL.2.1 rfl (lv_room (by rw [kbV_sum]; exact hr)) hd ⟨hro.2.2.1, hro.2.2.2⟩) hS (fun r μ' H1 locs1 hq hP1 hS1 => ?_)
  exact kk r μ' hq E p e s m args below meth c C D H1 locs1 ls hP1 hS1 hL
/-! calls of methods that may throw -/
/-- the method's own frame at pc with an exception of class X thrown over it -/
def kbYX (l : Launch) (M : kbMt) (tb : List ExceptionTableEntry) (rm : Room) (ck cn : Nat) (F : kbFt) (pc : Nat) (L : List (Option Value)) (st : List Value) (X : String) (μ : kbM) : Prop :=
  ∀ (E : kbE) (p : Program) (e : Env) (s : State) (m : MethodId) (args : Array Value) (below : List Frame) (meth : Method) (c : Code), kbCy l M E p s m args meth c → (c.exceptionTable.toList = tb ∧ kbXw E s) →
  ∀ (H : Heap) (locs : List Loc) (ls : Array Slot), va_P E.2.1 vwCl (kbWs E μ) H → va_S (kbAE E s.heap.size) s.heap H locs → kbL E M.2.2.1 L ls →
  ∀ (q : Addr) (ce : Cell), H[q]? = some ce → ce.vm = .none → s.vm.findClass X = some ce.cls →
    vx_W p l e rm s m args below meth c H locs ck cn (F E s args below) (F0 m pc ls (st.map (kbV E))) q
theorem kb_calledX {E : kbE} {p : Program} {e : Env} {R : Room} {s : State} {m : MethodId} {args : Array Value} {below : List Frame} {meth : Method} {c : Code} {H : Heap} {locs : List Loc} {ls : Array Slot} {st0 rest : List Value} {Qc : kbQt} {Xc : kbXt} {a : Array Value} {Q9 : State → Prop} {mk nk : Nat}
    (hr : vx_Run p l e R s m args below meth c H locs ck cn mk nk (F0 m pc ls st0) (rest.map (kbV E)) (kbQ E Qc (kbAE E H.size) a) (kbXC E Xc (kbAE E H.size)) (kbAE E H.size)) (hS : va_S (kbAE E s.heap.size) s.heap H locs)
    (kk : ∀ (r : Option Value) (μ' : kbM) (H1 : Heap) (locs1 : List Loc), Qc r μ' → va_P E.2.1 vwCl (kbWs E μ') H1 → va_S (kbAE E s.heap.size) s.heap H1 locs1 → W p l e R s m args below meth c H1 locs1 (ck + mk) (cn + nk) Q9 (F0 m (pc + 3) ls ((r.toList ++ rest).map (kbV E))))
    (kx : ∀ (X : String) (μ' : kbM) (H1 : Heap) (locs1 : List Loc) (q : Addr) (ce : Cell), Xc X μ' → va_P E.2.1 vwCl (kbWs E μ') H1 → va_S (kbAE E s.heap.size) s.heap H1 locs1 → H1[q]? = some ce → ce.vm = .none → s.vm.findClass X = some ce.cls → vx_W p l e R s m args below meth c H1 locs1 (ck + mk) (cn + nk) Q9 (F0 m pc ls (rest.map (kbV E))) q) : W p l e R s m args below meth c H locs ck cn Q9 (F0 m pc ls st0) := by
  have hsub : ∀ q, kbAE E H.size q → kbAE E s.heap.size q := fun q hq => by
    rcases hq with hq | hq
    · exact Or.inl hq
    · exact Or.inr (Nat.le_trans hS.1 hq)
  intro T hT X
  rcases hr T hT X with ⟨v, st₀, t, T', Lc, h0, X', hL, e1, e2, ⟨r, μ', hv, hq, hP, hF⟩, stp⟩ | ⟨q, st₀, t, T', Lc, Xn, ce, h0, X', hL, e1, e2, ⟨μ', hq, hP, hF⟩, hce, hcv, hcl, stp⟩
  · have hv' : v = r.map (kbV E) := by cases hv; rfl
    subst hv'
    obtain ⟨k1, k2, k3⟩ := vx_keep h0 e1 hS (fun q _ h => hsub q h) hsub hL hF
    obtain ⟨t2, a1, b1⟩ := kk r μ' T'.heap (locs ++ Lc) hq (by rw [e1]; exact hP) k3 T' rfl X'
    refine ⟨t2, stp t2 ?_, b1⟩
    have e3 : (r.toList ++ rest).map (kbV E) = (r.map (kbV E)).toList ++ rest.map (kbV E) := by cases r <;> simp
    rw [e3] at a1
    exact a1
  · obtain ⟨k1, k2, k3⟩ := vx_keep h0 e1 hS (fun q _ h => hsub q h) hsub hL hF
    obtain ⟨t2, a1, b1⟩ := kx Xn μ' T'.heap (locs ++ Lc) q ce hq (by rw [e1]; exact hP) k3 (by rw [e1]; exact hce) hcv hcl T' rfl X'
    exact ⟨t2, stp.trans a1, b1⟩
theorem y_invVX {idx i d' n ci mk : Nat} {My : kbMt} {As st' : List Value} {Qc : kbQt} {Xc : kbXt} {fds : List (Option Nat)} {T : u_T} {N : Nat} (hc : kbCV M.1.cls idx My n) (hs : kbSh[i]? = some (.inr (ci, fds))) (hcl : vwCl[ci]? = some (My.1.cls, T, N)) (hM : kbSX l My d' mk (.ref i :: As) μ Qc Xc) (hst : st' = As.reverse ++ .ref i :: st) (hn : As.length = n) (hr : (st.map fun v => v.category).sum ≤ 8) (hro : kbRo My d' rm ck cn mk) (hd : decode M.2.1 pc = .ok (.invokevirtual idx, 3))
    (kk : ∀ (r : Option Value) (μ' : kbM), Qc r μ' → kbY l M tb rm (ck + mk) (cn + 6 * mk) F (pc + 3) L (r.toList ++ st) μ') (kx : ∀ (X : String) (μ' : kbM), Xc X μ' → kbYX l M tb rm (ck + mk) (cn + 6 * mk) F pc L st X μ') : kbY l M tb rm ck cn F pc L st' μ := by
  subst hst
  intro E p e s m args below meth c C D H locs ls hP hS hL
  obtain ⟨hx, hb, hml, hrt, hlk, hown, hts, hK, hJ, hTb, hSt⟩ := (fun z => z) C
  obtain ⟨h1, h2, h3, h4, h5⟩ := hc
  have hG : GoodIn kbT (wsV M.1.cls idx My.1.cls My.1 (kbWd My)) := by
    intro w hw
    have hk : w ∈ kbT := by
      rcases List.mem_append.mp hw with z | z
      · exact h1 w (List.mem_append_left [Cond.code My.1 My.2.1 My.2.2.1 My.2.2.2] z)
      · rcases List.mem_cons.mp z with z | z
        · rw [z]; exact h1 _ (List.mem_of_getElem? (i := 4) rfl)
        · exact z
    exact ⟨hk, good_of_word (kbT_good w hk)⟩
  rw [show ((As.reverse ++ Value.ref i :: st).map (kbV E)) = (As.map (kbV E)).reverse ++ .ref (E.1 i) :: st.map (kbV E) by simp [kbV]]
  refine kb_calledX (mk := mk) (nk := 6 * mk) (rest := st) (vx_runV (As := As.map (kbV E)) (rest := st.map (kbV E)) ⟨hx, hb, hml, hown, hts⟩ (hM E H.size) (cwV n hts hG rfl rfl rfl ⟨rfl, h2, h3, h4⟩ ⟨hro.1, hro.2.1⟩)
    ⟨fun a U g mk q => ⟨q.1, q.2.1, q.2.2.1.calling, q.2.2.2.calling⟩, va_recv hK hP hcl (kbWs_get hs), fun U hU hW => ⟨rfl, by rw [hU], kbWD_at hP hS hK hJ hTb hSt hU hW, D.2.at hS hU hW⟩⟩
    rfl (by rw [List.length_map]; exact hn) hL.2.1 rfl (lv_room (by rw [kbV_sum]; exact hr)) hd ⟨hro.2.2.1, hro.2.2.2⟩) hS (fun r μ' H1 locs1 hq hP1 hS1 => ?_) (fun X μ' H1 locs1 q ce hq hP1 hS1 g1 g2 g3 => ?_)
  · exact kk r μ' hq E p e s m args below meth c C D H1 locs1 ls hP1 hS1 hL
  · exact kx X μ' hq E p e s m args below meth c C D H1 locs1 ls hP1 hS1 hL q ce g1 g2 g3
theorem y_invX {idx d' n mk : Nat} {My : kbMt} {As st' : List Value} {Qc : kbQt} {Xc : kbXt} (hc : kbCS M.1.cls idx My n) (hM : kbSX l My d' mk As μ Qc Xc) (hst : st' = As.reverse ++ st) (hn : As.length = n) (hr : (st.map fun v => v.category).sum ≤ 8) (hro : kbRo My d' rm ck cn mk) (hd : decode M.2.1 pc = .ok (.invokestatic idx, 3))
    (kk : ∀ (r : Option Value) (μ' : kbM), Qc r μ' → kbY l M tb rm (ck + mk) (cn + 6 * mk) F (pc + 3) L (r.toList ++ st) μ') (kx : ∀ (X : String) (μ' : kbM), Xc X μ' → kbYX l M tb rm (ck + mk) (cn + 6 * mk) F pc L st X μ') : kbY l M tb rm ck cn F pc L st' μ := by
  subst hst
  intro E p e s m args below meth c C D H locs ls hP hS hL
  obtain ⟨hx, hb, hml, hrt, hlk, hown, hts, hK, hJ, hTb, hSt⟩ := (fun z => z) C
  obtain ⟨h1, h2, h3, h4, h5⟩ := hc
  have hG : GoodIn kbT (va_wsS M.1.cls idx My.1 (kbWd My)) := by
    intro w hw
    have hk : w ∈ kbT := by
      rcases List.mem_append.mp hw with z | z
      · exact h1 w (List.mem_append_left [Cond.code My.1 My.2.1 My.2.2.1 My.2.2.2] z)
      · rcases List.mem_cons.mp z with z | z
        · rw [z]; exact h1 _ (List.mem_of_getElem? (i := 3) rfl)
        · exact z
    exact ⟨hk, good_of_word (kbT_good w hk)⟩
  rw [show ((As.reverse ++ st).map (kbV E)) = (As.map (kbV E)).reverse ++ st.map (kbV E) by simp]
  refine kb_calledX (mk := mk) (nk := 6 * mk) (rest := st) (vx_runS (As := As.map (kbV E)) (rest := st.map (kbV E)) ⟨hx, hb, hml, hown, hts⟩ (hM E H.size) (va_cwS n hts hG rfl rfl rfl ⟨h2, h3, h4⟩ ⟨hro.1, hro.2.1⟩)
    ⟨fun a U g mk q => ⟨q.1, q.2.1, q.2.2.1.calling, q.2.2.2.calling⟩, fun U hU hW => ⟨rfl, by rw [hU], kbWD_at hP hS hK hJ hTb hSt hU hW, D.2.at hS hU hW⟩⟩
    rfl (by rw [List.length_map]; exact hn) hL.2.1 rfl (lv_room (by rw [kbV_sum]; exact hr)) hd ⟨hro.2.2.1, hro.2.2.2⟩) hS (fun r μ' H1 locs1 hq hP1 hS1 => ?_) (fun X μ' H1 locs1 q ce hq hP1 hS1 g1 g2 g3 => ?_)
  · exact kk r μ' hq E p e s m args below meth c C D H1 locs1 ls hP1 hS1 hL
  · exact kx X μ' hq E p e s m args below meth c C D H1 locs1 ls hP1 hS1 hL q ce g1 g2 g3
/-- it goes on to the caller -/
theorem y_out {X : String} (h1 : ck ≤ mc) (h2 : cn ≤ 6 * mc) (hq : QX X μ) : kbYX l M [] rm ck cn (kbFx mc Q QX) pc L st X μ := by
  intro E p e s m args below meth c C D H locs ls hP hS hL q ce g1 g2 g3
  exact vx_out (fun x hx => by rw [D.1] at hx; cases hx) C.2.2.2.2.1 g1 g2 g3 (fun t ht _ => ⟨μ, hq, by rw [ht]; exact hP, hS.F ht⟩) hS.2.2 h1 h2
end Ends
