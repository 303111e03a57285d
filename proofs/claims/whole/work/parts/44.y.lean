/-! THE LOGIC for bodies that may make cells, throw or catch: any room rm, ck cells and cn slots made so far, any end F -/
abbrev kbFt : Type := kbE → State → Array Value → List Frame → State → Prop
def kbCy (l : Launch) (M : kbMt) (E : kbE) (p : Program) (s : State) (m : MethodId) (args : Array Value) (meth : Method) (c : Code) : Prop :=
  p.tables.exec = Jvm.exec ∧ c.code = M.2.1 ∧ c.maxLocals = M.2.2.1 ∧ meth.sig.returnType = M.2.2.2 ∧ meth.locks = false ∧ s.vm.findClass M.1.cls = some m.cls ∧ (∀ w ∈ kbT, w.before args s = true) ∧
  va_K E.2.1 vwCl (kbTys E) s ∧ kbJ E ∧ kbTb E s ∧ kbSt E (kbAE E s.heap.size) s s.heap
def kbY (l : Launch) (M : kbMt) (tb : List ExceptionTableEntry) (rm : Room) (ck cn : Nat) (F : kbFt) (pc : Nat) (L : List (Option Value)) (st : List Value) (μ : kbM) : Prop :=
  ∀ (E : kbE) (p : Program) (e : Env) (s : State) (m : MethodId) (args : Array Value) (below : List Frame) (meth : Method) (c : Code), kbCy l M E p s m args meth c → (c.exceptionTable.toList = tb ∧ kbXw E s) →
  ∀ (H : Heap) (locs : List Loc) (ls : Array Slot), va_P E.2.1 vwCl (kbWs E μ) H → va_S (kbAE E s.heap.size) s.heap H locs → kbL E M.2.2.1 L ls →
    W p l e rm s m args below meth c H locs ck cn (F E s args below) (F0 m pc ls (st.map (kbV E)))
section Y
variable {l : Launch} {M : kbMt} {tb : List ExceptionTableEntry} {rm : Room} {ck cn : Nat} {F : kbFt} {pc : Nat} {L : List (Option Value)} {st : List Value} {μ : kbM}
theorem y_iconst {n : Int} (v : Int32) (hd : decode M.2.1 pc = .ok (.iconst n, 1)) (hv : Int32.ofInt n = v) (k : kbY l M tb rm ck cn F (pc + 1) L (.int v :: st) μ) : kbY l M tb rm ck cn F pc L st μ := by
  intro E p e s m args below meth c C D H locs ls hP hS hL
  exact lv_iconst C.1 C.2.1 hd hv (k E p e s m args below meth c C D H locs ls hP hS hL)
theorem y_bipush {n : Int} (v : Int32) (hd : decode M.2.1 pc = .ok (.bipush n, 2)) (hv : (Int8.ofInt n).toInt32 = v) (k : kbY l M tb rm ck cn F (pc + 2) L (.int v :: st) μ) : kbY l M tb rm ck cn F pc L st μ := by
  intro E p e s m args below meth c C D H locs ls hP hS hL
  exact lv_bipush C.1 C.2.1 hd hv (k E p e s m args below meth c C D H locs ls hP hS hL)
theorem y_sipush {n : Int} (v : Int32) (hd : decode M.2.1 pc = .ok (.sipush n, 3)) (hv : (Int16.ofInt n).toInt32 = v) (k : kbY l M tb rm ck cn F (pc + 3) L (.int v :: st) μ) : kbY l M tb rm ck cn F pc L st μ := by
  intro E p e s m args below meth c C D H locs ls hP hS hL
  exact lv_sipush C.1 C.2.1 hd hv (k E p e s m args below meth c C D H locs ls hP hS hL)
theorem y_lconst {n : Fin 2} (v : Int64) (hd : decode M.2.1 pc = .ok (.lconst n, 1)) (hv : Int64.ofNat (n : Nat) = v) (k : kbY l M tb rm ck cn F (pc + 1) L (.long v :: st) μ) : kbY l M tb rm ck cn F pc L st μ := by
  intro E p e s m args below meth c C D H locs ls hP hS hL
  exact lv_lconst C.1 C.2.1 hd hv (k E p e s m args below meth c C D H locs ls hP hS hL)
theorem y_ldc {i : Nat} (v : Int32) (hw : Cond.constant M.1.cls i v ∈ kbT) (hd : decode M.2.1 pc = .ok (.ldc i, 2)) (k : kbY l M tb rm ck cn F (pc + 2) L (.int v :: st) μ) : kbY l M tb rm ck cn F pc L st μ := by
  intro E p e s m args below meth c C D H locs ls hP hS hL
  exact lv_ldc C.1 C.2.1 C.2.2.2.2.2.1 (C.2.2.2.2.2.2.1 _ hw) hd (k E p e s m args below meth c C D H locs ls hP hS hL)
theorem y_ldcw {i : Nat} (v : Int32) (hw : Cond.constant M.1.cls i v ∈ kbT) (hd : decode M.2.1 pc = .ok (.ldc_w i, 3)) (k : kbY l M tb rm ck cn F (pc + 3) L (.int v :: st) μ) : kbY l M tb rm ck cn F pc L st μ := by
  intro E p e s m args below meth c C D H locs ls hP hS hL
  exact lv_ldcw C.1 C.2.1 C.2.2.2.2.2.1 (C.2.2.2.2.2.2.1 _ hw) hd (k E p e s m args below meth c C D H locs ls hP hS hL)
theorem y_ldc2 {i : Nat} (v : Int64) (hw : Cond.constantLong M.1.cls i v ∈ kbT) (hd : decode M.2.1 pc = .ok (.ldc2_w i, 3)) (k : kbY l M tb rm ck cn F (pc + 3) L (.long v :: st) μ) : kbY l M tb rm ck cn F pc L st μ := by
  intro E p e s m args below meth c C D H locs ls hP hS hL
  exact lv_ldc2 C.1 C.2.1 C.2.2.2.2.2.1 (C.2.2.2.2.2.2.1 _ hw) hd (k E p e s m args below meth c C D H locs ls hP hS hL)
theorem y_iload_n {j : Fin 4} {x : Int32} (hd : decode M.2.1 pc = .ok (.iload_n j, 1)) (hx : L[(j : Nat)]? = some (some (.int x))) (k : kbY l M tb rm ck cn F (pc + 1) L (.int x :: st) μ) : kbY l M tb rm ck cn F pc L st μ := by
  intro E p e s m args below meth c C D H locs ls hP hS hL
  exact lv_iload_n C.1 C.2.1 hd rfl (hL.2.2.2 _ _ hx) (k E p e s m args below meth c C D H locs ls hP hS hL)
theorem y_iload {j : Nat} {x : Int32} (hd : decode M.2.1 pc = .ok (.iload j, 2)) (hx : L[j]? = some (some (.int x))) (k : kbY l M tb rm ck cn F (pc + 2) L (.int x :: st) μ) : kbY l M tb rm ck cn F pc L st μ := by
  intro E p e s m args below meth c C D H locs ls hP hS hL
  exact lv_iload C.1 C.2.1 hd (hL.2.2.2 _ _ hx) (k E p e s m args below meth c C D H locs ls hP hS hL)
theorem y_lload_n {j : Fin 4} {x : Int64} (hd : decode M.2.1 pc = .ok (.lload_n j, 1)) (hx : L[(j : Nat)]? = some (some (.long x))) (k : kbY l M tb rm ck cn F (pc + 1) L (.long x :: st) μ) : kbY l M tb rm ck cn F pc L st μ := by
  intro E p e s m args below meth c C D H locs ls hP hS hL
  exact lv_lload_n C.1 C.2.1 hd rfl (hL.2.2.2 _ _ hx) (k E p e s m args below meth c C D H locs ls hP hS hL)
theorem y_lload {j : Nat} {x : Int64} (hd : decode M.2.1 pc = .ok (.lload j, 2)) (hx : L[j]? = some (some (.long x))) (k : kbY l M tb rm ck cn F (pc + 2) L (.long x :: st) μ) : kbY l M tb rm ck cn F pc L st μ := by
  intro E p e s m args below meth c C D H locs ls hP hS hL
  exact lv_lload C.1 C.2.1 hd (hL.2.2.2 _ _ hx) (k E p e s m args below meth c C D H locs ls hP hS hL)
theorem y_aload_n {j : Fin 4} {x : Nat} (hd : decode M.2.1 pc = .ok (.aload_n j, 1)) (hx : L[(j : Nat)]? = some (some (.ref x))) (k : kbY l M tb rm ck cn F (pc + 1) L (.ref x :: st) μ) : kbY l M tb rm ck cn F pc L st μ := by
  intro E p e s m args below meth c C D H locs ls hP hS hL
  exact lv_aload_n C.1 C.2.1 hd rfl (hL.2.2.2 _ _ hx) (k E p e s m args below meth c C D H locs ls hP hS hL)
theorem y_aload {j : Nat} {x : Nat} (hd : decode M.2.1 pc = .ok (.aload j, 2)) (hx : L[j]? = some (some (.ref x))) (k : kbY l M tb rm ck cn F (pc + 2) L (.ref x :: st) μ) : kbY l M tb rm ck cn F pc L st μ := by
  intro E p e s m args below meth c C D H locs ls hP hS hL
  exact lv_aload C.1 C.2.1 hd (hL.2.2.2 _ _ hx) (k E p e s m args below meth c C D H locs ls hP hS hL)
theorem y_istore_n {j : Fin 4} {x : Int32} (hd : decode M.2.1 pc = .ok (.istore_n j, 1)) (hn : (j : Nat) < M.2.2.1) (hno : kbNo L j = true) (k : kbY l M tb rm ck cn F (pc + 1) (L.set j (some (.int x))) st μ) : kbY l M tb rm ck cn F pc L (.int x :: st) μ := by
  intro E p e s m args below meth c C D H locs ls hP hS hL
  exact lv_istore_n C.1 C.2.1 hd rfl hL.has hn rfl fun ls' h' => k E p e s m args below meth c C D H locs ls' hP hS (kbL.store1 (v := .int x) hL.1 hn hno h')
theorem y_istore {j : Nat} {x : Int32} (hd : decode M.2.1 pc = .ok (.istore j, 2)) (hn : j < M.2.2.1) (hno : kbNo L j = true) (k : kbY l M tb rm ck cn F (pc + 2) (L.set j (some (.int x))) st μ) : kbY l M tb rm ck cn F pc L (.int x :: st) μ := by
  intro E p e s m args below meth c C D H locs ls hP hS hL
  exact lv_istore C.1 C.2.1 hd hL.has hn rfl fun ls' h' => k E p e s m args below meth c C D H locs ls' hP hS (kbL.store1 (v := .int x) hL.1 hn hno h')
theorem y_astore_n {j : Fin 4} {x : Nat} (hd : decode M.2.1 pc = .ok (.astore_n j, 1)) (hn : (j : Nat) < M.2.2.1) (hno : kbNo L j = true) (k : kbY l M tb rm ck cn F (pc + 1) (L.set j (some (.ref x))) st μ) : kbY l M tb rm ck cn F pc L (.ref x :: st) μ := by
  intro E p e s m args below meth c C D H locs ls hP hS hL
  exact lv_astore_n C.1 C.2.1 hd rfl hL.has hn rfl fun ls' h' => k E p e s m args below meth c C D H locs ls' hP hS (kbL.store1 (v := .ref x) hL.1 hn hno h')
theorem y_astore {j : Nat} {x : Nat} (hd : decode M.2.1 pc = .ok (.astore j, 2)) (hn : j < M.2.2.1) (hno : kbNo L j = true) (k : kbY l M tb rm ck cn F (pc + 2) (L.set j (some (.ref x))) st μ) : kbY l M tb rm ck cn F pc L (.ref x :: st) μ := by
  intro E p e s m args below meth c C D H locs ls hP hS hL
  exact lv_astore C.1 C.2.1 hd hL.has hn rfl fun ls' h' => k E p e s m args below meth c C D H locs ls' hP hS (kbL.store1 (v := .ref x) hL.1 hn hno h')
theorem y_lstore_n {j : Fin 4} {x : Int64} (hd : decode M.2.1 pc = .ok (.lstore_n j, 1)) (hn : (j : Nat) + 1 < M.2.2.1) (hno : kbNo L j = true) (k : kbY l M tb rm ck cn F (pc + 1) ((L.set j (some (.long x))).set (j + 1) none) st μ) : kbY l M tb rm ck cn F pc L (.long x :: st) μ := by
  intro E p e s m args below meth c C D H locs ls hP hS hL
  exact lv_lstore_n C.1 C.2.1 hd rfl hL.has hn rfl fun ls' h' => k E p e s m args below meth c C D H locs ls' hP hS (kbL.store2 (v := .long x) hL.1 hn hno h')
theorem y_lstore {j : Nat} {x : Int64} (hd : decode M.2.1 pc = .ok (.lstore j, 2)) (hn : j + 1 < M.2.2.1) (hno : kbNo L j = true) (k : kbY l M tb rm ck cn F (pc + 2) ((L.set j (some (.long x))).set (j + 1) none) st μ) : kbY l M tb rm ck cn F pc L (.long x :: st) μ := by
  intro E p e s m args below meth c C D H locs ls hP hS hL
  exact lv_lstore C.1 C.2.1 hd hL.has hn rfl fun ls' h' => k E p e s m args below meth c C D H locs ls' hP hS (kbL.store2 (v := .long x) hL.1 hn hno h')
theorem y_iinc {j : Nat} {n : Int} {x : Int32} (w : Int32) (hd : decode M.2.1 pc = .ok (.iinc j n, 3)) (hx : L[j]? = some (some (.int x))) (hw : Int32.ofInt n = w) (hn : j < M.2.2.1) (hno : kbNo L j = true) (k : kbY l M tb rm ck cn F (pc + 3) (L.set j (some (.int (x + w)))) st μ) : kbY l M tb rm ck cn F pc L st μ := by
  intro E p e s m args below meth c C D H locs ls hP hS hL
  obtain ⟨q, hq⟩ := List.getElem?_of_mem (kbAs_mem (E := E) hx)
  exact lv_iinc (v := x + w) C.1 C.2.1 hd hL.has hq (by rw [hw]) hn rfl fun ls' h' => k E p e s m args below meth c C D H locs ls' hP hS (kbL.store1 (v := .int (x + w)) hL.1 hn hno h')
theorem y_drop {L' : List (Option Value)} (hl : L'.length = L.length) (h : ∀ (i : Nat) (v : Value), L'[i]? = some (some v) → L[i]? = some (some v)) (k : kbY l M tb rm ck cn F pc L' st μ) : kbY l M tb rm ck cn F pc L st μ := by
  intro E p e s m args below meth c C D H locs ls hP hS hL
  exact k E p e s m args below meth c C D H locs ls hP hS ⟨hl.trans hL.1, hL.2.1, hL.2.2.1, fun i v hi => hL.2.2.2 i v (h i v hi)⟩
theorem y_iadd {x y : Int32} (hd : decode M.2.1 pc = .ok (.iadd, 1)) (k : kbY l M tb rm ck cn F (pc + 1) L (.int (x + y) :: st) μ) : kbY l M tb rm ck cn F pc L (.int y :: .int x :: st) μ := by
  intro E p e s m args below meth c C D H locs ls hP hS hL
  exact lv_iadd C.1 C.2.1 hd (k E p e s m args below meth c C D H locs ls hP hS hL)
theorem y_isub {x y : Int32} (hd : decode M.2.1 pc = .ok (.isub, 1)) (k : kbY l M tb rm ck cn F (pc + 1) L (.int (x - y) :: st) μ) : kbY l M tb rm ck cn F pc L (.int y :: .int x :: st) μ := by
  intro E p e s m args below meth c C D H locs ls hP hS hL
  exact lv_isub C.1 C.2.1 hd (k E p e s m args below meth c C D H locs ls hP hS hL)
theorem y_imul {x y : Int32} (hd : decode M.2.1 pc = .ok (.imul, 1)) (k : kbY l M tb rm ck cn F (pc + 1) L (.int (x * y) :: st) μ) : kbY l M tb rm ck cn F pc L (.int y :: .int x :: st) μ := by
  intro E p e s m args below meth c C D H locs ls hP hS hL
  exact lv_imul C.1 C.2.1 hd (k E p e s m args below meth c C D H locs ls hP hS hL)
theorem y_iand {x y : Int32} (hd : decode M.2.1 pc = .ok (.iand, 1)) (k : kbY l M tb rm ck cn F (pc + 1) L (.int (x &&& y) :: st) μ) : kbY l M tb rm ck cn F pc L (.int y :: .int x :: st) μ := by
  intro E p e s m args below meth c C D H locs ls hP hS hL
  exact lv_iand C.1 C.2.1 hd (k E p e s m args below meth c C D H locs ls hP hS hL)
theorem y_ior {x y : Int32} (hd : decode M.2.1 pc = .ok (.ior, 1)) (k : kbY l M tb rm ck cn F (pc + 1) L (.int (x ||| y) :: st) μ) : kbY l M tb rm ck cn F pc L (.int y :: .int x :: st) μ := by
  intro E p e s m args below meth c C D H locs ls hP hS hL
  exact lv_ior C.1 C.2.1 hd (k E p e s m args below meth c C D H locs ls hP hS hL)
theorem y_ixor {x y : Int32} (hd : decode M.2.1 pc = .ok (.ixor, 1)) (k : kbY l M tb rm ck cn F (pc + 1) L (.int (x ^^^ y) :: st) μ) : kbY l M tb rm ck cn F pc L (.int y :: .int x :: st) μ := by
  intro E p e s m args below meth c C D H locs ls hP hS hL
  exact lv_ixor C.1 C.2.1 hd (k E p e s m args below meth c C D H locs ls hP hS hL)
theorem y_idiv {x y : Int32} (hd : decode M.2.1 pc = .ok (.idiv, 1)) (hne : ¬ y = 0) (k : kbY l M tb rm ck cn F (pc + 1) L (.int (x / y) :: st) μ) : kbY l M tb rm ck cn F pc L (.int y :: .int x :: st) μ := by
  intro E p e s m args below meth c C D H locs ls hP hS hL
  exact lv_idiv C.1 C.2.1 hd hne (k E p e s m args below meth c C D H locs ls hP hS hL)
theorem y_ladd {x y : Int64} (hd : decode M.2.1 pc = .ok (.ladd, 1)) (k : kbY l M tb rm ck cn F (pc + 1) L (.long (x + y) :: st) μ) : kbY l M tb rm ck cn F pc L (.long y :: .long x :: st) μ := by
  intro E p e s m args below meth c C D H locs ls hP hS hL
  exact lv_ladd C.1 C.2.1 hd (k E p e s m args below meth c C D H locs ls hP hS hL)
theorem y_lsub {x y : Int64} (hd : decode M.2.1 pc = .ok (.lsub, 1)) (k : kbY l M tb rm ck cn F (pc + 1) L (.long (x - y) :: st) μ) : kbY l M tb rm ck cn F pc L (.long y :: .long x :: st) μ := by
  intro E p e s m args below meth c C D H locs ls hP hS hL
  exact lv_lsub C.1 C.2.1 hd (k E p e s m args below meth c C D H locs ls hP hS hL)
theorem y_ineg {x : Int32} (hd : decode M.2.1 pc = .ok (.ineg, 1)) (k : kbY l M tb rm ck cn F (pc + 1) L (.int (-x) :: st) μ) : kbY l M tb rm ck cn F pc L (.int x :: st) μ := by
  intro E p e s m args below meth c C D H locs ls hP hS hL
  exact lv_ineg C.1 C.2.1 hd (k E p e s m args below meth c C D H locs ls hP hS hL)
theorem y_i2l {x : Int32} (hd : decode M.2.1 pc = .ok (.i2l, 1)) (k : kbY l M tb rm ck cn F (pc + 1) L (.long x.toInt64 :: st) μ) : kbY l M tb rm ck cn F pc L (.int x :: st) μ := by
  intro E p e s m args below meth c C D H locs ls hP hS hL
  exact lv_i2l C.1 C.2.1 hd rfl (k E p e s m args below meth c C D H locs ls hP hS hL)
theorem y_i2b {x : Int32} (hd : decode M.2.1 pc = .ok (.i2b, 1)) (k : kbY l M tb rm ck cn F (pc + 1) L (.int x.toInt8.toInt32 :: st) μ) : kbY l M tb rm ck cn F pc L (.int x :: st) μ := by
  intro E p e s m args below meth c C D H locs ls hP hS hL
  exact lv_i2b C.1 C.2.1 hd rfl (k E p e s m args below meth c C D H locs ls hP hS hL)
theorem y_lcmp {x y : Int64} (hd : decode M.2.1 pc = .ok (.lcmp, 1)) (k : kbY l M tb rm ck cn F (pc + 1) L (.int (lg_cmp x y) :: st) μ) : kbY l M tb rm ck cn F pc L (.long y :: .long x :: st) μ := by
  intro E p e s m args below meth c C D H locs ls hP hS hL
  exact W.lcmp C.1 C.2.1 hd (k E p e s m args below meth c C D H locs ls hP hS hL)
theorem y_dup {v : Value} (hd : decode M.2.1 pc = .ok (.dup, 1)) (hc : v.category = 1) (k : kbY l M tb rm ck cn F (pc + 1) L (v :: v :: st) μ) : kbY l M tb rm ck cn F pc L (v :: st) μ := by
  intro E p e s m args below meth c C D H locs ls hP hS hL
  exact lv_dup C.1 C.2.1 hd (by rw [kbV_cat]; exact hc) (k E p e s m args below meth c C D H locs ls hP hS hL)
theorem y_pop {v : Value} (hd : decode M.2.1 pc = .ok (.pop, 1)) (hc : v.category = 1) (k : kbY l M tb rm ck cn F (pc + 1) L st μ) : kbY l M tb rm ck cn F pc L (v :: st) μ := by
  intro E p e s m args below meth c C D H locs ls hP hS hL
  exact lv_pop C.1 C.2.1 hd (by rw [kbV_cat]; exact hc) (k E p e s m args below meth c C D H locs ls hP hS hL)
theorem y_dup2 {v w : Value} (hd : decode M.2.1 pc = .ok (.dup2, 1)) (hc : v.category = 1) (hw : w.category = 1) (k : kbY l M tb rm ck cn F (pc + 1) L (v :: w :: v :: w :: st) μ) : kbY l M tb rm ck cn F pc L (v :: w :: st) μ := by
  intro E p e s m args below meth c C D H locs ls hP hS hL
  exact lv_dup2_11 C.1 C.2.1 hd (by rw [kbV_cat]; exact hc) (by rw [kbV_cat]; exact hw) (k E p e s m args below meth c C D H locs ls hP hS hL)
theorem y_goto {off : Int} (t : Nat) (hd : decode M.2.1 pc = .ok (.goto off, 3)) (ht : (pc : Int) + off = (t : Int)) (k : kbY l M tb rm ck cn F t L st μ) : kbY l M tb rm ck cn F pc L st μ := by
  intro E p e s m args below meth c C D H locs ls hP hS hL
  exact lv_goto C.1 C.2.1 hd ht (k E p e s m args below meth c C D H locs ls hP hS hL)
theorem y_if_eq {x : Int32} {off : Int} (t : Nat) (hd : decode M.2.1 pc = .ok (.ifCond .eq off, 3)) (ht : (pc : Int) + off = (t : Int)) (kt : x = 0 → kbY l M tb rm ck cn F t L st μ) (kf : ¬ (x = 0) → kbY l M tb rm ck cn F (pc + 3) L st μ) : kbY l M tb rm ck cn F pc L (.int x :: st) μ := by
  intro E p e s m args below meth c C D H locs ls hP hS hL
  exact lv_if_eq C.1 C.2.1 hd ht (fun h => kt h E p e s m args below meth c C D H locs ls hP hS hL) (fun h => kf h E p e s m args below meth c C D H locs ls hP hS hL)
theorem y_icmp_eq {x y : Int32} {off : Int} (t : Nat) (hd : decode M.2.1 pc = .ok (.if_icmp .eq off, 3)) (ht : (pc : Int) + off = (t : Int)) (kt : x = y → kbY l M tb rm ck cn F t L st μ) (kf : ¬ (x = y) → kbY l M tb rm ck cn F (pc + 3) L st μ) : kbY l M tb rm ck cn F pc L (.int y :: .int x :: st) μ := by
  intro E p e s m args below meth c C D H locs ls hP hS hL
  exact lv_icmp_eq C.1 C.2.1 hd ht (fun h => kt h E p e s m args below meth c C D H locs ls hP hS hL) (fun h => kf h E p e s m args below meth c C D H locs ls hP hS hL)
theorem y_if_ne {x : Int32} {off : Int} (t : Nat) (hd : decode M.2.1 pc = .ok (.ifCond .ne off, 3)) (ht : (pc : Int) + off = (t : Int)) (kt : ¬ x = 0 → kbY l M tb rm ck cn F t L st μ) (kf : x = 0 → kbY l M tb rm ck cn F (pc + 3) L st μ) : kbY l M tb rm ck cn F pc L (.int x :: st) μ := by
  intro E p e s m args below meth c C D H locs ls hP hS hL
  exact lv_if_ne C.1 C.2.1 hd ht (fun h => kt h E p e s m args below meth c C D H locs ls hP hS hL) (fun h => kf h E p e s m args below meth c C D H locs ls hP hS hL)
theorem y_icmp_ne {x y : Int32} {off : Int} (t : Nat) (hd : decode M.2.1 pc = .ok (.if_icmp .ne off, 3)) (ht : (pc : Int) + off = (t : Int)) (kt : ¬ x = y → kbY l M tb rm ck cn F t L st μ) (kf : x = y → kbY l M tb rm ck cn F (pc + 3) L st μ) : kbY l M tb rm ck cn F pc L (.int y :: .int x :: st) μ := by
  intro E p e s m args below meth c C D H locs ls hP hS hL
  exact lv_icmp_ne C.1 C.2.1 hd ht (fun h => kt h E p e s m args below meth c C D H locs ls hP hS hL) (fun h => kf h E p e s m args below meth c C D H locs ls hP hS hL)
theorem y_if_lt {x : Int32} {off : Int} (t : Nat) (hd : decode M.2.1 pc = .ok (.ifCond .lt off, 3)) (ht : (pc : Int) + off = (t : Int)) (kt : x < 0 → kbY l M tb rm ck cn F t L st μ) (kf : ¬ (x < 0) → kbY l M tb rm ck cn F (pc + 3) L st μ) : kbY l M tb rm ck cn F pc L (.int x :: st) μ := by
  intro E p e s m args below meth c C D H locs ls hP hS hL
  exact lv_if_lt C.1 C.2.1 hd ht (fun h => kt h E p e s m args below meth c C D H locs ls hP hS hL) (fun h => kf h E p e s m args below meth c C D H locs ls hP hS hL)
theorem y_icmp_lt {x y : Int32} {off : Int} (t : Nat) (hd : decode M.2.1 pc = .ok (.if_icmp .lt off, 3)) (ht : (pc : Int) + off = (t : Int)) (kt : x < y → kbY l M tb rm ck cn F t L st μ) (kf : ¬ (x < y) → kbY l M tb rm ck cn F (pc + 3) L st μ) : kbY l M tb rm ck cn F pc L (.int y :: .int x :: st) μ := by
  intro E p e s m args below meth c C D H locs ls hP hS hL
  exact lv_icmp_lt C.1 C.2.1 hd ht (fun h => kt h E p e s m args below meth c C D H locs ls hP hS hL) (fun h => kf h E p e s m args below meth c C D H locs ls hP hS hL)
theorem y_if_ge {x : Int32} {off : Int} (t : Nat) (hd : decode M.2.1 pc = .ok (.ifCond .ge off, 3)) (ht : (pc : Int) + off = (t : Int)) (kt : 0 ≤ x → kbY l M tb rm ck cn F t L st μ) (kf : ¬ (0 ≤ x) → kbY l M tb rm ck cn F (pc + 3) L st μ) : kbY l M tb rm ck cn F pc L (.int x :: st) μ := by
  intro E p e s m args below meth c C D H locs ls hP hS hL
  exact lv_if_ge C.1 C.2.1 hd ht (fun h => kt h E p e s m args below meth c C D H locs ls hP hS hL) (fun h => kf h E p e s m args below meth c C D H locs ls hP hS hL)
theorem y_icmp_ge {x y : Int32} {off : Int} (t : Nat) (hd : decode M.2.1 pc = .ok (.if_icmp .ge off, 3)) (ht : (pc : Int) + off = (t : Int)) (kt : y ≤ x → kbY l M tb rm ck cn F t L st μ) (kf : ¬ (y ≤ x) → kbY l M tb rm ck cn F (pc + 3) L st μ) : kbY l M tb rm ck cn F pc L (.int y :: .int x :: st) μ := by
  intro E p e s m args below meth c C D H locs ls hP hS hL
  exact lv_icmp_ge C.1 C.2.1 hd ht (fun h => kt h E p e s m args below meth c C D H locs ls hP hS hL) (fun h => kf h E p e s m args below meth c C D H locs ls hP hS hL)
theorem y_if_gt {x : Int32} {off : Int} (t : Nat) (hd : decode M.2.1 pc = .ok (.ifCond .gt off, 3)) (ht : (pc : Int) + off = (t : Int)) (kt : 0 < x → kbY l M tb rm ck cn F t L st μ) (kf : ¬ (0 < x) → kbY l M tb rm ck cn F (pc + 3) L st μ) : kbY l M tb rm ck cn F pc L (.int x :: st) μ := by
  intro E p e s m args below meth c C D H locs ls hP hS hL
  exact lv_if_gt C.1 C.2.1 hd ht (fun h => kt h E p e s m args below meth c C D H locs ls hP hS hL) (fun h => kf h E p e s m args below meth c C D H locs ls hP hS hL)
theorem y_icmp_gt {x y : Int32} {off : Int} (t : Nat) (hd : decode M.2.1 pc = .ok (.if_icmp .gt off, 3)) (ht : (pc : Int) + off = (t : Int)) (kt : y < x → kbY l M tb rm ck cn F t L st μ) (kf : ¬ (y < x) → kbY l M tb rm ck cn F (pc + 3) L st μ) : kbY l M tb rm ck cn F pc L (.int y :: .int x :: st) μ := by
  intro E p e s m args below meth c C D H locs ls hP hS hL
  exact lv_icmp_gt C.1 C.2.1 hd ht (fun h => kt h E p e s m args below meth c C D H locs ls hP hS hL) (fun h => kf h E p e s m args below meth c C D H locs ls hP hS hL)
theorem y_if_le {x : Int32} {off : Int} (t : Nat) (hd : decode M.2.1 pc = .ok (.ifCond .le off, 3)) (ht : (pc : Int) + off = (t : Int)) (kt : x ≤ 0 → kbY l M tb rm ck cn F t L st μ) (kf : ¬ (x ≤ 0) → kbY l M tb rm ck cn F (pc + 3) L st μ) : kbY l M tb rm ck cn F pc L (.int x :: st) μ := by
  intro E p e s m args below meth c C D H locs ls hP hS hL
  exact lv_if_le C.1 C.2.1 hd ht (fun h => kt h E p e s m args below meth c C D H locs ls hP hS hL) (fun h => kf h E p e s m args below meth c C D H locs ls hP hS hL)
theorem y_icmp_le {x y : Int32} {off : Int} (t : Nat) (hd : decode M.2.1 pc = .ok (.if_icmp .le off, 3)) (ht : (pc : Int) + off = (t : Int)) (kt : x ≤ y → kbY l M tb rm ck cn F t L st μ) (kf : ¬ (x ≤ y) → kbY l M tb rm ck cn F (pc + 3) L st μ) : kbY l M tb rm ck cn F pc L (.int y :: .int x :: st) μ := by
  intro E p e s m args below meth c C D H locs ls hP hS hL
  exact lv_icmp_le C.1 C.2.1 hd ht (fun h => kt h E p e s m args below meth c C D H locs ls hP hS hL) (fun h => kf h E p e s m args below meth c C D H locs ls hP hS hL)

theorem y_getI {idx i ci k : Nat} {fin : Bool} {ty : FieldType} {fds : List (Option Nat)} (hf : kbFL M.1.cls idx ci k fin ty) (hs : kbSh[i]? = some (.inr (ci, fds))) (hk : fds[k]? = some none) (hd : decode M.2.1 pc = .ok (.getfield idx, 3)) (kk : kbY l M tb rm ck cn F (pc + 3) L (.int (μ.1 i k) :: st) μ) : kbY l M tb rm ck cn F pc L (.ref i :: st) μ := by
  intro E p e s m args below meth c C D H locs ls hP hS hL
  obtain ⟨Cn, T, N, ty0, h1, h2, h3, -, -, -, -, h5⟩ := hf
  have hin : ∀ w ∈ u_ws Cn T N, w ∈ kbT := h3
  have kk' := kk E p e s m args below meth c C D H locs ls hP hS hL
  rcases h5 with h5 | ⟨host, h5⟩
  · exact va_get C.1 C.2.1 C.2.2.2.2.2.2.1 hin C.2.2.2.2.2.1 C.2.2.2.2.2.2.2.1 hP i (kbWs_get hs) h1 k h2 (C.2.2.2.2.2.2.1 _ h5) (fun _ h => h) (kbFds hk) hd kk'
  · exact va_getN C.1 C.2.1 C.2.2.2.2.2.2.1 hin C.2.2.2.2.2.1 C.2.2.2.2.2.2.2.1 hP i (kbWs_get hs) h1 k h2 (va_Nw.use rfl (C.2.2.2.2.2.2.2.2.2.1.1 _ h5)) (fun _ h => h) (kbFds hk) hd kk'
theorem y_getR {idx i ci k j : Nat} {fin : Bool} {ty : FieldType} {fds : List (Option Nat)} (hf : kbFL M.1.cls idx ci k fin ty) (hs : kbSh[i]? = some (.inr (ci, fds))) (hk : fds[k]? = some (some j)) (hd : decode M.2.1 pc = .ok (.getfield idx, 3)) (kk : kbY l M tb rm ck cn F (pc + 3) L (.ref j :: st) μ) : kbY l M tb rm ck cn F pc L (.ref i :: st) μ := by
  intro E p e s m args below meth c C D H locs ls hP hS hL
  obtain ⟨Cn, T, N, ty0, h1, h2, h3, -, -, -, -, h5⟩ := hf
  have hin : ∀ w ∈ u_ws Cn T N, w ∈ kbT := h3
  have kk' := kk E p e s m args below meth c C D H locs ls hP hS hL
  rcases h5 with h5 | ⟨host, h5⟩
  · exact va_get C.1 C.2.1 C.2.2.2.2.2.2.1 hin C.2.2.2.2.2.1 C.2.2.2.2.2.2.2.1 hP i (kbWs_get hs) h1 k h2 (C.2.2.2.2.2.2.1 _ h5) (fun _ h => h) (kbFds hk) hd kk'
  · exact va_getN C.1 C.2.1 C.2.2.2.2.2.2.1 hin C.2.2.2.2.2.1 C.2.2.2.2.2.2.2.1 hP i (kbWs_get hs) h1 k h2 (va_Nw.use rfl (C.2.2.2.2.2.2.2.2.2.1.1 _ h5)) (fun _ h => h) (kbFds hk) hd kk'
theorem y_put {idx i ci k : Nat} {ty : FieldType} {fds : List (Option Nat)} {v : Int32} (hf : kbFL M.1.cls idx ci k false ty) (hs : kbSh[i]? = some (.inr (ci, fds))) (hk : fds[k]? = some none) (hn : narrow ty (.int v) = .int v) (hfit : fits ty (.int v) = true) (hd : decode M.2.1 pc = .ok (.putfield idx, 3)) (kk : kbY l M tb rm ck cn F (pc + 3) L st (kbW μ i k v)) : kbY l M tb rm ck cn F pc L (.int v :: .ref i :: st) μ := by
  intro E p e s m args below meth c C D H locs ls hP hS hL
  obtain ⟨Cn, T, N, ty0, h1, h2, h3, h6, h7, h8, h9, h5⟩ := hf
  have hin : ∀ w ∈ u_ws Cn T N, w ∈ kbT := h3
  have hD := kbDA (μ := μ) (sz := s.heap.size) C.2.2.2.2.2.2.2.2.1
  have hlen : k < (fds.mapIdx (kbFd E (μ.1 i))).length := by rw [List.length_mapIdx]; exact (List.getElem?_eq_some_iff.mp hk).1
  have key : ∀ (H1 : Heap) (locs1 : List Loc), va_P E.2.1 vwCl ((kbWs E μ).set i (E.1 i, .inr (ci, (fds.mapIdx (kbFd E (μ.1 i))).set k (.int v)))) H1 → va_D (kbAE E s.heap.size) ((kbWs E μ).set i (E.1 i, .inr (ci, (fds.mapIdx (kbFd E (μ.1 i))).set k (.int v)))) → va_S (kbAE E s.heap.size) s.heap H1 locs1 → W p l e rm s m args below meth c H1 locs1 ck cn (F E s args below) (F0 m (pc + 3) ls (st.map (kbV E))) := by
    intro H1 locs1 hP1 _ hS1
    rw [kbFd_set hk] at hP1
    have e1 := kbWs_A (E := E) (μ := μ) (f := upd (μ.1 i) k v) hs
    rw [show (.inr (ci, fds.mapIdx (kbFd E (upd (μ.1 i) k v))) : va_E) = kbCell E (upd (μ.1 i) k v) (μ.2 i) (.inr (ci, fds)) from rfl, e1] at hP1
    exact kk E p e s m args below meth c C D H1 locs1 ls hP1 hS1 hL
  have hty : parseFieldDescriptor (T k).2.2.1 = some ty := by rw [h6 k h2, h9]
  rcases h5 with h5 | ⟨host, h5⟩
  · exact va_put C.1 C.2.1 C.2.2.2.2.2.2.1 hin ty0 h6 h7 C.2.2.2.2.2.1 C.2.2.2.2.2.2.2.1 hP hD hS i (kbWs_get hs) h1 k h2 (C.2.2.2.2.2.2.1 _ h5) (fun _ h => h) h8 hty hn hfit hlen hd key
  · exact va_putN C.1 C.2.1 C.2.2.2.2.2.2.1 hin ty0 h6 h7 C.2.2.2.2.2.1 C.2.2.2.2.2.2.2.1 hP hD hS i (kbWs_get hs) h1 k h2 (va_Nw.use rfl (C.2.2.2.2.2.2.2.2.2.1.1 _ h5)) (fun _ h => h) h8 hty hn hfit hlen hd key
theorem y_iald {i n : Nat} {rs : List Nat} {j : Int32} (hs : kbSh[i]? = some (.inl (0, n, rs))) (hin : vp_in j n) (hd : decode M.2.1 pc = .ok (.iaload, 1)) (kk : kbY l M tb rm ck cn F (pc + 1) L (.int (μ.1 i j.toNatClampNeg) :: st) μ) : kbY l M tb rm ck cn F pc L (.int j :: .ref i :: st) μ := by
  intro E p e s m args below meth c C D H locs ls hP hS hL
  exact va_iald C.1 C.2.1 C.2.2.2.2.2.2.2.1 hP i 0 (kbWs_get hs) rfl hin hd (kk E p e s m args below meth c C D H locs ls hP hS hL)
theorem y_zald {i n : Nat} {rs : List Nat} {j : Int32} (hs : kbSh[i]? = some (.inl (2, n, rs))) (hin : vp_in j n) (hd : decode M.2.1 pc = .ok (.baload, 1)) (kk : kbY l M tb rm ck cn F (pc + 1) L (.int (μ.1 i j.toNatClampNeg) :: st) μ) : kbY l M tb rm ck cn F pc L (.int j :: .ref i :: st) μ := by
  intro E p e s m args below meth c C D H locs ls hP hS hL
  exact va_zald C.1 C.2.1 C.2.2.2.2.2.2.2.1 hP i 2 (kbWs_get hs) rfl hin hd (kk E p e s m args below meth c C D H locs ls hP hS hL)
theorem y_lald {i n : Nat} {rs : List Nat} {j : Int32} (hs : kbSh[i]? = some (.inl (1, n, rs))) (hin : vp_in j n) (hd : decode M.2.1 pc = .ok (.laload, 1)) (kk : kbY l M tb rm ck cn F (pc + 1) L (.long (μ.2 i j.toNatClampNeg) :: st) μ) : kbY l M tb rm ck cn F pc L (.int j :: .ref i :: st) μ := by
  intro E p e s m args below meth c C D H locs ls hP hS hL
  exact va_lald C.1 C.2.1 C.2.2.2.2.2.2.2.1 hP i 1 (kbWs_get hs) rfl hin hd (kk E p e s m args below meth c C D H locs ls hP hS hL)
theorem y_aald {i n : Nat} {rs : List Nat} {j : Int32} {r : Nat} (hs : kbSh[i]? = some (.inl (3, n, rs))) (hin : vp_in j n) (hr : rs[j.toNatClampNeg]? = some r) (hd : decode M.2.1 pc = .ok (.aaload, 1)) (kk : kbY l M tb rm ck cn F (pc + 1) L (.ref r :: st) μ) : kbY l M tb rm ck cn F pc L (.int j :: .ref i :: st) μ := by
  intro E p e s m args below meth c C D H locs ls hP hS hL
  refine va_aldq C.1 C.2.1 C.2.2.2.2.2.2.2.1 hP i 3 (kbWs_get hs) rfl hin hd ?_
  rw [hr]
  exact kk E p e s m args below meth c C D H locs ls hP hS hL
theorem y_iast {i n : Nat} {rs : List Nat} {j x : Int32} (hs : kbSh[i]? = some (.inl (0, n, rs))) (hin : vp_in j n) (hd : decode M.2.1 pc = .ok (.iastore, 1)) (kk : kbY l M tb rm ck cn F (pc + 1) L st (kbW μ i j.toNatClampNeg x)) : kbY l M tb rm ck cn F pc L (.int x :: .int j :: .ref i :: st) μ := by
  intro E p e s m args below meth c C D H locs ls hP hS hL
  refine va_iast C.1 C.2.1 C.2.2.2.2.2.2.2.1 hP (kbDA C.2.2.2.2.2.2.2.2.1) hS i 0 (kbWs_get hs) rfl hin hd fun H1 locs1 hP1 _ hS1 => ?_
  have e1 := kbWs_A (E := E) (μ := μ) (f := upd (μ.1 i) j.toNatClampNeg x) hs
  exact kk E p e s m args below meth c C D H1 locs1 ls (e1 ▸ hP1) hS1 hL
theorem y_zast {i n : Nat} {rs : List Nat} {j x : Int32} (hs : kbSh[i]? = some (.inl (2, n, rs))) (hin : vp_in j n) (hd : decode M.2.1 pc = .ok (.bastore, 1)) (kk : kbY l M tb rm ck cn F (pc + 1) L st (kbW μ i j.toNatClampNeg (vp_nar .boolean x))) : kbY l M tb rm ck cn F pc L (.int x :: .int j :: .ref i :: st) μ := by
  intro E p e s m args below meth c C D H locs ls hP hS hL
  refine va_zast C.1 C.2.1 C.2.2.2.2.2.2.2.1 hP (kbDA C.2.2.2.2.2.2.2.2.1) hS i 2 (kbWs_get hs) rfl hin hd fun H1 locs1 hP1 _ hS1 => ?_
  have e1 := kbWs_A (E := E) (μ := μ) (f := upd (μ.1 i) j.toNatClampNeg (vp_nar .boolean x)) hs
  exact kk E p e s m args below meth c C D H1 locs1 ls (e1 ▸ hP1) hS1 hL
theorem y_last {i n : Nat} {rs : List Nat} {j : Int32} {x : Int64} (hs : kbSh[i]? = some (.inl (1, n, rs))) (hin : vp_in j n) (hd : decode M.2.1 pc = .ok (.lastore, 1)) (kk : kbY l M tb rm ck cn F (pc + 1) L st (kbX μ i j.toNatClampNeg x)) : kbY l M tb rm ck cn F pc L (.long x :: .int j :: .ref i :: st) μ := by
  intro E p e s m args below meth c C D H locs ls hP hS hL
  refine va_last C.1 C.2.1 C.2.2.2.2.2.2.2.1 hP (kbDA C.2.2.2.2.2.2.2.2.1) hS i 1 (kbWs_get hs) rfl hin hd fun H1 locs1 hP1 _ hS1 => ?_
  have e1 := kbWs_B (E := E) (μ := μ) (f := vp_updL (μ.2 i) j.toNatClampNeg x) hs
  exact kk E p e s m args below meth c C D H1 locs1 ls (e1 ▸ hP1) hS1 hL
theorem y_alen {i n t : Nat} {rs : List Nat} (v : Int32) (hs : kbSh[i]? = some (.inl (t, n, rs))) (ht : t < 4) (hv : Int32.ofNat n = v) (hd : decode M.2.1 pc = .ok (.arraylength, 1)) (kk : kbY l M tb rm ck cn F (pc + 1) L (.int v :: st) μ) : kbY l M tb rm ck cn F pc L (.ref i :: st) μ := by
  intro E p e s m args below meth c C D H locs ls hP hS hL
  have k' := kk E p e s m args below meth c C D H locs ls hP hS hL
  match t, ht, hs with
  | 0, _, hs => exact va_alen C.1 C.2.1 C.2.2.2.2.2.2.2.1 hP i 0 (kbWs_get hs) rfl hv hd k'
  | 1, _, hs => exact va_alen C.1 C.2.1 C.2.2.2.2.2.2.2.1 hP i 1 (kbWs_get hs) rfl hv hd k'
  | 2, _, hs => exact va_alen C.1 C.2.1 C.2.2.2.2.2.2.2.1 hP i 2 (kbWs_get hs) rfl hv hd k'
  | 3, _, hs => exact va_alen C.1 C.2.1 C.2.2.2.2.2.2.2.1 hP i 3 (kbWs_get hs) rfl hv hd k'
theorem y_fives {idx : Nat} (hw : Cond.fieldLink M.1.cls idx "KnockBook$Rows" "FIVES" "[I" ∈ kbT) (hd : decode M.2.1 pc = .ok (.getstatic idx, 3)) (kk : kbY l M tb rm ck cn F (pc + 3) L (.ref 3000 :: st) μ) : kbY l M tb rm ck cn F pc L st μ := by
  intro E p e s m args below meth c C D H locs ls hP hS hL
  exact va_gets C.1 C.2.1 C.2.2.2.2.2.2.2.2.2.2.2.1 hS C.2.2.2.2.2.1 (C.2.2.2.2.2.2.1 _ hw) (fun _ h => h) hd (kk E p e s m args below meth c C D H locs ls hP hS hL)
theorem y_fald {j : Int32} (hin : vp_in j 13) (hd : decode M.2.1 pc = .ok (.iaload, 1)) (kk : kbY l M tb rm ck cn F (pc + 1) L (.int (kbFv.getD j.toNatClampNeg 0) :: st) μ) : kbY l M tb rm ck cn F pc L (.int j :: .ref 3000 :: st) μ := by
  intro E p e s m args below meth c C D H locs ls hP hS hL
  exact va_ti C.1 C.2.1 C.2.2.2.2.2.2.2.2.2.2.2.2.1 hS hin rfl hd (kk E p e s m args below meth c C D H locs ls hP hS hL)
theorem y_ldcS {idx id : Nat} {tx : String} (hw : (M.1.cls, idx, tx, id) ∈ kbSR) (hd : decode M.2.1 pc = .ok (.ldc idx, 2)) (kk : kbY l M tb rm ck cn F (pc + 2) L (.ref (1000 + id) :: st) μ) : kbY l M tb rm ck cn F pc L st μ := by
  intro E p e s m args below meth c C D H locs ls hP hS hL
  exact va_ldcS C.1 C.2.1 C.2.2.2.2.2.1 (C.2.2.2.2.2.2.2.2.2.1.2.2 _ hw) hd (kk E p e s m args below meth c C D H locs ls hP hS hL)
theorem y_le (L' : List (Option Value)) (h : kbLe L' L) (k : kbY l M tb rm ck cn F pc L' st μ) : kbY l M tb rm ck cn F pc L st μ := y_drop (kbLe_ok _ _ h).1 (kbLe_ok _ _ h).2 k
theorem y_rem {x y : Int32} (hd : decode M.2.1 pc = .ok (.irem, 1)) (hne : ¬ y = 0) (k : kbY l M tb rm ck cn F (pc + 1) L (.int (kbRem x y) :: st) μ) : kbY l M tb rm ck cn F pc L (.int y :: .int x :: st) μ := by
  intro E p e s m args below meth c C D H locs ls hP hS hL
  exact lv_irem C.1 C.2.1 hd hne (k E p e s m args below meth c C D H locs ls hP hS hL)
theorem y_shl {x y : Int32} (hd : decode M.2.1 pc = .ok (.ishl, 1)) (k : kbY l M tb rm ck cn F (pc + 1) L (.int (kbShl x y) :: st) μ) : kbY l M tb rm ck cn F pc L (.int y :: .int x :: st) μ := by
  intro E p e s m args below meth c C D H locs ls hP hS hL
  exact lv_ishl C.1 C.2.1 hd (k E p e s m args below meth c C D H locs ls hP hS hL)
theorem y_shr {x y : Int32} (hd : decode M.2.1 pc = .ok (.ishr, 1)) (k : kbY l M tb rm ck cn F (pc + 1) L (.int (kbShr x y) :: st) μ) : kbY l M tb rm ck cn F pc L (.int y :: .int x :: st) μ := by
  intro E p e s m args below meth c C D H locs ls hP hS hL
  exact lv_ishr C.1 C.2.1 hd (k E p e s m args below meth c C D H locs ls hP hS hL)
theorem y_ush {x y : Int32} (hd : decode M.2.1 pc = .ok (.iushr, 1)) (k : kbY l M tb rm ck cn F (pc + 1) L (.int (kbUsh x y) :: st) μ) : kbY l M tb rm ck cn F pc L (.int y :: .int x :: st) μ := by
  intro E p e s m args below meth c C D H locs ls hP hS hL
  exact lv_iushr C.1 C.2.1 hd rfl (k E p e s m args below meth c C D H locs ls hP hS hL)
theorem y_tochar {x : Int32} (hd : decode M.2.1 pc = .ok (.i2c, 1)) (k : kbY l M tb rm ck cn F (pc + 1) L (.int (kbI2c x) :: st) μ) : kbY l M tb rm ck cn F pc L (.int x :: st) μ := by
  intro E p e s m args below meth c C D H locs ls hP hS hL
  exact lv_i2c C.1 C.2.1 hd rfl (k E p e s m args below meth c C D H locs ls hP hS hL)
theorem y_tabOut {dflt lo hi : Int} {offs : Array Int} {len : Nat} {x : Int32} (t : Nat) (hd : decode M.2.1 pc = .ok (.tableswitch dflt lo hi offs, len)) (h : x.toInt < lo ∨ hi < x.toInt) (ht : (pc : Int) + dflt = (t : Int)) (k : kbY l M tb rm ck cn F t L st μ) : kbY l M tb rm ck cn F pc L (.int x :: st) μ := by
  intro E p e s m args below meth c C D H locs ls hP hS hL
  exact lv_tableOut C.1 C.2.1 hd h ht (k E p e s m args below meth c C D H locs ls hP hS hL)
theorem y_tabIn {dflt lo hi : Int} {offs : Array Int} {len : Nat} {x : Int32} {off : Int} (t : Nat) (hd : decode M.2.1 pc = .ok (.tableswitch dflt lo hi offs, len)) (h1 : ¬ x.toInt < lo) (h2 : ¬ hi < x.toInt) (ho : offs[(x.toInt - lo).toNat]? = some off) (ht : (pc : Int) + off = (t : Int)) (k : kbY l M tb rm ck cn F t L st μ) : kbY l M tb rm ck cn F pc L (.int x :: st) μ := by
  intro E p e s m args below meth c C D H locs ls hP hS hL
  exact lv_tableIn C.1 C.2.1 hd h1 h2 ho ht (k E p e s m args below meth c C D H locs ls hP hS hL)
theorem y_lookup {dflt : Int} {ps : Array (Int × Int)} {len : Nat} {x : Int32} {off : Int} (t : Nat) (hd : decode M.2.1 pc = .ok (.lookupswitch dflt ps, len)) (hp : (ps.toList.zip (ps.toList.drop 1)).all (fun (a, next) => a.1 < next.1) = true) (ho : Op.lookupswitch.offset ps.toList dflt x.toInt = off) (ht : (pc : Int) + off = (t : Int)) (k : kbY l M tb rm ck cn F t L st μ) : kbY l M tb rm ck cn F pc L (.int x :: st) μ := by
  intro E p e s m args below meth c C D H locs ls hP hS hL
  exact lv_lookup C.1 C.2.1 hd hp ho ht (k E p e s m args below meth c C D H locs ls hP hS hL)
theorem y_min {idx : Nat} {x y : Int32} (hw : Cond.methodLink M.1.cls idx Lib.Math.min.name ∈ kbT) (hd1 : 1 ≤ rm.frames) (hd2 : 48 ≤ rm.locals) (hcs : ck ≤ rm.cells ∧ cn ≤ rm.slots) (hr : (st.map fun v => v.category).sum ≤ 8) (hd : decode M.2.1 pc = .ok (.invokestatic idx, 3)) (k : kbY l M tb rm ck cn F (pc + 3) L (.int (kbMin x y) :: st) μ) : kbY l M tb rm ck cn F pc L (.int y :: .int x :: st) μ := by
  intro E p e s m args below meth c C D H locs ls hP hS hL
  exact va_mmin C.1 C.2.1 (C.2.2.1.trans hL.2.1.symm) C.2.2.2.2.2.1 (C.2.2.2.2.2.2.1 _ hw) (C.2.2.2.2.2.2.1 _ kb_mathW.1) (C.2.2.2.2.2.2.1 _ kb_mathW.2.2.2.2.2.2) (C.2.2.2.2.2.2.1 _ kb_mathW.2.1) hd1 (by rw [kbV_sum]; omega) hcs.1 hcs.2 hd (k E p e s m args below meth c C D H locs ls hP hS hL)
theorem y_max {idx : Nat} {x y : Int32} (hw : Cond.methodLink M.1.cls idx Lib.Math.max.name ∈ kbT) (hd1 : 1 ≤ rm.frames) (hd2 : 48 ≤ rm.locals) (hcs : ck ≤ rm.cells ∧ cn ≤ rm.slots) (hr : (st.map fun v => v.category).sum ≤ 8) (hd : decode M.2.1 pc = .ok (.invokestatic idx, 3)) (k : kbY l M tb rm ck cn F (pc + 3) L (.int (kbMax x y) :: st) μ) : kbY l M tb rm ck cn F pc L (.int y :: .int x :: st) μ := by
  intro E p e s m args below meth c C D H locs ls hP hS hL
  exact va_mmax C.1 C.2.1 (C.2.2.1.trans hL.2.1.symm) C.2.2.2.2.2.1 (C.2.2.2.2.2.2.1 _ hw) (C.2.2.2.2.2.2.1 _ kb_mathW.2.2.1) (C.2.2.2.2.2.2.1 _ kb_mathW.2.2.2.2.2.2) (C.2.2.2.2.2.2.1 _ kb_mathW.2.2.2.1) hd1 (by rw [kbV_sum]; omega) hcs.1 hcs.2 hd (k E p e s m args below meth c C D H locs ls hP hS hL)
theorem y_abs {idx : Nat} {x : Int32} (hw : Cond.methodLink M.1.cls idx Lib.Math.abs.name ∈ kbT) (hd1 : 1 ≤ rm.frames) (hd2 : 48 ≤ rm.locals) (hcs : ck ≤ rm.cells ∧ cn ≤ rm.slots) (hr : (st.map fun v => v.category).sum ≤ 8) (hd : decode M.2.1 pc = .ok (.invokestatic idx, 3)) (k : kbY l M tb rm ck cn F (pc + 3) L (.int (kbAbs x) :: st) μ) : kbY l M tb rm ck cn F pc L (.int x :: st) μ := by
  intro E p e s m args below meth c C D H locs ls hP hS hL
  exact va_mabs C.1 C.2.1 (C.2.2.1.trans hL.2.1.symm) C.2.2.2.2.2.1 (C.2.2.2.2.2.2.1 _ hw) (C.2.2.2.2.2.2.1 _ kb_mathW.2.2.2.2.1) (C.2.2.2.2.2.2.1 _ kb_mathW.2.2.2.2.2.2) (C.2.2.2.2.2.2.1 _ kb_mathW.2.2.2.2.2.1) hd1 (by rw [kbV_sum]; omega) hcs.1 hcs.2 hd (k E p e s m args below meth c C D H locs ls hP hS hL)
theorem y_copy {idx i0 i1 n0 n1 : Nat} {rs0 rs1 : List Nat} {sp dp n : Int32} (hw : Cond.methodLink M.1.cls idx arraycopyName ∈ kbT) (hs0 : kbSh[i0]? = some (.inl (0, n0, rs0))) (hs1 : kbSh[i1]? = some (.inl (0, n1, rs1))) (hc : kbCp sp dp n n0 n1 = true) (hd1 : 1 ≤ rm.frames) (hd2 : 48 ≤ rm.locals) (hcs : ck ≤ rm.cells ∧ cn ≤ rm.slots) (hr : (st.map fun v => v.category).sum ≤ 8) (hd : decode M.2.1 pc = .ok (.invokestatic idx, 3))
    (k : kbY l M tb rm ck cn F (pc + 3) L st (kbA μ i1 (va_cpy (μ.1 i0) (μ.1 i1) sp.toNatClampNeg dp.toNatClampNeg n.toNatClampNeg))) : kbY l M tb rm ck cn F pc L (.int n :: .int dp :: .ref i1 :: .int sp :: .ref i0 :: st) μ := by
  intro E p e s m args below meth c C D H locs ls hP hS hL
  obtain ⟨h1, h2, h3, h4, h5⟩ := of_decide_eq_true hc
  have hnw : (st.map fun v => v.category).sum + (nativeFrameWords "java/lang/System" "arraycopy" 5 + 11) ≤ rm.locals := by
    have : nativeFrameWords "java/lang/System" "arraycopy" 5 ≤ 20 := by decide
    omega
  refine va_copyi C.1 C.2.1 (C.2.2.1.trans hL.2.1.symm) C.2.2.2.2.2.1 (C.2.2.2.2.2.2.1 _ hw) (C.2.2.2.2.2.2.1 _ kb_copyW.1) (C.2.2.2.2.2.2.1 _ kb_copyW.2.1) (C.2.2.2.2.2.2.1 _ kb_copyW.2.2) C.2.2.2.2.2.2.2.1 hP (kbDA C.2.2.2.2.2.2.2.2.1) hS i0 i1 0 0 (kbWs_get hs0) (kbWs_get hs1) rfl rfl rfl h1 h2 h3 h4 h5 (fun i _ => rfl) hd1 (by rw [kbV_sum]; exact hnw) hd fun H1 locs1 hP1 _ hS1 => ?_
  have e1 := kbWs_A (E := E) (μ := μ) (f := va_cpy (μ.1 i0) (μ.1 i1) sp.toNatClampNeg dp.toNatClampNeg n.toNatClampNeg) hs1
  exact k E p e s m args below meth c C D H1 locs1 ls (e1 ▸ hP1) hS1 hL
theorem yq_iald {i n : Nat} {rs : List Nat} {j : Int32} (q : Nat) (hq : j.toNatClampNeg = q) (hs : kbSh[i]? = some (.inl (0, n, rs))) (hin : vp_in j n) (hd : decode M.2.1 pc = .ok (.iaload, 1)) (kk : kbY l M tb rm ck cn F (pc + 1) L (.int (μ.1 i q) :: st) μ) : kbY l M tb rm ck cn F pc L (.int j :: .ref i :: st) μ := by subst hq; exact y_iald hs hin hd kk
theorem yq_zald {i n : Nat} {rs : List Nat} {j : Int32} (q : Nat) (hq : j.toNatClampNeg = q) (hs : kbSh[i]? = some (.inl (2, n, rs))) (hin : vp_in j n) (hd : decode M.2.1 pc = .ok (.baload, 1)) (kk : kbY l M tb rm ck cn F (pc + 1) L (.int (μ.1 i q) :: st) μ) : kbY l M tb rm ck cn F pc L (.int j :: .ref i :: st) μ := by subst hq; exact y_zald hs hin hd kk
theorem yq_lald {i n : Nat} {rs : List Nat} {j : Int32} (q : Nat) (hq : j.toNatClampNeg = q) (hs : kbSh[i]? = some (.inl (1, n, rs))) (hin : vp_in j n) (hd : decode M.2.1 pc = .ok (.laload, 1)) (kk : kbY l M tb rm ck cn F (pc + 1) L (.long (μ.2 i q) :: st) μ) : kbY l M tb rm ck cn F pc L (.int j :: .ref i :: st) μ := by subst hq; exact y_lald hs hin hd kk
theorem yq_iast {i n : Nat} {rs : List Nat} {j x : Int32} (q : Nat) (hq : j.toNatClampNeg = q) (hs : kbSh[i]? = some (.inl (0, n, rs))) (hin : vp_in j n) (hd : decode M.2.1 pc = .ok (.iastore, 1)) (kk : kbY l M tb rm ck cn F (pc + 1) L st (kbW μ i q x)) : kbY l M tb rm ck cn F pc L (.int x :: .int j :: .ref i :: st) μ := by subst hq; exact y_iast hs hin hd kk
theorem yq_zast {i n : Nat} {rs : List Nat} {j x : Int32} (q : Nat) (hq : j.toNatClampNeg = q) (hs : kbSh[i]? = some (.inl (2, n, rs))) (hin : vp_in j n) (hd : decode M.2.1 pc = .ok (.bastore, 1)) (kk : kbY l M tb rm ck cn F (pc + 1) L st (kbW μ i q (vp_nar .boolean x))) : kbY l M tb rm ck cn F pc L (.int x :: .int j :: .ref i :: st) μ := by subst hq; exact y_zast hs hin hd kk
theorem yq_last {i n : Nat} {rs : List Nat} {j : Int32} {x : Int64} (q : Nat) (hq : j.toNatClampNeg = q) (hs : kbSh[i]? = some (.inl (1, n, rs))) (hin : vp_in j n) (hd : decode M.2.1 pc = .ok (.lastore, 1)) (kk : kbY l M tb rm ck cn F (pc + 1) L st (kbX μ i q x)) : kbY l M tb rm ck cn F pc L (.long x :: .int j :: .ref i :: st) μ := by subst hq; exact y_last hs hin hd kk
theorem yq_fald {j : Int32} (q : Nat) (hq : j.toNatClampNeg = q) (hin : vp_in j 13) (hd : decode M.2.1 pc = .ok (.iaload, 1)) (kk : kbY l M tb rm ck cn F (pc + 1) L (.int (kbFv.getD q 0) :: st) μ) : kbY l M tb rm ck cn F pc L (.int j :: .ref 3000 :: st) μ := by subst hq; exact y_fald hin hd kk
theorem yq_copy {idx i0 i1 n0 n1 : Nat} {rs0 rs1 : List Nat} {sp dp n : Int32} (a b c : Nat) (ha : sp.toNatClampNeg = a) (hb : dp.toNatClampNeg = b) (hc0 : n.toNatClampNeg = c) (hw : Cond.methodLink M.1.cls idx arraycopyName ∈ kbT) (hs0 : kbSh[i0]? = some (.inl (0, n0, rs0))) (hs1 : kbSh[i1]? = some (.inl (0, n1, rs1))) (hc : kbCp sp dp n n0 n1 = true) (hd1 : 1 ≤ rm.frames) (hd2 : 48 ≤ rm.locals) (hcs : ck ≤ rm.cells ∧ cn ≤ rm.slots) (hr : (st.map fun v => v.category).sum ≤ 8) (hd : decode M.2.1 pc = .ok (.invokestatic idx, 3))
    (k : kbY l M tb rm ck cn F (pc + 3) L st (kbA μ i1 (va_cpy (μ.1 i0) (μ.1 i1) a b c))) : kbY l M tb rm ck cn F pc L (.int n :: .int dp :: .ref i1 :: .int sp :: .ref i0 :: st) μ := by subst ha; subst hb; subst hc0; exact y_copy hw hs0 hs1 hc hd1 hd2 hcs hr hd k

end Y
