/-! THE LOGIC: a method's body at a pc, with locals, stack and memory by places; Q: what its answer and the memory behind it owe -/
abbrev kbMt : Type := MethodName × ByteArray × Nat × Option FieldType
abbrev kbQt : Type := Option Value → kbM → Prop
def kbRm (d : Nat) : Room := { frames := d, cells := 0, slots := 0, locals := 48 * d }
def kbWd (M : kbMt) : List Cond := Cond.code M.1 M.2.1 M.2.2.1 M.2.2.2 :: kbT
def kbQ (E : kbE) (Q : kbQt) (A : Nat → Prop) : Array Value → State → Outcome → State → Prop := fun _ st oc t =>
  ∃ (r : Option Value) (μ' : kbM), oc = .returned (r.map (kbV E)) ∧ Q r μ' ∧ va_P E.2.1 vwCl (kbWs E μ') t.heap ∧ va_F A st t
def kbCx (l : Launch) (M : kbMt) (E : kbE) (p : Program) (s : State) (m : MethodId) (args : Array Value) (meth : Method) (c : Code) : Prop :=
  p.tables.exec = Jvm.exec ∧ c.code = M.2.1 ∧ c.maxLocals = M.2.2.1 ∧ meth.sig.returnType = M.2.2.2 ∧ meth.locks = false ∧ s.vm.findClass M.1.cls = some m.cls ∧ (∀ w ∈ kbWd M, w.before args s = true) ∧
  va_K E.2.1 vwCl (kbTys E) s ∧ kbJ E ∧ kbTb E s ∧ kbSt E (kbAE E s.heap.size) s s.heap
/-- a body at a pc -/
def kbR (l : Launch) (M : kbMt) (d : Nat) (Q : kbQt) (pc : Nat) (L : List (Option Value)) (st : List Value) (μ : kbM) : Prop :=
  ∀ (E : kbE) (p : Program) (e : Env) (s : State) (m : MethodId) (args : Array Value) (below : List Frame) (meth : Method) (c : Code), kbCx l M E p s m args meth c →
  ∀ (H : Heap) (locs : List Loc) (ls : Array Slot), va_P E.2.1 vwCl (kbWs E μ) H → va_S (kbAE E s.heap.size) s.heap H locs → kbL E M.2.2.1 L ls →
    W p l e (kbRm d) s m args below meth c H locs 0 0 (MQ below (kbQ E Q (kbAE E s.heap.size)) args s 0 0 (kbAE E s.heap.size)) (F0 m pc ls (st.map (kbV E)))
/-- a method's contract -/
def kbS (l : Launch) (M : kbMt) (d : Nat) (av : List Value) (μ : kbM) (Q : kbQt) : Prop :=
  ∀ (E : kbE) (sz : Nat), Met l M.1 (kbWd M) (kbRm d) (va_Pc (av.map (kbV E)) (fun U => U.heap.size = sz ∧ kbWD E μ U)) (kbQ E Q (kbAE E sz)) 0 0 (kbAE E sz)
/-- the locals at the entry -/
def kbEn : List Value → List (Option Value)
  | [] => []
  | v :: vs => if v.category = 2 then some v :: none :: kbEn vs else some v :: kbEn vs
theorem kbEn_len : ∀ (av : List Value) (E : kbE), (lg_sl (av.map (kbV E))).length = (kbEn av).length
  | [], _ => rfl
  | v :: vs, E => by
    have ih := kbEn_len vs E
    simp only [lg_sl, List.map_cons, List.flatMap_cons, kbV_cat, List.length_append, kbEn]
    simp only [lg_sl] at ih
    rw [ih]
    by_cases h : v.category = 2
    · simp [h]; omega
    · simp [h]; omega
theorem kbEn_at (E : kbE) : ∀ (av : List Value) (j i : Nat) (v : Value), (kbEn av)[i]? = some (some v) → (j + i, kbV E v) ∈ lv_args j (av.map (kbV E))
  | [], j, i, v, h => by simp [kbEn] at h
  | a :: vs, j, i, v, h => by
    simp only [List.map_cons, lv_args, kbV_cat]
    simp only [kbEn] at h
    by_cases hc : a.category = 2
    · simp only [hc, if_true] at h ⊢
      match i, h with
      | 0, h => simp at h; subst h; exact List.mem_cons_self
      | 1, h => simp at h
      | i + 2, h =>
        simp at h
        have := kbEn_at E vs (j + 2) i v h
        rw [show j + (i + 2) = j + 2 + i by omega]
        exact List.mem_cons_of_mem _ this
    · simp only [hc, if_false] at h ⊢
      match i, h with
      | 0, h => simp at h; subst h; exact List.mem_cons_self
      | i + 1, h =>
        simp at h
        have := kbEn_at E vs (j + 1) i v h
        rw [show j + (i + 1) = j + 1 + i by omega]
        exact List.mem_cons_of_mem _ this
theorem kb_enter {l : Launch} {M : kbMt} {d : Nat} {av : List Value} {μ : kbM} {Q : kbQt} (k : Nat) (hp : plainName M.1.cls = true) (hk : (kbEn av).length + k = M.2.2.1)
    (h : kbR l M d Q 0 (kbEn av ++ List.replicate k none) [] μ) : kbS l M d av μ Q := by
  intro E sz
  refine Met.ofW (cc := M.2.1) (maxL := M.2.2.1) (ret := M.2.2.2) hp rfl ?_
  intro p e s m args below meth c s₁ B hml hv
  obtain ⟨rfl, hsz, hP, hK, hJ, hT, hSt⟩ := hv
  subst hsz
  have hl := lv_entry (av.map (kbV E)) (n := M.2.2.1) (by rw [kbEn_len]; omega)
  rw [lg_entry_eq]
  refine h E p e s m _ below meth c ⟨B.exec, B.bytes, hml, B.returns, B.notSynchronized, findClass_of_methodNamed B.named, atoms_spec (ws := kbWd M) B.pre, hK, hJ, hT, hSt⟩ s.heap [] _ hP va_S.rf ⟨by simp; omega, hl.1, hl.2.1, fun i v hi => ?_⟩
  by_cases hlt : i < (kbEn av).length
  · rw [List.getElem?_append_left hlt] at hi
    have := kbEn_at E av 0 i v hi
    rw [Nat.zero_add] at this
    exact hl.2.2 _ this
  · rw [List.getElem?_append_right (by omega)] at hi
    by_cases h2 : i - (kbEn av).length < k
    · rw [List.getElem?_replicate] at hi
      simp [h2] at hi
    · rw [List.getElem?_replicate] at hi
      simp [h2] at hi
section Rows
variable {l : Launch} {M : kbMt} {d : Nat} {Q : kbQt} {pc : Nat} {L : List (Option Value)} {st : List Value} {μ : kbM}
theorem r_iconst {n : Int} (v : Int32) (hd : decode M.2.1 pc = .ok (.iconst n, 1)) (hv : Int32.ofInt n = v) (k : kbR l M d Q (pc + 1) L (.int v :: st) μ) : kbR l M d Q pc L st μ := by
  intro E p e s m args below meth c C H locs ls hP hS hL
  exact lv_iconst C.1 C.2.1 hd hv (k E p e s m args below meth c C H locs ls hP hS hL)
theorem r_bipush {n : Int} (v : Int32) (hd : decode M.2.1 pc = .ok (.bipush n, 2)) (hv : (Int8.ofInt n).toInt32 = v) (k : kbR l M d Q (pc + 2) L (.int v :: st) μ) : kbR l M d Q pc L st μ := by
  intro E p e s m args below meth c C H locs ls hP hS hL
  exact lv_bipush C.1 C.2.1 hd hv (k E p e s m args below meth c C H locs ls hP hS hL)
theorem r_sipush {n : Int} (v : Int32) (hd : decode M.2.1 pc = .ok (.sipush n, 3)) (hv : (Int16.ofInt n).toInt32 = v) (k : kbR l M d Q (pc + 3) L (.int v :: st) μ) : kbR l M d Q pc L st μ := by
  intro E p e s m args below meth c C H locs ls hP hS hL
  exact lv_sipush C.1 C.2.1 hd hv (k E p e s m args below meth c C H locs ls hP hS hL)
theorem r_lconst {n : Fin 2} (v : Int64) (hd : decode M.2.1 pc = .ok (.lconst n, 1)) (hv : Int64.ofNat (n : Nat) = v) (k : kbR l M d Q (pc + 1) L (.long v :: st) μ) : kbR l M d Q pc L st μ := by
  intro E p e s m args below meth c C H locs ls hP hS hL
  exact lv_lconst C.1 C.2.1 hd hv (k E p e s m args below meth c C H locs ls hP hS hL)
theorem r_ldc {i : Nat} (v : Int32) (hw : Cond.constant M.1.cls i v ∈ kbT) (hd : decode M.2.1 pc = .ok (.ldc i, 2)) (k : kbR l M d Q (pc + 2) L (.int v :: st) μ) : kbR l M d Q pc L st μ := by
  intro E p e s m args below meth c C H locs ls hP hS hL
  exact lv_ldc C.1 C.2.1 C.2.2.2.2.2.1 (C.2.2.2.2.2.2.1 _ (List.mem_cons_of_mem _ hw)) hd (k E p e s m args below meth c C H locs ls hP hS hL)
theorem r_ldcw {i : Nat} (v : Int32) (hw : Cond.constant M.1.cls i v ∈ kbT) (hd : decode M.2.1 pc = .ok (.ldc_w i, 3)) (k : kbR l M d Q (pc + 3) L (.int v :: st) μ) : kbR l M d Q pc L st μ := by
  intro E p e s m args below meth c C H locs ls hP hS hL
  exact lv_ldcw C.1 C.2.1 C.2.2.2.2.2.1 (C.2.2.2.2.2.2.1 _ (List.mem_cons_of_mem _ hw)) hd (k E p e s m args below meth c C H locs ls hP hS hL)
theorem r_ldc2 {i : Nat} (v : Int64) (hw : Cond.constantLong M.1.cls i v ∈ kbT) (hd : decode M.2.1 pc = .ok (.ldc2_w i, 3)) (k : kbR l M d Q (pc + 3) L (.long v :: st) μ) : kbR l M d Q pc L st μ := by
  intro E p e s m args below meth c C H locs ls hP hS hL
  exact lv_ldc2 C.1 C.2.1 C.2.2.2.2.2.1 (C.2.2.2.2.2.2.1 _ (List.mem_cons_of_mem _ hw)) hd (k E p e s m args below meth c C H locs ls hP hS hL)
theorem r_iload_n {j : Fin 4} {x : Int32} (hd : decode M.2.1 pc = .ok (.iload_n j, 1)) (hx : L[(j : Nat)]? = some (some (.int x))) (k : kbR l M d Q (pc + 1) L (.int x :: st) μ) : kbR l M d Q pc L st μ := by
  intro E p e s m args below meth c C H locs ls hP hS hL
  exact lv_iload_n C.1 C.2.1 hd rfl (hL.2.2.2 _ _ hx) (k E p e s m args below meth c C H locs ls hP hS hL)
theorem r_iload {j : Nat} {x : Int32} (hd : decode M.2.1 pc = .ok (.iload j, 2)) (hx : L[j]? = some (some (.int x))) (k : kbR l M d Q (pc + 2) L (.int x :: st) μ) : kbR l M d Q pc L st μ := by
  intro E p e s m args below meth c C H locs ls hP hS hL
  exact lv_iload C.1 C.2.1 hd (hL.2.2.2 _ _ hx) (k E p e s m args below meth c C H locs ls hP hS hL)
theorem r_lload_n {j : Fin 4} {x : Int64} (hd : decode M.2.1 pc = .ok (.lload_n j, 1)) (hx : L[(j : Nat)]? = some (some (.long x))) (k : kbR l M d Q (pc + 1) L (.long x :: st) μ) : kbR l M d Q pc L st μ := by
  intro E p e s m args below meth c C H locs ls hP hS hL
  exact lv_lload_n C.1 C.2.1 hd rfl (hL.2.2.2 _ _ hx) (k E p e s m args below meth c C H locs ls hP hS hL)
theorem r_lload {j : Nat} {x : Int64} (hd : decode M.2.1 pc = .ok (.lload j, 2)) (hx : L[j]? = some (some (.long x))) (k : kbR l M d Q (pc + 2) L (.long x :: st) μ) : kbR l M d Q pc L st μ := by
  intro E p e s m args below meth c C H locs ls hP hS hL
  exact lv_lload C.1 C.2.1 hd (hL.2.2.2 _ _ hx) (k E p e s m args below meth c C H locs ls hP hS hL)
theorem r_aload_n {j : Fin 4} {x : Nat} (hd : decode M.2.1 pc = .ok (.aload_n j, 1)) (hx : L[(j : Nat)]? = some (some (.ref x))) (k : kbR l M d Q (pc + 1) L (.ref x :: st) μ) : kbR l M d Q pc L st μ := by
  intro E p e s m args below meth c C H locs ls hP hS hL
  exact lv_aload_n C.1 C.2.1 hd rfl (hL.2.2.2 _ _ hx) (k E p e s m args below meth c C H locs ls hP hS hL)
theorem r_aload {j : Nat} {x : Nat} (hd : decode M.2.1 pc = .ok (.aload j, 2)) (hx : L[j]? = some (some (.ref x))) (k : kbR l M d Q (pc + 2) L (.ref x :: st) μ) : kbR l M d Q pc L st μ := by
  intro E p e s m args below meth c C H locs ls hP hS hL
  exact lv_aload C.1 C.2.1 hd (hL.2.2.2 _ _ hx) (k E p e s m args below meth c C H locs ls hP hS hL)
theorem r_istore_n {j : Fin 4} {x : Int32} (hd : decode M.2.1 pc = .ok (.istore_n j, 1)) (hn : (j : Nat) < M.2.2.1) (hno : kbNo L j = true) (k : kbR l M d Q (pc + 1) (L.set j (some (.int x))) st μ) : kbR l M d Q pc L (.int x :: st) μ := by
  intro E p e s m args below meth c C H locs ls hP hS hL
  exact lv_istore_n C.1 C.2.1 hd rfl hL.has hn rfl fun ls' h' => k E p e s m args below meth c C H locs ls' hP hS (kbL.store1 (v := .int x) hL.1 hn hno h')
theorem r_istore {j : Nat} {x : Int32} (hd : decode M.2.1 pc = .ok (.istore j, 2)) (hn : j < M.2.2.1) (hno : kbNo L j = true) (k : kbR l M d Q (pc + 2) (L.set j (some (.int x))) st μ) : kbR l M d Q pc L (.int x :: st) μ := by
  intro E p e s m args below meth c C H locs ls hP hS hL
  exact lv_istore C.1 C.2.1 hd hL.has hn rfl fun ls' h' => k E p e s m args below meth c C H locs ls' hP hS (kbL.store1 (v := .int x) hL.1 hn hno h')
theorem r_astore_n {j : Fin 4} {x : Nat} (hd : decode M.2.1 pc = .ok (.astore_n j, 1)) (hn : (j : Nat) < M.2.2.1) (hno : kbNo L j = true) (k : kbR l M d Q (pc + 1) (L.set j (some (.ref x))) st μ) : kbR l M d Q pc L (.ref x :: st) μ := by
  intro E p e s m args below meth c C H locs ls hP hS hL
  exact lv_astore_n C.1 C.2.1 hd rfl hL.has hn rfl fun ls' h' => k E p e s m args below meth c C H locs ls' hP hS (kbL.store1 (v := .ref x) hL.1 hn hno h')
theorem r_astore {j : Nat} {x : Nat} (hd : decode M.2.1 pc = .ok (.astore j, 2)) (hn : j < M.2.2.1) (hno : kbNo L j = true) (k : kbR l M d Q (pc + 2) (L.set j (some (.ref x))) st μ) : kbR l M d Q pc L (.ref x :: st) μ := by
  intro E p e s m args below meth c C H locs ls hP hS hL
  exact lv_astore C.1 C.2.1 hd hL.has hn rfl fun ls' h' => k E p e s m args below meth c C H locs ls' hP hS (kbL.store1 (v := .ref x) hL.1 hn hno h')
theorem r_lstore_n {j : Fin 4} {x : Int64} (hd : decode M.2.1 pc = .ok (.lstore_n j, 1)) (hn : (j : Nat) + 1 < M.2.2.1) (hno : kbNo L j = true) (k : kbR l M d Q (pc + 1) ((L.set j (some (.long x))).set (j + 1) none) st μ) : kbR l M d Q pc L (.long x :: st) μ := by
  intro E p e s m args below meth c C H locs ls hP hS hL
  exact lv_lstore_n C.1 C.2.1 hd rfl hL.has hn rfl fun ls' h' => k E p e s m args below meth c C H locs ls' hP hS (kbL.store2 (v := .long x) hL.1 hn hno h')
theorem r_lstore {j : Nat} {x : Int64} (hd : decode M.2.1 pc = .ok (.lstore j, 2)) (hn : j + 1 < M.2.2.1) (hno : kbNo L j = true) (k : kbR l M d Q (pc + 2) ((L.set j (some (.long x))).set (j + 1) none) st μ) : kbR l M d Q pc L (.long x :: st) μ := by
  intro E p e s m args below meth c C H locs ls hP hS hL
  exact lv_lstore C.1 C.2.1 hd hL.has hn rfl fun ls' h' => k E p e s m args below meth c C H locs ls' hP hS (kbL.store2 (v := .long x) hL.1 hn hno h')
theorem r_iinc {j : Nat} {n : Int} {x : Int32} (w : Int32) (hd : decode M.2.1 pc = .ok (.iinc j n, 3)) (hx : L[j]? = some (some (.int x))) (hw : Int32.ofInt n = w) (hn : j < M.2.2.1) (hno : kbNo L j = true) (k : kbR l M d Q (pc + 3) (L.set j (some (.int (x + w)))) st μ) : kbR l M d Q pc L st μ := by
  intro E p e s m args below meth c C H locs ls hP hS hL
  obtain ⟨q, hq⟩ := List.getElem?_of_mem (kbAs_mem (E := E) hx)
  exact lv_iinc (v := x + w) C.1 C.2.1 hd hL.has hq (by rw [hw]) hn rfl fun ls' h' => k E p e s m args below meth c C H locs ls' hP hS (kbL.store1 (v := .int (x + w)) hL.1 hn hno h')
/-- a local that is dead is forgotten -/
theorem r_drop {L' : List (Option Value)} (hl : L'.length = L.length) (h : ∀ (i : Nat) (v : Value), L'[i]? = some (some v) → L[i]? = some (some v)) (k : kbR l M d Q pc L' st μ) : kbR l M d Q pc L st μ := by
  intro E p e s m args below meth c C H locs ls hP hS hL
  exact k E p e s m args below meth c C H locs ls hP hS ⟨hl.trans hL.1, hL.2.1, hL.2.2.1, fun i v hi => hL.2.2.2 i v (h i v hi)⟩
theorem r_iadd {x y : Int32} (hd : decode M.2.1 pc = .ok (.iadd, 1)) (k : kbR l M d Q (pc + 1) L (.int (x + y) :: st) μ) : kbR l M d Q pc L (.int y :: .int x :: st) μ := by
  intro E p e s m args below meth c C H locs ls hP hS hL
  exact lv_iadd C.1 C.2.1 hd (k E p e s m args below meth c C H locs ls hP hS hL)
theorem r_isub {x y : Int32} (hd : decode M.2.1 pc = .ok (.isub, 1)) (k : kbR l M d Q (pc + 1) L (.int (x - y) :: st) μ) : kbR l M d Q pc L (.int y :: .int x :: st) μ := by
  intro E p e s m args below meth c C H locs ls hP hS hL
  exact lv_isub C.1 C.2.1 hd (k E p e s m args below meth c C H locs ls hP hS hL)
theorem r_imul {x y : Int32} (hd : decode M.2.1 pc = .ok (.imul, 1)) (k : kbR l M d Q (pc + 1) L (.int (x * y) :: st) μ) : kbR l M d Q pc L (.int y :: .int x :: st) μ := by
  intro E p e s m args below meth c C H locs ls hP hS hL
  exact lv_imul C.1 C.2.1 hd (k E p e s m args below meth c C H locs ls hP hS hL)
theorem r_iand {x y : Int32} (hd : decode M.2.1 pc = .ok (.iand, 1)) (k : kbR l M d Q (pc + 1) L (.int (x &&& y) :: st) μ) : kbR l M d Q pc L (.int y :: .int x :: st) μ := by
  intro E p e s m args below meth c C H locs ls hP hS hL
  exact lv_iand C.1 C.2.1 hd (k E p e s m args below meth c C H locs ls hP hS hL)
theorem r_ior {x y : Int32} (hd : decode M.2.1 pc = .ok (.ior, 1)) (k : kbR l M d Q (pc + 1) L (.int (x ||| y) :: st) μ) : kbR l M d Q pc L (.int y :: .int x :: st) μ := by
  intro E p e s m args below meth c C H locs ls hP hS hL
  exact lv_ior C.1 C.2.1 hd (k E p e s m args below meth c C H locs ls hP hS hL)
theorem r_ixor {x y : Int32} (hd : decode M.2.1 pc = .ok (.ixor, 1)) (k : kbR l M d Q (pc + 1) L (.int (x ^^^ y) :: st) μ) : kbR l M d Q pc L (.int y :: .int x :: st) μ := by
  intro E p e s m args below meth c C H locs ls hP hS hL
  exact lv_ixor C.1 C.2.1 hd (k E p e s m args below meth c C H locs ls hP hS hL)
theorem r_idiv {x y : Int32} (hd : decode M.2.1 pc = .ok (.idiv, 1)) (hne : ¬ y = 0) (k : kbR l M d Q (pc + 1) L (.int (x / y) :: st) μ) : kbR l M d Q pc L (.int y :: .int x :: st) μ := by
  intro E p e s m args below meth c C H locs ls hP hS hL
  exact lv_idiv C.1 C.2.1 hd hne (k E p e s m args below meth c C H locs ls hP hS hL)
theorem r_irem {x y : Int32} (hd : decode M.2.1 pc = .ok (.irem, 1)) (hne : ¬ y = 0) (k : kbR l M d Q (pc + 1) L (.int (x - x / y * y) :: st) μ) : kbR l M d Q pc L (.int y :: .int x :: st) μ := by
  intro E p e s m args below meth c C H locs ls hP hS hL
  exact lv_irem C.1 C.2.1 hd hne (k E p e s m args below meth c C H locs ls hP hS hL)
theorem r_ishl {x y : Int32} (hd : decode M.2.1 pc = .ok (.ishl, 1)) (k : kbR l M d Q (pc + 1) L (.int (x <<< (y &&& 31)) :: st) μ) : kbR l M d Q pc L (.int y :: .int x :: st) μ := by
  intro E p e s m args below meth c C H locs ls hP hS hL
  exact lv_ishl C.1 C.2.1 hd (k E p e s m args below meth c C H locs ls hP hS hL)
theorem r_ishr {x y : Int32} (hd : decode M.2.1 pc = .ok (.ishr, 1)) (k : kbR l M d Q (pc + 1) L (.int (x >>> (y &&& 31)) :: st) μ) : kbR l M d Q pc L (.int y :: .int x :: st) μ := by
  intro E p e s m args below meth c C H locs ls hP hS hL
  exact lv_ishr C.1 C.2.1 hd (k E p e s m args below meth c C H locs ls hP hS hL)
theorem r_ladd {x y : Int64} (hd : decode M.2.1 pc = .ok (.ladd, 1)) (k : kbR l M d Q (pc + 1) L (.long (x + y) :: st) μ) : kbR l M d Q pc L (.long y :: .long x :: st) μ := by
  intro E p e s m args below meth c C H locs ls hP hS hL
  exact lv_ladd C.1 C.2.1 hd (k E p e s m args below meth c C H locs ls hP hS hL)
theorem r_lsub {x y : Int64} (hd : decode M.2.1 pc = .ok (.lsub, 1)) (k : kbR l M d Q (pc + 1) L (.long (x - y) :: st) μ) : kbR l M d Q pc L (.long y :: .long x :: st) μ := by
  intro E p e s m args below meth c C H locs ls hP hS hL
  exact lv_lsub C.1 C.2.1 hd (k E p e s m args below meth c C H locs ls hP hS hL)
theorem r_iushr {x y : Int32} (hd : decode M.2.1 pc = .ok (.iushr, 1)) (k : kbR l M d Q (pc + 1) L (.int (x.toUInt32 >>> (y.toUInt32 &&& Int32.toUInt32 31)).toInt32 :: st) μ) : kbR l M d Q pc L (.int y :: .int x :: st) μ := by
  intro E p e s m args below meth c C H locs ls hP hS hL
  exact lv_iushr C.1 C.2.1 hd rfl (k E p e s m args below meth c C H locs ls hP hS hL)
theorem r_ineg {x : Int32} (hd : decode M.2.1 pc = .ok (.ineg, 1)) (k : kbR l M d Q (pc + 1) L (.int (-x) :: st) μ) : kbR l M d Q pc L (.int x :: st) μ := by
  intro E p e s m args below meth c C H locs ls hP hS hL
  exact lv_ineg C.1 C.2.1 hd (k E p e s m args below meth c C H locs ls hP hS hL)
theorem r_i2l {x : Int32} (hd : decode M.2.1 pc = .ok (.i2l, 1)) (k : kbR l M d Q (pc + 1) L (.long x.toInt64 :: st) μ) : kbR l M d Q pc L (.int x :: st) μ := by
  intro E p e s m args below meth c C H locs ls hP hS hL
  exact lv_i2l C.1 C.2.1 hd rfl (k E p e s m args below meth c C H locs ls hP hS hL)
theorem r_i2b {x : Int32} (hd : decode M.2.1 pc = .ok (.i2b, 1)) (k : kbR l M d Q (pc + 1) L (.int x.toInt8.toInt32 :: st) μ) : kbR l M d Q pc L (.int x :: st) μ := by
  intro E p e s m args below meth c C H locs ls hP hS hL
  exact lv_i2b C.1 C.2.1 hd rfl (k E p e s m args below meth c C H locs ls hP hS hL)
theorem r_i2c {x : Int32} (hd : decode M.2.1 pc = .ok (.i2c, 1)) (k : kbR l M d Q (pc + 1) L (.int (x.toUInt32 % 65536).toInt32 :: st) μ) : kbR l M d Q pc L (.int x :: st) μ := by
  intro E p e s m args below meth c C H locs ls hP hS hL
  exact lv_i2c C.1 C.2.1 hd rfl (k E p e s m args below meth c C H locs ls hP hS hL)
theorem r_lcmp {x y : Int64} (hd : decode M.2.1 pc = .ok (.lcmp, 1)) (k : kbR l M d Q (pc + 1) L (.int (lg_cmp x y) :: st) μ) : kbR l M d Q pc L (.long y :: .long x :: st) μ := by
  intro E p e s m args below meth c C H locs ls hP hS hL
  exact W.lcmp C.1 C.2.1 hd (k E p e s m args below meth c C H locs ls hP hS hL)
theorem r_dup {v : Value} (hd : decode M.2.1 pc = .ok (.dup, 1)) (hc : v.category = 1) (k : kbR l M d Q (pc + 1) L (v :: v :: st) μ) : kbR l M d Q pc L (v :: st) μ := by
  intro E p e s m args below meth c C H locs ls hP hS hL
  exact lv_dup C.1 C.2.1 hd (by rw [kbV_cat]; exact hc) (k E p e s m args below meth c C H locs ls hP hS hL)
theorem r_pop {v : Value} (hd : decode M.2.1 pc = .ok (.pop, 1)) (hc : v.category = 1) (k : kbR l M d Q (pc + 1) L st μ) : kbR l M d Q pc L (v :: st) μ := by
  intro E p e s m args below meth c C H locs ls hP hS hL
  exact lv_pop C.1 C.2.1 hd (by rw [kbV_cat]; exact hc) (k E p e s m args below meth c C H locs ls hP hS hL)
theorem r_dup2 {v w : Value} (hd : decode M.2.1 pc = .ok (.dup2, 1)) (hc : v.category = 1) (hw : w.category = 1) (k : kbR l M d Q (pc + 1) L (v :: w :: v :: w :: st) μ) : kbR l M d Q pc L (v :: w :: st) μ := by
  intro E p e s m args below meth c C H locs ls hP hS hL
  exact lv_dup2_11 C.1 C.2.1 hd (by rw [kbV_cat]; exact hc) (by rw [kbV_cat]; exact hw) (k E p e s m args below meth c C H locs ls hP hS hL)
theorem r_goto {off : Int} (t : Nat) (hd : decode M.2.1 pc = .ok (.goto off, 3)) (ht : (pc : Int) + off = (t : Int)) (k : kbR l M d Q t L st μ) : kbR l M d Q pc L st μ := by
  intro E p e s m args below meth c C H locs ls hP hS hL
  exact lv_goto C.1 C.2.1 hd ht (k E p e s m args below meth c C H locs ls hP hS hL)
theorem r_if_eq {x : Int32} {off : Int} (t : Nat) (hd : decode M.2.1 pc = .ok (.ifCond .eq off, 3)) (ht : (pc : Int) + off = (t : Int)) (kt : x = 0 → kbR l M d Q t L st μ) (kf : ¬ (x = 0) → kbR l M d Q (pc + 3) L st μ) : kbR l M d Q pc L (.int x :: st) μ := by
  intro E p e s m args below meth c C H locs ls hP hS hL
  exact lv_if_eq C.1 C.2.1 hd ht (fun h => kt h E p e s m args below meth c C H locs ls hP hS hL) (fun h => kf h E p e s m args below meth c C H locs ls hP hS hL)
theorem r_icmp_eq {x y : Int32} {off : Int} (t : Nat) (hd : decode M.2.1 pc = .ok (.if_icmp .eq off, 3)) (ht : (pc : Int) + off = (t : Int)) (kt : x = y → kbR l M d Q t L st μ) (kf : ¬ (x = y) → kbR l M d Q (pc + 3) L st μ) : kbR l M d Q pc L (.int y :: .int x :: st) μ := by
  intro E p e s m args below meth c C H locs ls hP hS hL
  exact lv_icmp_eq C.1 C.2.1 hd ht (fun h => kt h E p e s m args below meth c C H locs ls hP hS hL) (fun h => kf h E p e s m args below meth c C H locs ls hP hS hL)
theorem r_if_ne {x : Int32} {off : Int} (t : Nat) (hd : decode M.2.1 pc = .ok (.ifCond .ne off, 3)) (ht : (pc : Int) + off = (t : Int)) (kt : ¬ x = 0 → kbR l M d Q t L st μ) (kf : x = 0 → kbR l M d Q (pc + 3) L st μ) : kbR l M d Q pc L (.int x :: st) μ := by
  intro E p e s m args below meth c C H locs ls hP hS hL
  exact lv_if_ne C.1 C.2.1 hd ht (fun h => kt h E p e s m args below meth c C H locs ls hP hS hL) (fun h => kf h E p e s m args below meth c C H locs ls hP hS hL)
theorem r_icmp_ne {x y : Int32} {off : Int} (t : Nat) (hd : decode M.2.1 pc = .ok (.if_icmp .ne off, 3)) (ht : (pc : Int) + off = (t : Int)) (kt : ¬ x = y → kbR l M d Q t L st μ) (kf : x = y → kbR l M d Q (pc + 3) L st μ) : kbR l M d Q pc L (.int y :: .int x :: st) μ := by
  intro E p e s m args below meth c C H locs ls hP hS hL
  exact lv_icmp_ne C.1 C.2.1 hd ht (fun h => kt h E p e s m args below meth c C H locs ls hP hS hL) (fun h => kf h E p e s m args below meth c C H locs ls hP hS hL)
theorem r_if_lt {x : Int32} {off : Int} (t : Nat) (hd : decode M.2.1 pc = .ok (.ifCond .lt off, 3)) (ht : (pc : Int) + off = (t : Int)) (kt : x < 0 → kbR l M d Q t L st μ) (kf : ¬ (x < 0) → kbR l M d Q (pc + 3) L st μ) : kbR l M d Q pc L (.int x :: st) μ := by
  intro E p e s m args below meth c C H locs ls hP hS hL
  exact lv_if_lt C.1 C.2.1 hd ht (fun h => kt h E p e s m args below meth c C H locs ls hP hS hL) (fun h => kf h E p e s m args below meth c C H locs ls hP hS hL)
theorem r_icmp_lt {x y : Int32} {off : Int} (t : Nat) (hd : decode M.2.1 pc = .ok (.if_icmp .lt off, 3)) (ht : (pc : Int) + off = (t : Int)) (kt : x < y → kbR l M d Q t L st μ) (kf : ¬ (x < y) → kbR l M d Q (pc + 3) L st μ) : kbR l M d Q pc L (.int y :: .int x :: st) μ := by
  intro E p e s m args below meth c C H locs ls hP hS hL
  exact lv_icmp_lt C.1 C.2.1 hd ht (fun h => kt h E p e s m args below meth c C H locs ls hP hS hL) (fun h => kf h E p e s m args below meth c C H locs ls hP hS hL)
theorem r_if_ge {x : Int32} {off : Int} (t : Nat) (hd : decode M.2.1 pc = .ok (.ifCond .ge off, 3)) (ht : (pc : Int) + off = (t : Int)) (kt : 0 ≤ x → kbR l M d Q t L st μ) (kf : ¬ (0 ≤ x) → kbR l M d Q (pc + 3) L st μ) : kbR l M d Q pc L (.int x :: st) μ := by
  intro E p e s m args below meth c C H locs ls hP hS hL
  exact lv_if_ge C.1 C.2.1 hd ht (fun h => kt h E p e s m args below meth c C H locs ls hP hS hL) (fun h => kf h E p e s m args below meth c C H locs ls hP hS hL)
theorem r_icmp_ge {x y : Int32} {off : Int} (t : Nat) (hd : decode M.2.1 pc = .ok (.if_icmp .ge off, 3)) (ht : (pc : Int) + off = (t : Int)) (kt : y ≤ x → kbR l M d Q t L st μ) (kf : ¬ (y ≤ x) → kbR l M d Q (pc + 3) L st μ) : kbR l M d Q pc L (.int y :: .int x :: st) μ := by
  intro E p e s m args below meth c C H locs ls hP hS hL
  exact lv_icmp_ge C.1 C.2.1 hd ht (fun h => kt h E p e s m args below meth c C H locs ls hP hS hL) (fun h => kf h E p e s m args below meth c C H locs ls hP hS hL)
theorem r_if_gt {x : Int32} {off : Int} (t : Nat) (hd : decode M.2.1 pc = .ok (.ifCond .gt off, 3)) (ht : (pc : Int) + off = (t : Int)) (kt : 0 < x → kbR l M d Q t L st μ) (kf : ¬ (0 < x) → kbR l M d Q (pc + 3) L st μ) : kbR l M d Q pc L (.int x :: st) μ := by
  intro E p e s m args below meth c C H locs ls hP hS hL
  exact lv_if_gt C.1 C.2.1 hd ht (fun h => kt h E p e s m args below meth c C H locs ls hP hS hL) (fun h => kf h E p e s m args below meth c C H locs ls hP hS hL)
theorem r_icmp_gt {x y : Int32} {off : Int} (t : Nat) (hd : decode M.2.1 pc = .ok (.if_icmp .gt off, 3)) (ht : (pc : Int) + off = (t : Int)) (kt : y < x → kbR l M d Q t L st μ) (kf : ¬ (y < x) → kbR l M d Q (pc + 3) L st μ) : kbR l M d Q pc L (.int y :: .int x :: st) μ := by
  intro E p e s m args below meth c C H locs ls hP hS hL
  exact lv_icmp_gt C.1 C.2.1 hd ht (fun h => kt h E p e s m args below meth c C H locs ls hP hS hL) (fun h => kf h E p e s m args below meth c C H locs ls hP hS hL)
theorem r_if_le {x : Int32} {off : Int} (t : Nat) (hd : decode M.2.1 pc = .ok (.ifCond .le off, 3)) (ht : (pc : Int) + off = (t : Int)) (kt : x ≤ 0 → kbR l M d Q t L st μ) (kf : ¬ (x ≤ 0) → kbR l M d Q (pc + 3) L st μ) : kbR l M d Q pc L (.int x :: st) μ := by
  intro E p e s m args below meth c C H locs ls hP hS hL
  exact lv_if_le C.1 C.2.1 hd ht (fun h => kt h E p e s m args below meth c C H locs ls hP hS hL) (fun h => kf h E p e s m args below meth c C H locs ls hP hS hL)
theorem r_icmp_le {x y : Int32} {off : Int} (t : Nat) (hd : decode M.2.1 pc = .ok (.if_icmp .le off, 3)) (ht : (pc : Int) + off = (t : Int)) (kt : x ≤ y → kbR l M d Q t L st μ) (kf : ¬ (x ≤ y) → kbR l M d Q (pc + 3) L st μ) : kbR l M d Q pc L (.int y :: .int x :: st) μ := by
  intro E p e s m args below meth c C H locs ls hP hS hL
  exact lv_icmp_le C.1 C.2.1 hd ht (fun h => kt h E p e s m args below meth c C H locs ls hP hS hL) (fun h => kf h E p e s m args below meth c C H locs ls hP hS hL)
end Rows
