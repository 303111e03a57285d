/-! FIELDS, ARRAYS, STATICS, RETURNS, CALLS -/
/-- the entry idx of class own's table names field k of class ci -/
def kbFL (own : String) (idx ci k : Nat) (fin : Bool) (ty : FieldType) : Prop := ∃ (C : String) (T : u_T) (N : Nat) (ty0 : Nat → FieldType), vwCl[ci]? = some (C, T, N) ∧ k < N ∧ (∀ w ∈ u_ws C T N, w ∈ kbT) ∧ (∀ j, j < N → parseFieldDescriptor (T j).2.2.1 = some (ty0 j)) ∧
  (∀ a, a < N → ∀ b, b < N → a ≠ b → (T a).2.1 ≠ (T b).2.1) ∧ (T k).2.2.2 = fin ∧ ty0 k = ty ∧ (Cond.fieldLink own idx (T k).1 (T k).2.1 (T k).2.2.1 ∈ kbT ∨ ∃ host, Cond.fieldLinkNest own idx (T k).1 (T k).2.1 (T k).2.2.1 host ∈ kbNF)
/-- the entry idx of class own's table names the method My of n parameters, an instance's -/
def kbCV (own : String) (idx : Nat) (My : kbMt) (n : Nat) : Prop := (∀ w ∈ [Cond.methodLink own idx My.1, .instanceMethod My.1, .selects My.1.cls My.1 My.1, .initialized My.1.cls, .code My.1 My.2.1 My.2.2.1 My.2.2.2], w ∈ kbT) ∧ My.1.cls ≠ "java/lang/invoke/MethodHandle" ∧ My.1.cls ≠ "java/lang/invoke/VarHandle" ∧ (parseMethodDescriptor My.1.desc).map (fun d => d.parameters.length) = some n ∧ My.2.2.1 ≤ 29
/-- .. a static one -/
def kbCS (own : String) (idx : Nat) (My : kbMt) (n : Nat) : Prop := (∀ w ∈ [Cond.methodLink own idx My.1, .static My.1, .initialized My.1.cls, .code My.1 My.2.1 My.2.2.1 My.2.2.2], w ∈ kbT) ∧ My.1.cls ≠ "java/lang/invoke/MethodHandle" ∧ My.1.cls ≠ "java/lang/invoke/VarHandle" ∧ (parseMethodDescriptor My.1.desc).map (fun d => d.parameters.length) = some n ∧ My.2.2.1 ≤ 29
theorem kbT_mem {M : kbMt} {w : Cond} (h : w ∈ kbT) : w ∈ kbWd M := List.mem_cons_of_mem _ h
theorem kbGood {M My : kbMt} {ws : List Cond} (h : ∀ w ∈ ws, w ∈ kbT) (hc : Cond.code My.1 My.2.1 My.2.2.1 My.2.2.2 ∈ kbT) : GoodIn (kbWd M) (ws ++ kbWd My) := by
  intro w hw
  have hk : w ∈ kbT := by
    rcases List.mem_append.mp hw with h1 | h1
    · exact h w h1
    · rcases List.mem_cons.mp h1 with h2 | h2
      · rw [h2]; exact hc
      · exact h2
  exact ⟨kbT_mem hk, good_of_word (kbT_good w hk)⟩
section Heap
variable {l : Launch} {M : kbMt} {d : Nat} {Q : kbQt} {pc : Nat} {L : List (Option Value)} {st : List Value} {μ : kbM}
theorem kbFds {E : kbE} {f : Nat → Int32} {fds : List (Option Nat)} {k : Nat} {fd : Option Nat} (h : fds[k]? = some fd) : (fds.mapIdx (kbFd E f))[k]? = some (kbFd E f k fd) := by
  rw [List.getElem?_mapIdx, h]; rfl
theorem r_getI {idx i ci k : Nat} {fin : Bool} {ty : FieldType} {fds : List (Option Nat)} (hf : kbFL M.1.cls idx ci k fin ty) (hs : kbSh[i]? = some (.inr (ci, fds))) (hk : fds[k]? = some none) (hd : decode M.2.1 pc = .ok (.getfield idx, 3)) (kk : kbR l M d Q (pc + 3) L (.int (μ.1 i k) :: st) μ) : kbR l M d Q pc L (.ref i :: st) μ := by
  intro E p e s m args below meth c C H locs ls hP hS hL
  obtain ⟨Cn, T, N, ty0, h1, h2, h3, -, -, -, -, h5⟩ := hf
  have hin : ∀ w ∈ u_ws Cn T N, w ∈ kbWd M := fun w hw => kbT_mem (h3 w hw)
  have kk' := kk E p e s m args below meth c C H locs ls hP hS hL
  rcases h5 with h5 | ⟨host, h5⟩
  · exact va_get C.1 C.2.1 C.2.2.2.2.2.2.1 hin C.2.2.2.2.2.1 C.2.2.2.2.2.2.2.1 hP i (kbWs_get hs) h1 k h2 (C.2.2.2.2.2.2.1 _ (kbT_mem h5)) (fun _ h => h) (kbFds hk) hd kk'
  · exact va_getN C.1 C.2.1 C.2.2.2.2.2.2.1 hin C.2.2.2.2.2.1 C.2.2.2.2.2.2.2.1 hP i (kbWs_get hs) h1 k h2 (va_Nw.use rfl (C.2.2.2.2.2.2.2.2.2.1.1 _ h5)) (fun _ h => h) (kbFds hk) hd kk'
theorem r_getR {idx i ci k j : Nat} {fin : Bool} {ty : FieldType} {fds : List (Option Nat)} (hf : kbFL M.1.cls idx ci k fin ty) (hs : kbSh[i]? = some (.inr (ci, fds))) (hk : fds[k]? = some (some j)) (hd : decode M.2.1 pc = .ok (.getfield idx, 3)) (kk : kbR l M d Q (pc + 3) L (.ref j :: st) μ) : kbR l M d Q pc L (.ref i :: st) μ := by
  intro E p e s m args below meth c C H locs ls hP hS hL
  obtain ⟨Cn, T, N, ty0, h1, h2, h3, -, -, -, -, h5⟩ := hf
  have hin : ∀ w ∈ u_ws Cn T N, w ∈ kbWd M := fun w hw => kbT_mem (h3 w hw)
  have kk' := kk E p e s m args below meth c C H locs ls hP hS hL
  rcases h5 with h5 | ⟨host, h5⟩
  · exact va_get C.1 C.2.1 C.2.2.2.2.2.2.1 hin C.2.2.2.2.2.1 C.2.2.2.2.2.2.2.1 hP i (kbWs_get hs) h1 k h2 (C.2.2.2.2.2.2.1 _ (kbT_mem h5)) (fun _ h => h) (kbFds hk) hd kk'
  · exact va_getN C.1 C.2.1 C.2.2.2.2.2.2.1 hin C.2.2.2.2.2.1 C.2.2.2.2.2.2.2.1 hP i (kbWs_get hs) h1 k h2 (va_Nw.use rfl (C.2.2.2.2.2.2.2.2.2.1.1 _ h5)) (fun _ h => h) (kbFds hk) hd kk'
theorem kbFd_set {E : kbE} {f : Nat → Int32} {fds : List (Option Nat)} {k : Nat} (h : fds[k]? = some none) (v : Int32) : (fds.mapIdx (kbFd E f)).set k (.int v) = fds.mapIdx (kbFd E (upd f k v)) := by
  apply List.ext_getElem?
  intro j
  have hl : k < (fds.mapIdx (kbFd E f)).length := by rw [List.length_mapIdx]; exact (List.getElem?_eq_some_iff.mp h).1
  by_cases hj : j = k
  · subst hj
    rw [List.getElem?_set_self hl, kbFds h]
    simp [kbFd, upd]
  · rw [List.getElem?_set_ne (Ne.symm hj), List.getElem?_mapIdx, List.getElem?_mapIdx]
    cases fds[j]? with
    | none => rfl
    | some fd => cases fd <;> simp [kbFd, upd, hj]
theorem kbA_self (μ : kbM) (i : Nat) (f : Nat → Int32) : (kbA μ i f).1 i = f := if_pos rfl
theorem kbB_self (μ : kbM) (i : Nat) (f : Nat → Int64) : (kbB μ i f).2 i = f := if_pos rfl
theorem kbWs_A {E : kbE} {μ : kbM} {i : Nat} {c : kbSC} {f : Nat → Int32} (h : kbSh[i]? = some c) : (kbWs E μ).set i (E.1 i, kbCell E f (μ.2 i) c) = kbWs E (kbA μ i f) := by
  have := kbWs_set (E := E) (μ := μ) (μ' := kbA μ i f) h (fun j hj => if_neg hj) (fun j _ => rfl)
  rw [kbA_self] at this
  exact this
theorem kbWs_B {E : kbE} {μ : kbM} {i : Nat} {c : kbSC} {f : Nat → Int64} (h : kbSh[i]? = some c) : (kbWs E μ).set i (E.1 i, kbCell E (μ.1 i) f c) = kbWs E (kbB μ i f) := by
  have := kbWs_set (E := E) (μ := μ) (μ' := kbB μ i f) h (fun j _ => rfl) (fun j hj => if_neg hj)
  rw [kbB_self] at this
  exact this
theorem r_put {idx i ci k : Nat} {ty : FieldType} {fds : List (Option Nat)} {v : Int32} (hf : kbFL M.1.cls idx ci k false ty) (hs : kbSh[i]? = some (.inr (ci, fds))) (hk : fds[k]? = some none) (hn : narrow ty (.int v) = .int v) (hfit : fits ty (.int v) = true) (hd : decode M.2.1 pc = .ok (.putfield idx, 3)) (kk : kbR l M d Q (pc + 3) L st (kbW μ i k v)) : kbR l M d Q pc L (.int v :: .ref i :: st) μ := by
  intro E p e s m args below meth c C H locs ls hP hS hL
  obtain ⟨Cn, T, N, ty0, h1, h2, h3, h6, h7, h8, h9, h5⟩ := hf
  have hin : ∀ w ∈ u_ws Cn T N, w ∈ kbWd M := fun w hw => kbT_mem (h3 w hw)
  have hD := kbDA (μ := μ) (sz := s.heap.size) C.2.2.2.2.2.2.2.2.1
  have hlen : k < (fds.mapIdx (kbFd E (μ.1 i))).length := by rw [List.length_mapIdx]; exact (List.getElem?_eq_some_iff.mp hk).1
  have key : ∀ (H1 : Heap) (locs1 : List Loc), va_P E.2.1 vwCl ((kbWs E μ).set i (E.1 i, .inr (ci, (fds.mapIdx (kbFd E (μ.1 i))).set k (.int v)))) H1 → va_D (kbAE E s.heap.size) ((kbWs E μ).set i (E.1 i, .inr (ci, (fds.mapIdx (kbFd E (μ.1 i))).set k (.int v)))) → va_S (kbAE E s.heap.size) s.heap H1 locs1 → W p l e (kbRm d) s m args below meth c H1 locs1 0 0 (MQ below (kbQ E Q (kbAE E s.heap.size)) args s 0 0 (kbAE E s.heap.size)) (F0 m (pc + 3) ls (st.map (kbV E))) := by
    intro H1 locs1 hP1 _ hS1
    rw [kbFd_set hk] at hP1
    have e1 := kbWs_A (E := E) (μ := μ) (f := upd (μ.1 i) k v) hs
    rw [show (.inr (ci, fds.mapIdx (kbFd E (upd (μ.1 i) k v))) : va_E) = kbCell E (upd (μ.1 i) k v) (μ.2 i) (.inr (ci, fds)) from rfl, e1] at hP1
    exact kk E p e s m args below meth c C H1 locs1 ls hP1 hS1 hL
  have hty : parseFieldDescriptor (T k).2.2.1 = some ty := by rw [h6 k h2, h9]
  rcases h5 with h5 | ⟨host, h5⟩
  · exact va_put C.1 C.2.1 C.2.2.2.2.2.2.1 hin ty0 h6 h7 C.2.2.2.2.2.1 C.2.2.2.2.2.2.2.1 hP hD hS i (kbWs_get hs) h1 k h2 (C.2.2.2.2.2.2.1 _ (kbT_mem h5)) (fun _ h => h) h8 hty hn hfit hlen hd key
  · exact va_putN C.1 C.2.1 C.2.2.2.2.2.2.1 hin ty0 h6 h7 C.2.2.2.2.2.1 C.2.2.2.2.2.2.2.1 hP hD hS i (kbWs_get hs) h1 k h2 (va_Nw.use rfl (C.2.2.2.2.2.2.2.2.2.1.1 _ h5)) (fun _ h => h) h8 hty hn hfit hlen hd key
theorem r_iald {i n : Nat} {rs : List Nat} {j : Int32} (hs : kbSh[i]? = some (.inl (0, n, rs))) (hin : vp_in j n) (hd : decode M.2.1 pc = .ok (.iaload, 1)) (kk : kbR l M d Q (pc + 1) L (.int (μ.1 i j.toNatClampNeg) :: st) μ) : kbR l M d Q pc L (.int j :: .ref i :: st) μ := by
  intro E p e s m args below meth c C H locs ls hP hS hL
  exact va_iald C.1 C.2.1 C.2.2.2.2.2.2.2.1 hP i 0 (kbWs_get hs) rfl hin hd (kk E p e s m args below meth c C H locs ls hP hS hL)
theorem r_zald {i n : Nat} {rs : List Nat} {j : Int32} (hs : kbSh[i]? = some (.inl (2, n, rs))) (hin : vp_in j n) (hd : decode M.2.1 pc = .ok (.baload, 1)) (kk : kbR l M d Q (pc + 1) L (.int (μ.1 i j.toNatClampNeg) :: st) μ) : kbR l M d Q pc L (.int j :: .ref i :: st) μ := by
  intro E p e s m args below meth c C H locs ls hP hS hL
  exact va_zald C.1 C.2.1 C.2.2.2.2.2.2.2.1 hP i 2 (kbWs_get hs) rfl hin hd (kk E p e s m args below meth c C H locs ls hP hS hL)
theorem r_lald {i n : Nat} {rs : List Nat} {j : Int32} (hs : kbSh[i]? = some (.inl (1, n, rs))) (hin : vp_in j n) (hd : decode M.2.1 pc = .ok (.laload, 1)) (kk : kbR l M d Q (pc + 1) L (.long (μ.2 i j.toNatClampNeg) :: st) μ) : kbR l M d Q pc L (.int j :: .ref i :: st) μ := by
  intro E p e s m args below meth c C H locs ls hP hS hL
  exact va_lald C.1 C.2.1 C.2.2.2.2.2.2.2.1 hP i 1 (kbWs_get hs) rfl hin hd (kk E p e s m args below meth c C H locs ls hP hS hL)
theorem r_aald {i n : Nat} {rs : List Nat} {j : Int32} {r : Nat} (hs : kbSh[i]? = some (.inl (3, n, rs))) (hin : vp_in j n) (hr : rs[j.toNatClampNeg]? = some r) (hd : decode M.2.1 pc = .ok (.aaload, 1)) (kk : kbR l M d Q (pc + 1) L (.ref r :: st) μ) : kbR l M d Q pc L (.int j :: .ref i :: st) μ := by
  intro E p e s m args below meth c C H locs ls hP hS hL
  refine va_aldq C.1 C.2.1 C.2.2.2.2.2.2.2.1 hP i 3 (kbWs_get hs) rfl hin hd ?_
  rw [hr]
  exact kk E p e s m args below meth c C H locs ls hP hS hL
theorem r_iast {i n : Nat} {rs : List Nat} {j x : Int32} (hs : kbSh[i]? = some (.inl (0, n, rs))) (hin : vp_in j n) (hd : decode M.2.1 pc = .ok (.iastore, 1)) (kk : kbR l M d Q (pc + 1) L st (kbW μ i j.toNatClampNeg x)) : kbR l M d Q pc L (.int x :: .int j :: .ref i :: st) μ := by
  intro E p e s m args below meth c C H locs ls hP hS hL
  refine va_iast C.1 C.2.1 C.2.2.2.2.2.2.2.1 hP (kbDA C.2.2.2.2.2.2.2.2.1) hS i 0 (kbWs_get hs) rfl hin hd fun H1 locs1 hP1 _ hS1 => ?_
  have e1 := kbWs_A (E := E) (μ := μ) (f := upd (μ.1 i) j.toNatClampNeg x) hs
  exact kk E p e s m args below meth c C H1 locs1 ls (e1 ▸ hP1) hS1 hL
theorem r_zast {i n : Nat} {rs : List Nat} {j x : Int32} (hs : kbSh[i]? = some (.inl (2, n, rs))) (hin : vp_in j n) (hd : decode M.2.1 pc = .ok (.bastore, 1)) (kk : kbR l M d Q (pc + 1) L st (kbW μ i j.toNatClampNeg (vp_nar .boolean x))) : kbR l M d Q pc L (.int x :: .int j :: .ref i :: st) μ := by
  intro E p e s m args below meth c C H locs ls hP hS hL
  refine va_zast C.1 C.2.1 C.2.2.2.2.2.2.2.1 hP (kbDA C.2.2.2.2.2.2.2.2.1) hS i 2 (kbWs_get hs) rfl hin hd fun H1 locs1 hP1 _ hS1 => ?_
  have e1 := kbWs_A (E := E) (μ := μ) (f := upd (μ.1 i) j.toNatClampNeg (vp_nar .boolean x)) hs
  exact kk E p e s m args below meth c C H1 locs1 ls (e1 ▸ hP1) hS1 hL
theorem r_last {i n : Nat} {rs : List Nat} {j : Int32} {x : Int64} (hs : kbSh[i]? = some (.inl (1, n, rs))) (hin : vp_in j n) (hd : decode M.2.1 pc = .ok (.lastore, 1)) (kk : kbR l M d Q (pc + 1) L st (kbX μ i j.toNatClampNeg x)) : kbR l M d Q pc L (.long x :: .int j :: .ref i :: st) μ := by
  intro E p e s m args below meth c C H locs ls hP hS hL
  refine va_last C.1 C.2.1 C.2.2.2.2.2.2.2.1 hP (kbDA C.2.2.2.2.2.2.2.2.1) hS i 1 (kbWs_get hs) rfl hin hd fun H1 locs1 hP1 _ hS1 => ?_
  have e1 := kbWs_B (E := E) (μ := μ) (f := vp_updL (μ.2 i) j.toNatClampNeg x) hs
  exact kk E p e s m args below meth c C H1 locs1 ls (e1 ▸ hP1) hS1 hL
theorem r_alen {i n t : Nat} {rs : List Nat} (v : Int32) (hs : kbSh[i]? = some (.inl (t, n, rs))) (ht : t < 4) (hv : Int32.ofNat n = v) (hd : decode M.2.1 pc = .ok (.arraylength, 1)) (kk : kbR l M d Q (pc + 1) L (.int v :: st) μ) : kbR l M d Q pc L (.ref i :: st) μ := by
  intro E p e s m args below meth c C H locs ls hP hS hL
  have k' := kk E p e s m args below meth c C H locs ls hP hS hL
  match t, ht, hs with
  | 0, _, hs => exact va_alen C.1 C.2.1 C.2.2.2.2.2.2.2.1 hP i 0 (kbWs_get hs) rfl hv hd k'
  | 1, _, hs => exact va_alen C.1 C.2.1 C.2.2.2.2.2.2.2.1 hP i 1 (kbWs_get hs) rfl hv hd k'
  | 2, _, hs => exact va_alen C.1 C.2.1 C.2.2.2.2.2.2.2.1 hP i 2 (kbWs_get hs) rfl hv hd k'
  | 3, _, hs => exact va_alen C.1 C.2.1 C.2.2.2.2.2.2.2.1 hP i 3 (kbWs_get hs) rfl hv hd k'
/-! FIVES; String constants -/
theorem r_fives {idx : Nat} (hw : Cond.fieldLink M.1.cls idx "KnockBook$Rows" "FIVES" "[I" ∈ kbT) (hd : decode M.2.1 pc = .ok (.getstatic idx, 3)) (kk : kbR l M d Q (pc + 3) L (.ref 3000 :: st) μ) : kbR l M d Q pc L st μ := by
  intro E p e s m args below meth c C H locs ls hP hS hL
  exact va_gets C.1 C.2.1 C.2.2.2.2.2.2.2.2.2.2.2.1 hS C.2.2.2.2.2.1 (C.2.2.2.2.2.2.1 _ (kbT_mem hw)) (fun _ h => h) hd (kk E p e s m args below meth c C H locs ls hP hS hL)
theorem r_fivesN {idx : Nat} {host : String} (hw : Cond.fieldLinkNest M.1.cls idx "KnockBook$Rows" "FIVES" "[I" host ∈ kbNF) (hd : decode M.2.1 pc = .ok (.getstatic idx, 3)) (kk : kbR l M d Q (pc + 3) L (.ref 3000 :: st) μ) : kbR l M d Q pc L st μ := by
  intro E p e s m args below meth c C H locs ls hP hS hL
  exact va_getsN C.1 C.2.1 C.2.2.2.2.2.2.2.2.2.2.2.1 hS C.2.2.2.2.2.1 (va_Nw.use rfl (C.2.2.2.2.2.2.2.2.2.1.1 _ hw)) (fun _ h => h) hd (kk E p e s m args below meth c C H locs ls hP hS hL)
theorem r_fald {j : Int32} (hin : vp_in j 13) (hd : decode M.2.1 pc = .ok (.iaload, 1)) (kk : kbR l M d Q (pc + 1) L (.int (kbFv.getD j.toNatClampNeg 0) :: st) μ) : kbR l M d Q pc L (.int j :: .ref 3000 :: st) μ := by
  intro E p e s m args below meth c C H locs ls hP hS hL
  exact va_ti C.1 C.2.1 C.2.2.2.2.2.2.2.2.2.2.2.2.1 hS hin rfl hd (kk E p e s m args below meth c C H locs ls hP hS hL)
theorem r_compact {idx : Nat} (hw : Cond.fieldLink M.1.cls idx "java/lang/String" "COMPACT_STRINGS" "Z" ∈ kbT) (hd : decode M.2.1 pc = .ok (.getstatic idx, 3)) (kk : kbR l M d Q (pc + 3) L (.int 1 :: st) μ) : kbR l M d Q pc L st μ := by
  intro E p e s m args below meth c C H locs ls hP hS hL
  exact va_gets C.1 C.2.1 C.2.2.2.2.2.2.2.2.2.2.2.2.2.1 hS C.2.2.2.2.2.1 (C.2.2.2.2.2.2.1 _ (kbT_mem hw)) (fun _ h => h) hd (kk E p e s m args below meth c C H locs ls hP hS hL)
theorem r_ldcS {idx id : Nat} {tx : String} (hw : (M.1.cls, idx, tx, id) ∈ kbSR) (hd : decode M.2.1 pc = .ok (.ldc idx, 2)) (kk : kbR l M d Q (pc + 2) L (.ref (1000 + id) :: st) μ) : kbR l M d Q pc L st μ := by
  intro E p e s m args below meth c C H locs ls hP hS hL
  exact va_ldcS C.1 C.2.1 C.2.2.2.2.2.1 (C.2.2.2.2.2.2.2.2.2.1.2.2 _ hw) hd (kk E p e s m args below meth c C H locs ls hP hS hL)
theorem r_sval {idx id : Nat} (hi : id < kbTx.length) (hw : Cond.fieldLink M.1.cls idx "java/lang/String" "value" "[B" ∈ kbT) (hd : decode M.2.1 pc = .ok (.getfield idx, 3)) (kk : kbR l M d Q (pc + 3) L (.ref (2000 + id) :: st) μ) : kbR l M d Q pc L (.ref (1000 + id) :: st) μ := by
  intro E p e s m args below meth c C H locs ls hP hS hL
  exact vk_getf C.1 C.2.1 (C.2.2.2.2.2.2.2.2.2.2.1 id hi).2.2.1 hS C.2.2.2.2.2.1 (C.2.2.2.2.2.2.1 _ (kbT_mem hw)) (fun _ h => h) hd (kk E p e s m args below meth c C H locs ls hP hS hL)
theorem r_scod {idx id : Nat} (hi : id < kbTx.length) (hw : Cond.fieldLink M.1.cls idx "java/lang/String" "coder" "B" ∈ kbT) (hd : decode M.2.1 pc = .ok (.getfield idx, 3)) (kk : kbR l M d Q (pc + 3) L (.int 0 :: st) μ) : kbR l M d Q pc L (.ref (1000 + id) :: st) μ := by
  intro E p e s m args below meth c C H locs ls hP hS hL
  exact vk_getf C.1 C.2.1 (C.2.2.2.2.2.2.2.2.2.2.1 id hi).2.1 hS C.2.2.2.2.2.1 (C.2.2.2.2.2.2.1 _ (kbT_mem hw)) (fun _ h => h) hd (kk E p e s m args below meth c C H locs ls hP hS hL)
theorem r_slen {id : Nat} (hi : id < kbTx.length) (hd : decode M.2.1 pc = .ok (.arraylength, 1)) (kk : kbR l M d Q (pc + 1) L (.int (Int32.ofNat (kbTx.getD id []).length) :: st) μ) : kbR l M d Q pc L (.ref (2000 + id) :: st) μ := by
  intro E p e s m args below meth c C H locs ls hP hS hL
  exact va_tlen C.1 C.2.1 (C.2.2.2.2.2.2.2.2.2.2.1 id hi).2.2.2 hS rfl hd (kk E p e s m args below meth c C H locs ls hP hS hL)
theorem r_sald {id : Nat} {j : Int32} (hi : id < kbTx.length) (hin : vp_in j (kbTx.getD id []).length) (hd : decode M.2.1 pc = .ok (.baload, 1)) (kk : kbR l M d Q (pc + 1) L (.int ((kbTx.getD id []).getD j.toNatClampNeg 0) :: st) μ) : kbR l M d Q pc L (.int j :: .ref (2000 + id) :: st) μ := by
  intro E p e s m args below meth c C H locs ls hP hS hL
  exact va_tb C.1 C.2.1 (C.2.2.2.2.2.2.2.2.2.2.1 id hi).2.2.2 hS hin rfl hd (kk E p e s m args below meth c C H locs ls hP hS hL)
/-! returns -/
theorem kbQ_of {E : kbE} {s t : State} {H : Heap} {locs : List Loc} {args : Array Value} {r : Option Value} (hP : va_P E.2.1 vwCl (kbWs E μ) H) (hS : va_S (kbAE E s.heap.size) s.heap H locs) (hq : Q r μ) (ht : t.heap = H) : kbQ E Q (kbAE E s.heap.size) args s (.returned (r.map (kbV E))) t := ⟨r, μ, rfl, hq, by rw [ht]; exact hP, hS.F ht⟩
theorem r_iret {v : Int32} (hr : M.2.2.2 = some .int) (hd : decode M.2.1 pc = .ok (.ireturn, 1)) (hq : Q (some (.int v)) μ) : kbR l M d Q pc L [.int v] μ := by
  intro E p e s m args below meth c C H locs ls hP hS hL
  exact W.iret C.1 C.2.1 (C.2.2.2.1.trans hr) (fun t ht _ => kbQ_of (r := some (.int v)) hP hS hq ht) hS.2.2 hd C.2.2.2.2.1
theorem r_zret {v : Int32} {ty : FieldType} (hr : M.2.2.2 = some ty) (hn : narrow ty (.int v) = .int v) (hd : decode M.2.1 pc = .ok (.ireturn, 1)) (hq : Q (some (.int v)) μ) : kbR l M d Q pc L [.int v] μ := by
  intro E p e s m args below meth c C H locs ls hP hS hL
  exact W.zret C.1 C.2.1 (C.2.2.2.1.trans hr) hn (fun t ht _ => kbQ_of (r := some (.int v)) hP hS hq ht) hS.2.2 hd C.2.2.2.2.1
theorem r_lret {v : Int64} (hr : M.2.2.2 = some .long) (hd : decode M.2.1 pc = .ok (.lreturn, 1)) (hq : Q (some (.long v)) μ) : kbR l M d Q pc L [.long v] μ := by
  intro E p e s m args below meth c C H locs ls hP hS hL
  exact W.lret C.1 C.2.1 (C.2.2.2.1.trans hr) (fun t ht _ => kbQ_of (r := some (.long v)) hP hS hq ht) hS.2.2 hd C.2.2.2.2.1
theorem r_vret (hr : M.2.2.2 = none) (hd : decode M.2.1 pc = .ok (.return_, 1)) (hq : Q none μ) : kbR l M d Q pc L [] μ := by
  intro E p e s m args below meth c C H locs ls hP hS hL
  exact W.vret C.1 C.2.1 (C.2.2.2.1.trans hr) (fun t ht _ => kbQ_of (r := none) hP hS hq ht) hS.2.2 hd C.2.2.2.2.1
/-! calls -/
theorem kbWD_at {E : kbE} {s U : State} {H : Heap} {locs : List Loc} (hP : va_P E.2.1 vwCl (kbWs E μ) H) (hS : va_S (kbAE E s.heap.size) s.heap H locs) (hK : va_K E.2.1 vwCl (kbTys E) s) (hJ : kbJ E) (hT : kbTb E s) (hSt : kbSt E (kbAE E s.heap.size) s s.heap) (hU : U.heap = H) (hW : s.WarmedH U.vm) : kbWD E μ U := by
  refine ⟨by rw [hU]; exact hP, va_K.moved hW.alike hK, hJ, kbTb.warm hW hT, ?_⟩
  have h1 := kbSt.moved hW.alike (hSt.kept hS.2.1)
  rw [hU]
  exact h1.narrow fun q hq => by
    rcases hq with hq | hq
    · exact Or.inl hq
    · exact Or.inr (Nat.le_trans hS.1 hq)
theorem kb_called {E : kbE} {p : Program} {e : Env} {R : Room} {s : State} {m : MethodId} {args : Array Value} {below : List Frame} {meth : Method} {c : Code} {H : Heap} {locs : List Loc} {ls : Array Slot} {st0 rest : List Value} {Qc : kbQt} {a : Array Value} {Q9 : State → Prop}
    (hr : va_Run p l e R s m args below meth c H locs 0 0 0 0 (F0 m pc ls st0) (rest.map (kbV E)) (kbQ E Qc (kbAE E H.size) a) (kbAE E H.size)) (hS : va_S (kbAE E s.heap.size) s.heap H locs)
    (kk : ∀ (r : Option Value) (μ' : kbM) (H1 : Heap) (locs1 : List Loc), Qc r μ' → va_P E.2.1 vwCl (kbWs E μ') H1 → va_S (kbAE E s.heap.size) s.heap H1 locs1 → W p l e R s m args below meth c H1 locs1 0 0 Q9 (F0 m (pc + 3) ls ((r.toList ++ rest).map (kbV E)))) : W p l e R s m args below meth c H locs 0 0 Q9 (F0 m pc ls st0) := by
  intro T hT X
  obtain ⟨v, st₀, t, T', Lc, h0, X', hL, e1, e2, ⟨r, μ', hv, hq, hP, hF⟩, stp⟩ := hr T hT X
  have hv' : v = r.map (kbV E) := by cases hv; rfl
  subst hv'
  have hsub : ∀ q, kbAE E H.size q → kbAE E s.heap.size q := fun q hq => by
    rcases hq with hq | hq
    · exact Or.inl hq
    · exact Or.inr (Nat.le_trans hS.1 hq)
  obtain ⟨f1, f2⟩ := hF
  rw [h0] at f1 f2
  have hS1 : va_S (kbAE E s.heap.size) s.heap T'.heap (locs ++ Lc) := by
    refine ⟨by rw [e1]; exact Nat.le_trans hS.1 f1, fun q h1 h2 => ?_, fun q hq => ?_⟩
    · rw [e1, f2 q (Nat.lt_of_lt_of_le h1 hS.1) (fun z => h2 (hsub q z))]
      exact hS.2.1 q h1 h2
    · rcases List.mem_append.mp hq with h | h
      · exact hS.2.2 q h
      · exact hsub _ (hL q h)
  obtain ⟨t2, a1, b1⟩ := kk r μ' T'.heap (locs ++ Lc) hq (by rw [e1]; exact hP) hS1 T' rfl X'
  refine ⟨t2, stp t2 ?_, b1⟩
  have e3 : (r.toList ++ rest).map (kbV E) = (r.map (kbV E)).toList ++ rest.map (kbV E) := by cases r <;> simp
  rw [e3] at a1
  exact a1
theorem kb_room {d d' n : Nat} (hd : d' + 1 ≤ d) (hn : n ≤ 29) : (kbRm d').frames + 1 ≤ (kbRm d).frames ∧ 8 + (n + 11) + (kbRm d').locals ≤ (kbRm d).locals := by
  refine ⟨hd, ?_⟩
  show 8 + (n + 11) + 48 * d' ≤ 48 * d
  omega
/-- a call of an instance's method: receiver i, a cell of the world -/
theorem r_invV {idx i d' n ci : Nat} {My : kbMt} {As st' : List Value} {Qc : kbQt} {fds : List (Option Nat)} {T : u_T} {N : Nat} (hc : kbCV M.1.cls idx My n) (hs : kbSh[i]? = some (.inr (ci, fds))) (hcl : vwCl[ci]? = some (My.1.cls, T, N)) (hM : kbS l My d' (.ref i :: As) μ Qc) (hst : st' = As.reverse ++ .ref i :: st) (hn : As.length = n) (hr : (st.map fun v => v.category).sum ≤ 8) (hdd : d' + 1 ≤ d) (hd : decode M.2.1 pc = .ok (.invokevirtual idx, 3))
    (kk : ∀ (r : Option Value) (μ' : kbM), Qc r μ' → kbR l M d Q (pc + 3) L (r.toList ++ st) μ') : kbR l M d Q pc L st' μ := by
  subst hst
  intro E p e s m args below meth c C H locs ls hP hS hL
  obtain ⟨hx, hb, hml, hrt, hlk, hown, hts, hK, hJ, hTb, hSt⟩ := (fun z => z) C
  obtain ⟨h1, h2, h3, h4, h5⟩ := hc
  have hG : GoodIn (kbWd M) (wsV M.1.cls idx My.1.cls My.1 (kbWd My)) := by
    have := kbGood (M := M) (My := My) (ws := [Cond.methodLink M.1.cls idx My.1, .instanceMethod My.1, .selects My.1.cls My.1 My.1, .initialized My.1.cls]) (fun w hw => h1 w (List.mem_append_left [Cond.code My.1 My.2.1 My.2.2.1 My.2.2.2] hw)) (h1 _ (List.mem_of_getElem? (i := 4) rfl))
    exact this
  have hrm := kb_room hdd h5
  rw [show ((As.reverse ++ Value.ref i :: st).map (kbV E)) = (As.map (kbV E)).reverse ++ .ref (E.1 i) :: st.map (kbV E) by simp [kbV]]
  refine kb_called (rest := st) (va_runV (As := As.map (kbV E)) (rest := st.map (kbV E)) ⟨hx, hb, hml, hown, hts⟩ (hM E H.size) (cwV n hts hG rfl rfl rfl ⟨rfl, h2, h3, h4⟩ hrm)
    ⟨fun a U g mk q => ⟨q.1, q.2.1, q.2.2.calling⟩, va_recv hK hP hcl (kbWs_get hs), fun U hU hW => ⟨rfl, by rw [hU], kbWD_at hP hS hK hJ hTb hSt hU hW⟩⟩
    rfl (by rw [List.length_map]; exact hn) hL.2.1 rfl (lv_room (by rw [kbV_sum]; exact hr)) hd ⟨Nat.le_refl _, Nat.le_refl _⟩) hS (fun r μ' H1 locs1 hq hP1 hS1 => ?_)
  exact kk r μ' hq E p e s m args below meth c C H1 locs1 ls hP1 hS1 hL
/-- .. of a String constant -/
theorem r_invS {idx id d' n : Nat} {My : kbMt} {As st' : List Value} {Qc : kbQt} (hc : kbCV M.1.cls idx My n) (hi : id < kbTx.length) (hcl : My.1.cls = "java/lang/String") (hM : kbS l My d' (.ref (1000 + id) :: As) μ Qc) (hst : st' = As.reverse ++ .ref (1000 + id) :: st) (hn : As.length = n) (hr : (st.map fun v => v.category).sum ≤ 8) (hdd : d' + 1 ≤ d) (hd : decode M.2.1 pc = .ok (.invokevirtual idx, 3))
    (kk : ∀ (r : Option Value) (μ' : kbM), Qc r μ' → kbR l M d Q (pc + 3) L (r.toList ++ st) μ') : kbR l M d Q pc L st' μ := by
  subst hst
  intro E p e s m args below meth c C H locs ls hP hS hL
  obtain ⟨hx, hb, hml, hrt, hlk, hown, hts, hK, hJ, hTb, hSt⟩ := (fun z => z) C
  obtain ⟨h1, h2, h3, h4, h5⟩ := hc
  have hG : GoodIn (kbWd M) (wsV M.1.cls idx My.1.cls My.1 (kbWd My)) := by
    have := kbGood (M := M) (My := My) (ws := [Cond.methodLink M.1.cls idx My.1, .instanceMethod My.1, .selects My.1.cls My.1 My.1, .initialized My.1.cls]) (fun w hw => h1 w (List.mem_append_left [Cond.code My.1 My.2.1 My.2.2.1 My.2.2.2] hw)) (h1 _ (List.mem_of_getElem? (i := 4) rfl))
    exact this
  have hrm := kb_room hdd h5
  rw [show ((As.reverse ++ Value.ref (1000 + id) :: st).map (kbV E)) = (As.map (kbV E)).reverse ++ .ref (E.1 (1000 + id)) :: st.map (kbV E) by simp [kbV]]
  have hrecv : ∃ cell : Cell, H[E.1 (1000 + id)]? = some cell ∧ cell.vm.isStatics = false ∧ s.vm.findClass My.1.cls = some cell.cls := by
    obtain ⟨cell, h1, h2, h3, -⟩ := (hSt.1 id hi).1.kept hS.2.1
    exact ⟨cell, h1, h2, by rw [hcl]; exact h3⟩
  refine kb_called (rest := st) (va_runV (As := As.map (kbV E)) (rest := st.map (kbV E)) ⟨hx, hb, hml, hown, hts⟩ (hM E H.size) (cwV n hts hG rfl rfl rfl ⟨rfl, h2, h3, h4⟩ hrm)
    ⟨fun a U g mk q => ⟨q.1, q.2.1, q.2.2.calling⟩, hrecv, fun U hU hW => ⟨rfl, by rw [hU], kbWD_at hP hS hK hJ hTb hSt hU hW⟩⟩
    rfl (by rw [List.length_map]; exact hn) hL.2.1 rfl (lv_room (by rw [kbV_sum]; exact hr)) hd ⟨Nat.le_refl _, Nat.le_refl _⟩) hS (fun r μ' H1 locs1 hq hP1 hS1 => ?_)
  exact kk r μ' hq E p e s m args below meth c C H1 locs1 ls hP1 hS1 hL
/-- .. of a static method -/
theorem r_inv {idx d' n : Nat} {My : kbMt} {As st' : List Value} {Qc : kbQt} (hc : kbCS M.1.cls idx My n) (hM : kbS l My d' As μ Qc) (hst : st' = As.reverse ++ st) (hn : As.length = n) (hr : (st.map fun v => v.category).sum ≤ 8) (hdd : d' + 1 ≤ d) (hd : decode M.2.1 pc = .ok (.invokestatic idx, 3))
    (kk : ∀ (r : Option Value) (μ' : kbM), Qc r μ' → kbR l M d Q (pc + 3) L (r.toList ++ st) μ') : kbR l M d Q pc L st' μ := by
  subst hst
  intro E p e s m args below meth c C H locs ls hP hS hL
  obtain ⟨hx, hb, hml, hrt, hlk, hown, hts, hK, hJ, hTb, hSt⟩ := (fun z => z) C
  obtain ⟨h1, h2, h3, h4, h5⟩ := hc
  have hG : GoodIn (kbWd M) (va_wsS M.1.cls idx My.1 (kbWd My)) := by
    have := kbGood (M := M) (My := My) (ws := [Cond.methodLink M.1.cls idx My.1, .static My.1, .initialized My.1.cls]) (fun w hw => h1 w (List.mem_append_left [Cond.code My.1 My.2.1 My.2.2.1 My.2.2.2] hw)) (h1 _ (List.mem_of_getElem? (i := 3) rfl))
    exact this
  have hrm := kb_room hdd h5
  rw [show ((As.reverse ++ st).map (kbV E)) = (As.map (kbV E)).reverse ++ st.map (kbV E) by simp]
  refine kb_called (rest := st) (va_runS (As := As.map (kbV E)) (rest := st.map (kbV E)) ⟨hx, hb, hml, hown, hts⟩ (hM E H.size) (va_cwS n hts hG rfl rfl rfl ⟨h2, h3, h4⟩ hrm)
    ⟨fun a U g mk q => ⟨q.1, q.2.1, q.2.2.calling⟩, fun U hU hW => ⟨rfl, by rw [hU], kbWD_at hP hS hK hJ hTb hSt hU hW⟩⟩
    rfl (by rw [List.length_map]; exact hn) hL.2.1 rfl (lv_room (by rw [kbV_sum]; exact hr)) hd ⟨Nat.le_refl _, Nat.le_refl _⟩) hS (fun r μ' H1 locs1 hq hP1 hS1 => ?_)
  exact kk r μ' hq E p e s m args below meth c C H1 locs1 ls hP1 hS1 hL
end Heap
