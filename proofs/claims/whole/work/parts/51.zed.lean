/-! CONSTRUCTION: the world while the cells are being made: how many there are, and what each holds by places -/
abbrev kbPC : Type := (Nat × Nat × (Nat → Option Nat)) ⊕ (Nat × List Value)
abbrev kbPW : Type := Nat × (Nat → kbPC)
def kbPCell (E : kbE) (c : kbPC) : va_E := match c with
  | .inl (0, n, _) => .inl (E.2.2 0, (n, .inl (fun _ => 0)))
  | .inl (1, n, _) => .inl (E.2.2 1, (n, .inr (.inl (fun _ => 0))))
  | .inl (2, n, _) => .inl (E.2.2 2, (n, .inl (fun _ => 0)))
  | .inl (_, n, g) => .inl (E.2.2 3, (n, .inr (.inr (.inr (.inr (fun k => (g k).map E.1))))))
  | .inr (ci, vs) => .inr (ci, vs.map (kbV E))
def kbPw (E : kbE) (w : kbPW) : va_W := (List.range w.1).map fun i => (E.1 i, kbPCell E (w.2 i))
def kpPush (w : kbPW) (c : kbPC) : kbPW := (w.1 + 1, fun i => if i = w.1 then c else w.2 i)
def kpSet (w : kbPW) (i : Nat) (c : kbPC) : kbPW := (w.1, fun j => if j = i then c else w.2 j)
theorem kbPw_get {E : kbE} {w : kbPW} {i : Nat} {c : kbPC} (hi : i < w.1) (h : w.2 i = c) : (kbPw E w)[i]? = some (E.1 i, kbPCell E c) := by
  simp [kbPw, List.getElem?_map, List.getElem?_range hi, h]
theorem kbPw_inv {E : kbE} {w : kbPW} {i : Nat} {q : Nat × va_E} (h : (kbPw E w)[i]? = some q) : i < w.1 ∧ q = (E.1 i, kbPCell E (w.2 i)) := by
  simp only [kbPw, List.getElem?_map] at h
  by_cases hi : i < w.1
  · rw [List.getElem?_range hi] at h
    simp at h
    exact ⟨hi, h.symm⟩
  · rw [List.getElem?_eq_none (by simp; omega)] at h
    cases h
theorem kbPw_push {E : kbE} {w : kbPW} {c : kbPC} : kbPw E w ++ [(E.1 w.1, kbPCell E c)] = kbPw E (kpPush w c) := by
  simp only [kbPw, kpPush, List.range_succ, List.map_append, List.map_cons, List.map_nil, if_true]
  congr 1
  apply List.map_congr_left
  intro i hi
  rw [List.mem_range] at hi
  simp [Nat.ne_of_lt hi]
theorem kbPw_set {E : kbE} {w : kbPW} {i : Nat} {c : kbPC} (hi : i < w.1) : (kbPw E w).set i (E.1 i, kbPCell E c) = kbPw E (kpSet w i c) := by
  apply List.ext_getElem?
  intro j
  have hl : i < (kbPw E w).length := by simp [kbPw]; exact hi
  by_cases hj : j = i
  · subst hj
    rw [List.getElem?_set_self hl, kbPw_get (w := kpSet w j c) (i := j) (c := c) hi (by simp [kpSet])]
  · rw [List.getElem?_set_ne (Ne.symm hj)]
    simp only [kbPw, kpSet, List.getElem?_map]
    by_cases h1 : j < w.1
    · rw [List.getElem?_range h1]; simp [hj]
    · rw [List.getElem?_eq_none (by simp; omega)]; rfl
def kbBs (E : kbE) : Prop := ∀ i : Nat, i < kbN → E.1 i = E.1 0 + i
theorem kbPD {E : kbE} {w : kbPW} {sz : Nat} (hj : kbJ E) (hw : w.1 ≤ kbN) : va_D (kbAE E sz) (kbPw E w) := by
  refine ⟨fun i j x y hx hy hxy => ?_, fun k q hk => ?_⟩
  · obtain ⟨a1, rfl⟩ := kbPw_inv hx
    obtain ⟨b1, rfl⟩ := kbPw_inv hy
    exact hj i j (by omega) (by omega) hxy
  · obtain ⟨a1, rfl⟩ := kbPw_inv hk
    exact Or.inl ⟨k, by omega, rfl⟩
/-- the world at a state -/
def kbZD (E : kbE) (w : kbPW) (U : State) : Prop := va_P E.2.1 vwCl (kbPw E w) U.heap ∧ U.heap.size = E.1 0 + w.1 ∧ va_K E.2.1 vwCl (kbTys E) U ∧ kbJ E ∧ kbTb E U ∧ kbSt E (kbAE E U.heap.size) U U.heap ∧ va_AO "java/lang/String" U ∧ kbBs E
theorem kbZD.calling {E : kbE} {w : kbPW} {U : State} {g : JFrame} {mk : MethodId} {a : Array Value} (h : kbZD E w U) : kbZD E w (U.calling g mk a) := by
  obtain ⟨h1, h0, h2, h3, h4, h5, h6, h7⟩ := h
  exact ⟨h1, h0, va_K.moved (u := U) (U := U.calling g mk a) (Vm.Alike.refl U.vm) h2, h3, kbTb.same (u := U) (U := U.calling g mk a) rfl h4, kbSt.moved (u := U) (U := U.calling g mk a) (Vm.Alike.refl U.vm) h5, va_AO.moved (u := U) (U := U.calling g mk a) (Vm.Alike.refl U.vm) h6, h7⟩
def kbCz (l : Launch) (M : kbMt) (E : kbE) (p : Program) (s : State) (m : MethodId) (args : Array Value) (meth : Method) (c : Code) : Prop := kbCy l M E p s m args meth c ∧ meth.name = M.1.name ∧ va_AO "java/lang/String" s ∧ kbBs E ∧ (M.1.name = "law" → c.exceptionTable.toList = [] ∧ kbXw E s)
def kbZ (l : Launch) (M : kbMt) (rm : Room) (ck cn : Nat) (F : kbFt) (pc : Nat) (L : List (Option Value)) (st : List Value) (w : kbPW) : Prop :=
  ∀ (E : kbE) (p : Program) (e : Env) (s : State) (m : MethodId) (args : Array Value) (below : List Frame) (meth : Method) (c : Code), kbCz l M E p s m args meth c →
  ∀ (H : Heap) (locs : List Loc) (ls : Array Slot), H.size = E.1 0 + w.1 → va_P E.2.1 vwCl (kbPw E w) H → va_S (kbAE E s.heap.size) s.heap H locs → kbL E M.2.2.1 L ls →
    W p l e rm s m args below meth c H locs ck cn (F E s args below) (F0 m pc ls (st.map (kbV E)))
def kbQz (E : kbE) (w' : kbPW) (A : Nat → Prop) : Array Value → State → Outcome → State → Prop := fun _ st oc t => oc = .returned none ∧ va_P E.2.1 vwCl (kbPw E w') t.heap ∧ t.heap.size = E.1 0 + w'.1 ∧ va_F A st t
def kbFz (mc ms : Nat) (w' : kbPW) : kbFt := fun E s args below => MQ below (kbQz E w' (kbAE E s.heap.size)) args s mc ms (kbAE E s.heap.size)
def kbRz (d mc ms : Nat) : Room := { frames := d, cells := mc, slots := ms, locals := 48 * d }
/-- a constructor's contract: from the world w to the world w' -/
def kbSZ (l : Launch) (M : kbMt) (d mc ms : Nat) (av : List Value) (w w' : kbPW) : Prop :=
  ∀ (E : kbE) (sz : Nat), Met l M.1 (kbWd M) (kbRz d mc ms) (va_Pc (av.map (kbV E)) (fun U => U.heap.size = sz ∧ kbZD E w U)) (kbQz E w' (kbAE E sz)) mc ms (kbAE E sz)
theorem kb_enterZ {l : Launch} {M : kbMt} {d mc ms : Nat} {av : List Value} {w w' : kbPW} (k : Nat) (hp : plainName M.1.cls = true) (hk : (kbEn av).length + k = M.2.2.1) (hnm : M.1.name ≠ "law")
    (h : kbZ l M (kbRz d mc ms) 0 0 (kbFz mc ms w') 0 (kbEn av ++ List.replicate k none) [] w) : kbSZ l M d mc ms av w w' := by
  intro E sz
  refine Met.ofW (cc := M.2.1) (maxL := M.2.2.1) (ret := M.2.2.2) hp rfl ?_
  intro p e s m args below meth c s₁ B hml hv
  obtain ⟨rfl, hsz, hP, hz, hK, hJ, hT, hSt, hAO, hB⟩ := hv
  subst hsz
  obtain ⟨ls, hls, hL⟩ := kb_locals (E := E) hk
  rw [lg_entry_eq, hls]
  exact W.widen (Nat.le_refl _) (Nat.le_refl _) (h E p e s m _ below meth c ⟨⟨B.exec, B.bytes, hml, B.returns, B.notSynchronized, findClass_of_methodNamed B.named, fun w hw => atoms_spec (ws := kbWd M) B.pre w (List.mem_cons_of_mem _ hw), hK, hJ, hT, hSt⟩, (name_of_methodNamed B.named B.method).1, hAO, hB, fun h => absurd h hnm⟩ s.heap [] _ hz hP va_S.rf hL)
section Z
variable {l : Launch} {M : kbMt} {rm : Room} {ck cn mc ms : Nat} {F : kbFt} {pc : Nat} {L : List (Option Value)} {st : List Value} {w w' : kbPW}
theorem z_aload_n {j : Fin 4} {x : Nat} (hd : decode M.2.1 pc = .ok (.aload_n j, 1)) (hx : L[(j : Nat)]? = some (some (.ref x))) (k : kbZ l M rm ck cn F (pc + 1) L (.ref x :: st) w) : kbZ l M rm ck cn F pc L st w := by
  intro E p e s m args below meth c C H locs ls hz hP hS hL
  exact lv_aload_n C.1.1 C.1.2.1 hd rfl (hL.2.2.2 _ _ hx) (k E p e s m args below meth c C H locs ls hz hP hS hL)
theorem z_iconst {n : Int} (v : Int32) (hd : decode M.2.1 pc = .ok (.iconst n, 1)) (hv : Int32.ofInt n = v) (k : kbZ l M rm ck cn F (pc + 1) L (.int v :: st) w) : kbZ l M rm ck cn F pc L st w := by
  intro E p e s m args below meth c C H locs ls hz hP hS hL
  exact lv_iconst C.1.1 C.1.2.1 hd hv (k E p e s m args below meth c C H locs ls hz hP hS hL)
theorem z_bipush {n : Int} (v : Int32) (hd : decode M.2.1 pc = .ok (.bipush n, 2)) (hv : (Int8.ofInt n).toInt32 = v) (k : kbZ l M rm ck cn F (pc + 2) L (.int v :: st) w) : kbZ l M rm ck cn F pc L st w := by
  intro E p e s m args below meth c C H locs ls hz hP hS hL
  exact lv_bipush C.1.1 C.1.2.1 hd hv (k E p e s m args below meth c C H locs ls hz hP hS hL)
theorem z_sipush {n : Int} (v : Int32) (hd : decode M.2.1 pc = .ok (.sipush n, 3)) (hv : (Int16.ofInt n).toInt32 = v) (k : kbZ l M rm ck cn F (pc + 3) L (.int v :: st) w) : kbZ l M rm ck cn F pc L st w := by
  intro E p e s m args below meth c C H locs ls hz hP hS hL
  exact lv_sipush C.1.1 C.1.2.1 hd hv (k E p e s m args below meth c C H locs ls hz hP hS hL)
theorem z_astore_n {j : Fin 4} {x : Nat} (hd : decode M.2.1 pc = .ok (.astore_n j, 1)) (hn : (j : Nat) < M.2.2.1) (hno : kbNo L j = true) (k : kbZ l M rm ck cn F (pc + 1) (L.set j (some (.ref x))) st w) : kbZ l M rm ck cn F pc L (.ref x :: st) w := by
  intro E p e s m args below meth c C H locs ls hz hP hS hL
  exact lv_astore_n C.1.1 C.1.2.1 hd rfl hL.has hn rfl fun ls' h' => k E p e s m args below meth c C H locs ls' hz hP hS (kbL.store1 (v := .ref x) hL.1 hn hno h')
theorem z_dup {x : Nat} (hd : decode M.2.1 pc = .ok (.dup, 1)) (k : kbZ l M rm ck cn F (pc + 1) L (.ref x :: .ref x :: st) w) : kbZ l M rm ck cn F pc L (.ref x :: st) w := by
  intro E p e s m args below meth c C H locs ls hz hP hS hL
  exact lv_dup C.1.1 C.1.2.1 hd rfl (k E p e s m args below meth c C H locs ls hz hP hS hL)
theorem z_ldcS {idx id : Nat} {tx : String} (hw : (M.1.cls, idx, tx, id) ∈ kbSR) (hd : decode M.2.1 pc = .ok (.ldc idx, 2)) (kk : kbZ l M rm ck cn F (pc + 2) L (.ref (1000 + id) :: st) w) : kbZ l M rm ck cn F pc L st w := by
  intro E p e s m args below meth c C H locs ls hz hP hS hL
  exact va_ldcS C.1.1 C.1.2.1 C.1.2.2.2.2.2.1 (C.1.2.2.2.2.2.2.2.2.2.1.2.2 _ hw) hd (kk E p e s m args below meth c C H locs ls hz hP hS hL)
theorem z_obj {idx i : Nat} (hw : Cond.methodLink M.1.cls idx Lib.objectInit ∈ kbT) (h1 : Cond.instanceMethod Lib.objectInit ∈ kbT) (h2 : Cond.code Lib.objectInit ⟨#[0xb1]⟩ 1 none ∈ kbT) (hd : decode M.2.1 pc = .ok (.invokespecial idx, 3)) (hf : 1 ≤ rm.frames) (hl : (st.map fun v => v.category).sum + 12 ≤ rm.locals) (kk : kbZ l M rm ck cn F (pc + 3) L st w) : kbZ l M rm ck cn F pc L (.ref i :: st) w := by
  intro E p e s m args below meth c C H locs ls hz hP hS hL
  exact W.objInit C.1.1 C.1.2.1 C.1.2.2.2.2.2.1 (C.1.2.2.2.2.2.2.1 _ hw) (C.1.2.2.2.2.2.2.1 _ h1) (C.1.2.2.2.2.2.2.1 _ h2) (g := F0 m pc ls ((Value.ref i :: st).map (kbV E))) rfl (by show ls.size = _; rw [hL.2.1]; exact C.1.2.2.1.symm) rfl hd hf (by show 2 * 0 + _ + 12 ≤ _; rw [kbV_sum]; omega) (kk E p e s m args below meth c C H locs ls hz hP hS hL)
/-- the class C of number ci may be made at entry idx -/
def kbNW (own : String) (idx ci N : Nat) (vs : List Value) : Prop := ∃ (C : String) (T : u_T) (ty0 : Nat → FieldType), vwCl[ci]? = some (C, T, N) ∧ (∀ w ∈ u_ws C T N, w ∈ kbT) ∧ (∀ j, j < N → parseFieldDescriptor (T j).2.2.1 = some (ty0 j)) ∧ (∀ j, j < N → defaultValue (ty0 j) = vp_V vs j) ∧ vs.length = N ∧ (∀ v ∈ vs, v = .null ∨ v = .int 0) ∧ Cond.classLink own idx C ∈ kbT ∧ Cond.instantiable C N ∈ kbT ∧ Cond.initialized C ∈ kbT
theorem kbV_blank {E : kbE} {vs : List Value} (h : ∀ v ∈ vs, v = .null ∨ v = .int 0) : vs.map (kbV E) = vs := by
  induction vs with
  | nil => rfl
  | cons a t ih =>
    rw [List.map_cons, ih fun v hv => h v (List.mem_cons_of_mem _ hv)]
    rcases h a List.mem_cons_self with rfl | rfl <;> rfl
theorem z_new {idx ci N : Nat} {vs : List Value} (hn : kbNW M.1.cls idx ci N vs) (hw : w' = kpPush w (.inr (ci, vs))) (hlt : w.1 < kbN) (hcells : ck + 1 ≤ rm.cells) (hslots : cn + N ≤ rm.slots) (hd : decode M.2.1 pc = .ok (.new idx, 3)) (kk : kbZ l M rm (ck + 1) (cn + N) F (pc + 3) L (.ref w.1 :: st) w') : kbZ l M rm ck cn F pc L st w := by
  subst hw
  intro E p e s m args below meth c C H locs ls hz hP hS hL
  obtain ⟨Cn, T, ty0, h1, h2, h3, h4, h5, h6, h7, h8, h9⟩ := hn
  have hts := C.1.2.2.2.2.2.2.1
  have hKn := C.1.2.2.2.2.2.2.2.1.1 ci _ h1
  refine W.newcK C.1.1 C.1.2.1 C.1.2.2.2.2.2.1 (hts _ h7) (hts _ h8) (hts _ h9) rfl hd hcells hslots hKn.2.1 rfl fun H1 kC hkC e1 z1 o1 => ?_
  have hk : ∀ (k : Nat) (x : Nat × va_E), (kbPw E w)[k]? = some x → H1[x.1]? = H[x.1]? := fun k x hx => o1 x.1 ((hP k x hx).lt)
  have ha : E.1 w.1 = H.size := by rw [hz]; exact C.2.2.2.1 _ hlt
  have hP1 : va_P E.2.1 vwCl (kbPw E (kpPush w (.inr (ci, vs)))) H1 := by
    rw [← kbPw_push]
    refine (hP.kept hk).app (fun k x hx => ?_)
    have hz2 : k < 1 := (List.getElem?_eq_some_iff.mp hx).1
    rw [show k = 0 by omega] at hx
    cases hx
    refine ⟨_, h1, ?_⟩
    show t_OB (E.1 w.1) _ _ _ H1 (vp_V (vs.map (kbV E)))
    rw [ha, kbV_blank h6]
    exact (u_born ty0 hts h2 hKn hkC e1 h3).to h4
  rw [← ha]
  exact kk E p e s m args below meth c C H1 locs ls (by rw [z1, hz]; rfl) hP1 ⟨Nat.le_trans hS.1 (by omega), fun x h1 h2 => (o1 x (Nat.lt_of_lt_of_le h1 hS.1)).trans (hS.2.1 x h1 h2), hS.2.2⟩ hL
/-- an array's type and number among kbTys -/
def kbAT (at_ : ArrayType) (K : Nat) : Prop := (at_ = .int ∧ K = 0) ∨ (at_ = .long ∧ K = 1) ∨ (at_ = .boolean ∧ K = 2)
theorem z_newa {aty : ArrayType} {K N : Nat} {n : Int32} (hK0 : kbAT aty K) (harr : Cond.arrayClass (newarray.typeOf aty) ∈ kbT) (hn : ¬ n < 0) (hN : n.toNatClampNeg = N) (hw : w' = kpPush w (.inl (K, N, fun _ => none))) (hlt : w.1 < kbN) (hbytes : N * componentBytes (newarray.typeOf aty) ≤ 536870912) (hcells : ck + 1 ≤ rm.cells) (hslots : cn + N ≤ rm.slots) (hd : decode M.2.1 pc = .ok (.newarray aty, 2)) (kk : kbZ l M rm (ck + 1) (cn + N) F (pc + 2) L (.ref w.1 :: st) w') : kbZ l M rm ck cn F pc L (.int n :: st) w := by
  subst hw
  intro E p e s m args below meth c C H locs ls hz hP hS hL
  have hts := C.1.2.2.2.2.2.2.1
  have hKK := C.1.2.2.2.2.2.2.2.1
  refine va_newaK C.1.1 C.1.2.1 (hts _ harr) rfl hd rfl hn hN hbytes hcells hslots rfl fun H1 cA e1 z1 o1 hAr hNm => ?_
  have hk : ∀ (k : Nat) (x : Nat × va_E), (kbPw E w)[k]? = some x → H1[x.1]? = H[x.1]? := fun k x hx => o1 x.1 ((hP k x hx).lt)
  have ha : E.1 w.1 = H.size := by rw [hz]; exact C.2.2.2.1 _ hlt
  have hP1 : va_P E.2.1 vwCl (kbPw E (kpPush w (.inl (K, N, fun _ => none)))) H1 := by
    rw [← kbPw_push]
    refine (hP.kept hk).app (fun k x hx => ?_)
    have hz2 : k < 1 := (List.getElem?_eq_some_iff.mp hx).1
    rw [show k = 0 by omega] at hx
    cases hx
    rcases hK0 with ⟨rfl, rfl⟩ | ⟨rfl, rfl⟩ | ⟨rfl, rfl⟩
    · have hc : E.2.2 0 = cA := Option.some.inj (((hKK.2 0 _ rfl).2 : s.vm.findClass _ = some _).symm.trans hNm)
      show H1[E.1 w.1]? = some (vp_cell (E.2.2 0) _)
      rw [ha, hc]
      exact e1
    · have hc : E.2.2 1 = cA := Option.some.inj (((hKK.2 1 _ rfl).2 : s.vm.findClass _ = some _).symm.trans hNm)
      show H1[E.1 w.1]? = some (vp_cell (E.2.2 1) _)
      rw [ha, hc]
      exact e1
    · have hc : E.2.2 2 = cA := Option.some.inj (((hKK.2 2 _ rfl).2 : s.vm.findClass _ = some _).symm.trans hNm)
      show H1[E.1 w.1]? = some (vp_cell (E.2.2 2) _)
      rw [ha, hc]
      exact e1
  rw [← ha]
  exact kk E p e s m args below meth c C H1 locs ls (by rw [z1, hz]; rfl) hP1 ⟨Nat.le_trans hS.1 (by omega), fun x h1 h2 => (o1 x (Nat.lt_of_lt_of_le h1 hS.1)).trans (hS.2.1 x h1 h2), hS.2.2⟩ hL
theorem z_newq {idx N : Nat} {n : Int32} (hcl : Cond.classLink M.1.cls idx "java/lang/String" ∈ kbT) (hn : ¬ n < 0) (hN : n.toNatClampNeg = N) (hw : w' = kpPush w (.inl (3, N, fun _ => none))) (hlt : w.1 < kbN) (hbytes : N * 4 ≤ 536870912) (hcells : ck + 1 ≤ rm.cells) (hslots : cn + N ≤ rm.slots) (hd : decode M.2.1 pc = .ok (.anewarray idx, 3)) (kk : kbZ l M rm (ck + 1) (cn + N) F (pc + 3) L (.ref w.1 :: st) w') : kbZ l M rm ck cn F pc L (.int n :: st) w := by
  subst hw
  subst hN
  intro E p e s m args below meth c C H locs ls hz hP hS hL
  have hts := C.1.2.2.2.2.2.2.1
  have hKK := C.1.2.2.2.2.2.2.2.1
  refine W.anew C.1.1 C.1.2.1 C.1.2.2.2.2.2.1 (hts _ hcl) (va_AO.use C.2.2.1) rfl hd rfl hn hbytes hcells hslots fun cA kA comp f1 f2 f3 f4 => ?_
  generalize hH1 : H.push ({ cls := cA, slots := Array.replicate n.toNatClampNeg .null, vm := .none } : Cell) = H1
  have z1 : H1.size = H.size + 1 := by rw [← hH1, Array.size_push]
  have e1 : H1[H.size]? = some (arrV cA n.toNatClampNeg (fun _ => .null)) := by rw [← hH1, Array.getElem?_push_size, ← arrV_new]
  have o1 : ∀ q : Nat, q < H.size → H1[q]? = H[q]? := fun q hq => by rw [← hH1, Array.getElem?_push, if_neg (Nat.ne_of_lt hq)]
  have hk : ∀ (k : Nat) (x : Nat × va_E), (kbPw E w)[k]? = some x → H1[x.1]? = H[x.1]? := fun k x hx => o1 x.1 ((hP k x hx).lt)
  have ha : E.1 w.1 = H.size := by rw [hz]; exact C.2.2.2.1 _ hlt
  obtain ⟨kA2, comp2, r1, r2, r3, r4⟩ := (hKK.2 3 _ rfl).2
  have hc : E.2.2 3 = cA := Option.some.inj (r4.symm.trans f1)
  have hP1 : va_P E.2.1 vwCl (kbPw E (kpPush w (.inl (3, n.toNatClampNeg, fun _ => none)))) H1 := by
    rw [← kbPw_push]
    refine (hP.kept hk).app (fun k x hx => ?_)
    have hz2 : k < 1 := (List.getElem?_eq_some_iff.mp hx).1
    rw [show k = 0 by omega] at hx
    cases hx
    show H1[E.1 w.1]? = some (vp_cell (E.2.2 3) _)
    rw [ha, hc, vp_cell_q]
    exact e1
  rw [← ha]
  exact kk E p e s m args below meth c C H1 locs ls (by rw [z1, hz]; rfl) hP1 ⟨Nat.le_trans hS.1 (by omega), fun x h1 h2 => (o1 x (Nat.lt_of_lt_of_le h1 hS.1)).trans (hS.2.1 x h1 h2), hS.2.2⟩ hL
theorem z_getR {idx i ci k j : Nat} {fin : Bool} {ty : FieldType} {vs : List Value} (hf : kbFL M.1.cls idx ci k fin ty) (hi : i < w.1) (hs : w.2 i = .inr (ci, vs)) (hk : vs[k]? = some (.ref j)) (hd : decode M.2.1 pc = .ok (.getfield idx, 3)) (kk : kbZ l M rm ck cn F (pc + 3) L (.ref j :: st) w) : kbZ l M rm ck cn F pc L (.ref i :: st) w := by
  intro E p e s m args below meth c C H locs ls hz hP hS hL
  obtain ⟨Cn, T, N, ty0, h1, h2, h3, -, -, -, -, h5⟩ := hf
  have kk' := kk E p e s m args below meth c C H locs ls hz hP hS hL
  have hv : (vs.map (kbV E))[k]? = some (.ref (E.1 j)) := by rw [List.getElem?_map, hk]; rfl
  rcases h5 with h5 | ⟨host, h5⟩
  · exact va_get C.1.1 C.1.2.1 C.1.2.2.2.2.2.2.1 h3 C.1.2.2.2.2.2.1 C.1.2.2.2.2.2.2.2.1 hP i (kbPw_get hi hs) h1 k h2 (C.1.2.2.2.2.2.2.1 _ h5) (fun _ h => h) hv hd kk'
  · exact va_getN C.1.1 C.1.2.1 C.1.2.2.2.2.2.2.1 h3 C.1.2.2.2.2.2.1 C.1.2.2.2.2.2.2.2.1 hP i (kbPw_get hi hs) h1 k h2 (va_Nw.use rfl (C.1.2.2.2.2.2.2.2.2.2.1.1 _ h5)) (fun _ h => h) hv hd kk'
/-- the entry idx of class own's table is its own field k -/
def kbFP (own : String) (idx ci k : Nat) (fin : Bool) (ty : FieldType) : Prop := ∃ (T : u_T) (N : Nat) (ty0 : Nat → FieldType), vwCl[ci]? = some (own, T, N) ∧ k < N ∧ (∀ w ∈ u_ws own T N, w ∈ kbT) ∧ (∀ j, j < N → parseFieldDescriptor (T j).2.2.1 = some (ty0 j)) ∧
  (∀ a, a < N → ∀ b, b < N → a ≠ b → (T a).2.1 ≠ (T b).2.1) ∧ (T k).2.2.2 = fin ∧ ty0 k = ty ∧ (T k).1 = own ∧ Cond.fieldLink own idx own (T k).2.1 (T k).2.2.1 ∈ kbT
theorem z_put {idx i ci k : Nat} {fin : Bool} {ty : FieldType} {vs : List Value} {v : Value} (hf : kbFP M.1.cls idx ci k fin ty) (hi : i < w.1) (hs : w.2 i = .inr (ci, vs)) (hl : k < vs.length) (hini : M.1.name = "<init>") (hnf : ∀ E : kbE, narrow ty (kbV E v) = kbV E v ∧ fits ty (kbV E v) = true) (hlt : w.1 ≤ kbN) (hw : w' = kpSet w i (.inr (ci, vs.set k v))) (hd : decode M.2.1 pc = .ok (.putfield idx, 3)) (kk : kbZ l M rm ck cn F (pc + 3) L st w') : kbZ l M rm ck cn F pc L (v :: .ref i :: st) w := by
  subst hw
  intro E p e s m args below meth c C H locs ls hz hP hS0 hL
  obtain ⟨T, N, ty0, hc, hk, hin, hty, hnm, hfin, h9, hdecl, hlink0⟩ := hf
  obtain ⟨hn, hfit⟩ := hnf E
  have hts := C.1.2.2.2.2.2.2.1
  have hown := C.1.2.2.2.2.2.1
  have hK := C.1.2.2.2.2.2.2.2.1
  have hlink := hts _ hlink0
  have hD := kbPD (E := E) (w := w) (sz := s.heap.size) C.1.2.2.2.2.2.2.2.2.1 hlt
  have he := kbPw_get (E := E) hi hs
  have hlen : k < (vs.map (kbV E)).length := by rw [List.length_map]; exact hl
  have hset : (kbPw E w).set i (E.1 i, .inr (ci, (vs.map (kbV E)).set k (kbV E v))) = kbPw E (kpSet w i (.inr (ci, vs.set k v))) := by
    rw [← kbPw_set hi]
    show _ = (kbPw E w).set i (E.1 i, .inr (ci, (vs.set k v).map (kbV E)))
    rw [List.map_set]
  have key : ∀ (H1 : Heap) (locs1 : List Loc), H1.size = H.size → va_P E.2.1 vwCl ((kbPw E w).set i (E.1 i, .inr (ci, (vs.map (kbV E)).set k (kbV E v)))) H1 → va_S (kbAE E s.heap.size) s.heap H1 locs1 → W p l e rm s m args below meth c H1 locs1 ck cn (F E s args below) (F0 m (pc + 3) ls (st.map (kbV E))) := by
    intro H1 locs1 hz1 hP1 hS1
    rw [hset] at hP1
    exact kk E p e s m args below meth c C H1 locs1 ls (by rw [hz1, hz]; rfl) hP1 hS1 hL
  have hd2 : parseFieldDescriptor (T k).2.2.1 = some ty := by rw [hty k hk, h9]
  have hap := va_apart (own := M.1.cls) hts hin ty0 hty hnm hK hc
  obtain ⟨r, h1, cell, q1, q2, q3, q4⟩ := hP i _ he
  have hr : r = (M.1.cls, T, N) := Option.some.inj (h1.symm.trans hc)
  subst hr
  obtain ⟨hS, hfc, kC, hkC, hkind⟩ := hK.1 ci _ hc
  obtain ⟨cf, kf, fi, f, hi2, hsl⟩ := hS k hk
  have hi3 : s.fieldFound? M.1.cls (T k).2.1 (T k).2.2.1 = some (cf, kf, fi, f) := by rw [← hdecl]; exact hi2
  have hlay := hts _ (hin _ (u_in_lay hk))
  unfold u_lay at hlay
  have hst := (u_facts hfc hkC (u_lays hts hin hk) hi2).1
  cases fin with
  | true =>
    rw [if_pos hfin] at hlay
    have hcf : m.cls = cf := by
      obtain ⟨_, _, c', _, _, _, -, -, hf', -, -, -, hown2, -⟩ := Cond.laysFinal_spec hlay
      have e1 : c' = cf := by have := hi2.symm.trans hf'; simp at this; exact this.1.symm
      rw [hdecl] at hown2
      rw [← e1]; exact Option.some.inj (hown.symm.trans hown2)
    have h6 := u_fits hfc hkC hkind (Or.inr hlay) hi2 hd2 hn hfit
    refine W.putFinK C.1.1 C.1.2.1 hown hlink hi3 hst hcf (C.2.1.trans hini) (by rw [q2]; exact h6) q1 q3 (by rw [hsl]; exact k2_hasslot (q4 k hk)) rfl rfl hd fun H' e1 e2 e3 => ?_
    rw [hsl] at e1 ⊢
    exact key H' _ e2 (hP.set hD he ⟨_, hc, t_OB.to (V := updV (vp_V (vs.map (kbV E))) k (kbV E v)) ⟨_, e1, q2, q3, t_set q4 hap hk (kbV E v)⟩ (fun j _ => vp_updV_set hlen (kbV E v) j)⟩ e3) (hS0.put e2 e3 (hD.2 i _ he))
  | false =>
    rw [if_neg (by rw [hfin]; decide)] at hlay
    have h6 := u_store hfc hkC hkind hlay hi2 hd2 hn hfit
    refine W.putK C.1.1 C.1.2.1 (f := f) ⟨hown, hlink, ⟨_, _, _, hi3⟩, hst⟩ (by rw [q2]; exact h6) q1 q3 (by rw [hsl]; exact k2_hasslot (q4 k hk)) rfl rfl hd fun H' e1 e2 e3 => ?_
    rw [hsl] at e1 ⊢
    exact key H' _ e2 (hP.set hD he ⟨_, hc, t_OB.to (V := updV (vp_V (vs.map (kbV E))) k (kbV E v)) ⟨_, e1, q2, q3, t_set q4 hap hk (kbV E v)⟩ (fun j _ => vp_updV_set hlen (kbV E v) j)⟩ e3) (hS0.put e2 e3 (hD.2 i _ he))
theorem z_ast {i id n : Nat} {g : Nat → Option Nat} {j : Int32} (hi : i < w.1) (hs : w.2 i = .inl (3, n, g)) (hin : vp_in j n) (hid : id < kbTx.length) (hlt : w.1 ≤ kbN) (hw : w' = kpSet w i (.inl (3, n, fun q => if q = j.toNatClampNeg then some (1000 + id) else g q))) (hd : decode M.2.1 pc = .ok (.aastore, 1)) (kk : kbZ l M rm ck cn F (pc + 1) L st w') : kbZ l M rm ck cn F pc L (.ref (1000 + id) :: .int j :: .ref i :: st) w := by
  subst hw
  intro E p e s m args below meth c C H locs ls hz hP hS hL
  have hK := C.1.2.2.2.2.2.2.2.1
  have hSt := (C.1.2.2.2.2.2.2.2.2.2.2).kept hS.2.1
  have hD := kbPD (E := E) (w := w) (sz := s.heap.size) C.1.2.2.2.2.2.2.2.2.1 hlt
  have ha := kbPw_get (E := E) hi hs
  obtain ⟨cellV, g1, g3, g4, g5⟩ := (hSt.1 id hid).1
  obtain ⟨kC, hkC, -⟩ := Vm.findClass_spec g4
  have hlt2 : j.toNatClampNeg < n := Nat.not_le.mp fun q => hin (Or.inr q)
  have h0 : ¬ j < 0 := fun q => hin (Or.inl q)
  obtain ⟨kA, comp, k1, k2, k3, -⟩ := (hK.2 3 _ rfl).2
  obtain ⟨kE, hkE, -⟩ := Vm.findClass_spec k3
  have hasg : s.vm.assignable cellV.cls comp = true := by
    cases Option.some.inj (g4.symm.trans k3)
    have hAA : s.vm.assignable cellV.cls cellV.cls = s.vm.assignableAux (255 + 1) cellV.cls cellV.cls := rfl
    rw [hAA, Vm.assignableAux]
    simp
  refine W.aast C.1.1 C.1.2.1 (hP i _ ha) (fun q h => by cases h) (fun h => by cases h) k1 k2 rfl hkE ⟨h0, by show _ < (arrV _ _ _).slots.size; rw [arrV_size]; exact hlt2⟩ g1 (fun q h => by rw [h] at g3; cases g3) hkC hasg rfl rfl hd fun H1 e1 z oq => ?_
  refine kk E p e s m args below meth c C H1 _ ls (by rw [z, hz]; rfl) ?_ (hS.put z oq (hD.2 i _ ha)) hL
  rw [← kbPw_set hi]
  refine hP.set hD ha ?_ oq
  show H1[E.1 i]? = some (vp_cell (E.2.2 3) _)
  rw [e1]
  show some ((arrV (E.2.2 3) n (fun k => va_rf ((g k).map E.1))).setSlot j.toNatClampNeg (.ref (E.1 (1000 + id)))) = some (arrV (E.2.2 3) n (fun k => va_rf ((if k = j.toNatClampNeg then some (1000 + id) else g k).map E.1)))
  rw [arrV_store]
  congr 2
  funext q
  by_cases hq : q = j.toNatClampNeg
  · subst hq
    simp [updV, va_rf]
  · simp [updV, hq]
theorem z_vret (hr : M.2.2.2 = none) (h1 : ck ≤ mc) (h2 : cn ≤ ms) (hd : decode M.2.1 pc = .ok (.return_, 1)) : kbZ l M rm ck cn (kbFz mc ms w) pc L [] w := by
  intro E p e s m args below meth c C H locs ls hz hP hS hL
  exact W.widen h1 h2 (W.vret C.1.1 C.1.2.1 (C.1.2.2.2.1.trans hr) (fun t ht _ => ⟨rfl, by rw [ht]; exact hP, by rw [ht]; exact hz, hS.F ht⟩) hS.2.2 hd C.1.2.2.2.2.1)
theorem kb_calledZ {E : kbE} {p : Program} {e : Env} {R : Room} {s : State} {m : MethodId} {args : Array Value} {below : List Frame} {meth : Method} {c : Code} {H : Heap} {locs : List Loc} {ls : Array Slot} {st0 rest : List Value} {a : Array Value} {Q9 : State → Prop} {mk nk : Nat}
    (hr : va_Run p l e R s m args below meth c H locs ck cn mk nk (F0 m pc ls st0) (rest.map (kbV E)) (kbQz E w' (kbAE E H.size) a) (kbAE E H.size)) (hS : va_S (kbAE E s.heap.size) s.heap H locs)
    (kk : ∀ (H1 : Heap) (locs1 : List Loc), H1.size = E.1 0 + w'.1 → va_P E.2.1 vwCl (kbPw E w') H1 → va_S (kbAE E s.heap.size) s.heap H1 locs1 → W p l e R s m args below meth c H1 locs1 (ck + mk) (cn + nk) Q9 (F0 m (pc + 3) ls (rest.map (kbV E)))) : W p l e R s m args below meth c H locs ck cn Q9 (F0 m pc ls st0) := by
  intro T hT X
  obtain ⟨v, st₀, t, T', Lc, h0, X', hL, e1, e2, ⟨hv, hP, hz, hF⟩, stp⟩ := hr T hT X
  cases hv
  have hsub : ∀ q, kbAE E H.size q → kbAE E s.heap.size q := fun q hq => by
    rcases hq with hq | hq
    · exact Or.inl hq
    · exact Or.inr (Nat.le_trans hS.1 hq)
  obtain ⟨k1, k2, k3⟩ := vx_keep h0 e1 hS (fun q _ h => hsub q h) hsub hL hF
  obtain ⟨t2, a1, b1⟩ := kk T'.heap (locs ++ Lc) (by rw [e1]; exact hz) (by rw [e1]; exact hP) k3 T' rfl X'
  exact ⟨t2, stp t2 a1, b1⟩
theorem kbZD_at {E : kbE} {s U : State} {H : Heap} {locs : List Loc} {M : kbMt} {p : Program} {m : MethodId} {args : Array Value} {meth : Method} {c : Code} (C : kbCz l M E p s m args meth c) (hz : H.size = E.1 0 + w.1) (hP : va_P E.2.1 vwCl (kbPw E w) H) (hS : va_S (kbAE E s.heap.size) s.heap H locs) (hU : U.heap = H) (hW : s.WarmedH U.vm) : kbZD E w U := by
  refine ⟨by rw [hU]; exact hP, by rw [hU]; exact hz, va_K.moved hW.alike C.1.2.2.2.2.2.2.2.1, C.1.2.2.2.2.2.2.2.2.1, kbTb.warm hW C.1.2.2.2.2.2.2.2.2.2.1, ?_, va_AO.moved hW.alike C.2.2.1, C.2.2.2.1⟩
  have h1 := kbSt.moved hW.alike ((C.1.2.2.2.2.2.2.2.2.2.2).kept hS.2.1)
  rw [hU]
  exact h1.narrow fun q hq => by
    rcases hq with hq | hq
    · exact Or.inl hq
    · exact Or.inr (Nat.le_trans hS.1 hq)
/-- entry idx names the constructor My of n parameters -/
def kbCI (own : String) (idx : Nat) (My : kbMt) (n : Nat) : Prop := (∀ w ∈ [Cond.instanceMethod My.1, .initialized My.1.cls, .code My.1 My.2.1 My.2.2.1 none], w ∈ kbT) ∧ My.2.2.2 = none ∧ My.1.name = "<init>" ∧ (My.1.cls ≠ "java/lang/invoke/MethodHandle" ∧ My.1.cls ≠ "java/lang/invoke/VarHandle" ∧ (parseMethodDescriptor My.1.desc).map (fun d => d.parameters.length) = some n) ∧ (Cond.methodLink own idx My.1 ∈ kbT ∨ ∃ host, Cond.methodLinkNest own idx My.1 host ∈ kbNM)
theorem z_inv {idx i d' n mk nk : Nat} {My : kbMt} {As st' : List Value} (hc : kbCI M.1.cls idx My n) (hM : kbSZ l My d' mk nk (.ref i :: As) w w') (hst : st' = As.reverse ++ .ref i :: st) (hn : As.length = n) (hr : (st.map fun v => v.category).sum ≤ 8) (hro : d' + 1 ≤ rm.frames ∧ 8 + (My.2.2.1 + 11) + 48 * d' ≤ rm.locals ∧ ck + mk ≤ rm.cells ∧ cn + nk ≤ rm.slots) (hd : decode M.2.1 pc = .ok (.invokespecial idx, 3))
    (kk : kbZ l M rm (ck + mk) (cn + nk) F (pc + 3) L st w') : kbZ l M rm ck cn F pc L st' w := by
  subst hst
  intro E p e s m args below meth c C H locs ls hz hP hS hL
  obtain ⟨h1, h2, h3, h4, h5⟩ := hc
  have hts := C.1.2.2.2.2.2.2.1
  obtain ⟨y, bytes, nl, rt⟩ := My
  dsimp only at h1 h2 h3 h4 h5 hro
  subst h2
  have hG : GoodIn kbT (kbWd (y, bytes, nl, none)) := by
    intro w hw
    have hk : w ∈ kbT := by
      rcases List.mem_cons.mp hw with z | z
      · rw [z]; exact h1 _ (List.mem_of_getElem? (i := 2) rfl)
      · exact z
    exact ⟨hk, good_of_word (kbT_good w hk)⟩
  have hin := hts _ (h1 (Cond.instanceMethod y) (List.mem_of_getElem? (i := 0) rfl))
  have hini := hts _ (h1 (Cond.initialized y.cls) (List.mem_of_getElem? (i := 1) rfl))
  rw [show ((As.reverse ++ Value.ref i :: st).map (kbV E)) = (As.map (kbV E)).reverse ++ .ref (E.1 i) :: st.map (kbV E) by simp [kbV]]
  have hp : PreS s H (va_Pc ((Value.ref i :: As).map (kbV E)) (fun U => U.heap.size = H.size ∧ kbZD E w U)) (.ref (E.1 i) :: As.map (kbV E)) :=
    ⟨fun a U g mk q => ⟨q.1, q.2.1, q.2.2.calling⟩, fun U hU hW => ⟨rfl, by rw [hU], kbZD_at C hz hP hS hU hW⟩⟩
  rcases h5 with h5 | ⟨host, h5⟩
  · exact kb_calledZ (mk := mk) (nk := nk) (rest := st) (w' := w') (va_runI (As := As.map (kbV E)) (rest := st.map (kbV E)) ⟨C.1.1, C.1.2.1, C.1.2.2.1, C.1.2.2.2.2.2.1, hts⟩ (hM E H.size) (cwI n hts hG rfl rfl rfl hini (hts _ h5) hin h3 h4 ⟨hro.1, hro.2.1⟩) hp
      rfl (by rw [List.length_map]; exact hn) hL.2.1 rfl (lv_room (by rw [kbV_sum]; exact hr)) hd ⟨hro.2.2.1, hro.2.2.2⟩) hS (fun H1 locs1 hz1 hP1 hS1 => kk E p e s m args below meth c C H1 locs1 ls hz1 hP1 hS1 hL)
  · exact kb_calledZ (mk := mk) (nk := nk) (rest := st) (w' := w') (va_runIN (As := As.map (kbV E)) (rest := st.map (kbV E)) ⟨C.1.1, C.1.2.1, C.1.2.2.1, C.1.2.2.2.2.2.1, hts⟩ (hM E H.size) ⟨va_cnB n hts hG rfl rfl rfl (C.1.2.2.2.2.2.2.2.2.2.1.2.1 _ h5) hini h4 ⟨hro.1, hro.2.1⟩, h3, hin⟩ hp
      rfl (by rw [List.length_map]; exact hn) hL.2.1 rfl (lv_room (by rw [kbV_sum]; exact hr)) hd ⟨hro.2.2.1, hro.2.2.2⟩) hS (fun H1 locs1 hz1 hP1 hS1 => kk E p e s m args below meth c C H1 locs1 ls hz1 hP1 hS1 hL)
end Z
