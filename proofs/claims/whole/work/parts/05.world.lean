/-! MEMORY: what the cells hold that change: by the cell's place and the slot's -/
abbrev kbM : Type := (Nat → Nat → Int32) × (Nat → Nat → Int64)
def kbA (μ : kbM) (i : Nat) (f : Nat → Int32) : kbM := (fun a => if a = i then f else μ.1 a, μ.2)
def kbB (μ : kbM) (i : Nat) (f : Nat → Int64) : kbM := (μ.1, fun a => if a = i then f else μ.2 a)
def kbW (μ : kbM) (i k : Nat) (v : Int32) : kbM := kbA μ i (upd (μ.1 i) k v)
def kbX (μ : kbM) (i k : Nat) (v : Int64) : kbM := kbB μ i (vp_updL (μ.2 i) k v)
/-- addresses of the cells by their places; the classes; the array classes -/
abbrev kbE : Type := (Nat → Nat) × va_G × (Nat → ClassId)
abbrev kbSC : Type := (Nat × Nat × List Nat) ⊕ (Nat × List (Option Nat))
def kbFd (E : kbE) (f : Nat → Int32) (k : Nat) (fd : Option Nat) : Value := match fd with
  | some j => .ref (E.1 j)
  | none => .int (f k)
def kbCell (E : kbE) (f : Nat → Int32) (g : Nat → Int64) (c : kbSC) : va_E := match c with
  | .inl (0, n, _) => .inl (E.2.2 0, (n, .inl f))
  | .inl (1, n, _) => .inl (E.2.2 1, (n, .inr (.inl g)))
  | .inl (2, n, _) => .inl (E.2.2 2, (n, .inl f))
  | .inl (_, n, rs) => .inl (E.2.2 3, (n, .inr (.inr (.inr (.inr (fun k => (rs[k]?).map E.1))))))
  | .inr (ci, fds) => .inr (ci, fds.mapIdx (kbFd E f))
def kbWs (E : kbE) (μ : kbM) : va_W := kbSh.mapIdx (fun i c => (E.1 i, kbCell E (μ.1 i) (μ.2 i) c))
abbrev kbN : Nat := 98
theorem kbSh_len : kbSh.length = kbN := by decide +kernel
theorem kbWs_get {E : kbE} {μ : kbM} {i : Nat} {c : kbSC} (h : kbSh[i]? = some c) : (kbWs E μ)[i]? = some (E.1 i, kbCell E (μ.1 i) (μ.2 i) c) := by
  simp [kbWs, List.getElem?_mapIdx, h]
theorem kbWs_inv {E : kbE} {μ : kbM} {i : Nat} {q : Nat × va_E} (h : (kbWs E μ)[i]? = some q) : i < kbN ∧ q.1 = E.1 i := by
  simp only [kbWs, List.getElem?_mapIdx] at h
  cases hc : kbSh[i]? with
  | none => simp [hc] at h
  | some c =>
    have hl : i < kbSh.length := (List.getElem?_eq_some_iff.mp hc).1
    rw [kbSh_len] at hl
    simp [hc] at h
    exact ⟨hl, by rw [← h]⟩
theorem kbWs_set {E : kbE} {μ μ' : kbM} {i : Nat} {c : kbSC} (h : kbSh[i]? = some c) (h1 : ∀ j, j ≠ i → μ'.1 j = μ.1 j) (h2 : ∀ j, j ≠ i → μ'.2 j = μ.2 j) :
    (kbWs E μ).set i (E.1 i, kbCell E (μ'.1 i) (μ'.2 i) c) = kbWs E μ' := by
  apply List.ext_getElem?
  intro j
  have hl : i < (kbWs E μ).length := (List.getElem?_eq_some_iff.mp (kbWs_get (μ := μ) (E := E) h)).1
  by_cases hj : j = i
  · subst hj
    rw [List.getElem?_set_self hl, kbWs_get h]
  · rw [List.getElem?_set_ne (Ne.symm hj)]
    simp only [kbWs, List.getElem?_mapIdx, h1 j hj, h2 j hj]
def kbJ (E : kbE) : Prop := ∀ i j : Nat, i < kbN → j < kbN → E.1 i = E.1 j → i = j
def kbAE (E : kbE) (sz : Nat) : Nat → Prop := fun q => (∃ i, i < kbN ∧ q = E.1 i) ∨ sz ≤ q
theorem kbD {E : kbE} {μ : kbM} {A : Nat → Prop} (hj : kbJ E) (hA : ∀ i, i < kbN → A (E.1 i)) : va_D A (kbWs E μ) := by
  refine ⟨fun i j x y hx hy hxy => ?_, fun k q hk => ?_⟩
  · obtain ⟨a1, a2⟩ := kbWs_inv hx
    obtain ⟨b1, b2⟩ := kbWs_inv hy
    exact hj i j a1 b1 (by rw [← a2, ← b2, hxy])
  · obtain ⟨a1, a2⟩ := kbWs_inv hk
    rw [a2]; exact hA k a1
theorem kbDA {E : kbE} {μ : kbM} {sz : Nat} (hj : kbJ E) : va_D (kbAE E sz) (kbWs E μ) := kbD hj fun i hi => Or.inl ⟨i, hi, rfl⟩
def kbTys (E : kbE) : List (ClassId × FieldType) := [(E.2.2 0, .int), (E.2.2 1, .long), (E.2.2 2, .boolean), (E.2.2 3, .object "java/lang/String")]
/-! the texts of the String constants, FIVES, and what else nobody changes -/
def kbSt (E : kbE) (A : Nat → Prop) (U : State) (H : Heap) : Prop :=
  (∀ i : Nat, i < kbTx.length → va_O "java/lang/String" (E.1 (1000 + i)) A U H ∧ va_OF "java/lang/String" "coder" "B" (.int 0) (E.1 (1000 + i)) A U H ∧ va_OF "java/lang/String" "value" "[B" (.ref (E.1 (2000 + i))) (E.1 (1000 + i)) A U H ∧ va_T .byte (E.1 (2000 + i)) (kbTx.getD i []).length (fun j => .int ((kbTx.getD i []).getD j 0)) A U H) ∧
  va_Z "KnockBook$Rows" "FIVES" "[I" (.ref (E.1 3000)) A U H ∧ va_T .int (E.1 3000) 13 (fun j => .int (kbFv.getD j 0)) A U H ∧ va_Z "java/lang/String" "COMPACT_STRINGS" "Z" (.int 1) A U H ∧
  va_Zq "java/lang/Throwable" "UNASSIGNED_STACK" "[Ljava/lang/StackTraceElement;" A U H ∧ va_Zq "java/lang/Throwable" "SUPPRESSED_SENTINEL" "Ljava/util/List;" A U H ∧
  (va_Z "jdk/internal/util/Preconditions" "SIOOBE_FORMATTER" "Ljava/util/function/BiFunction;" .null A U H ∨ va_Z "jdk/internal/util/Preconditions" "SIOOBE_FORMATTER" "Ljava/util/function/BiFunction;" (.ref (E.1 3001)) A U H)
theorem kbSt.moved {E : kbE} {A : Nat → Prop} {u U : State} {H : Heap} (hvm : u.vm.Alike U.vm) (h : kbSt E A u H) : kbSt E A U H := by
  obtain ⟨h1, h2, h3, h4, h5, h6, h7⟩ := h
  exact ⟨fun i hi => ⟨va_O.moved hvm (h1 i hi).1, va_OF.moved hvm (h1 i hi).2.1, va_OF.moved hvm (h1 i hi).2.2.1, va_T.moved hvm (h1 i hi).2.2.2⟩, va_Z.moved hvm h2, va_T.moved hvm h3, va_Z.moved hvm h4, va_Zq.moved hvm h5, va_Zq.moved hvm h6, h7.imp (va_Z.moved hvm) (va_Z.moved hvm)⟩
theorem kbSt.kept {E : kbE} {A : Nat → Prop} {U : State} {H H1 : Heap} (h : kbSt E A U H) (hq : ∀ a : Nat, a < H.size → ¬ A a → H1[a]? = H[a]?) : kbSt E A U H1 := by
  obtain ⟨h1, h2, h3, h4, h5, h6, h7⟩ := h
  exact ⟨fun i hi => ⟨(h1 i hi).1.kept hq, (h1 i hi).2.1.kept hq, (h1 i hi).2.2.1.kept hq, (h1 i hi).2.2.2.kept hq⟩, h2.kept hq, h3.kept hq, h4.kept hq, h5.kept hq, h6.kept hq, h7.imp (fun h => h.kept hq) (fun h => h.kept hq)⟩
theorem kbSt.narrow {E : kbE} {A B : Nat → Prop} {U : State} {H : Heap} (h : kbSt E A U H) (hAB : ∀ q, B q → A q) : kbSt E B U H := by
  obtain ⟨h1, h2, h3, h4, h5, h6, h7⟩ := h
  exact ⟨fun i hi => ⟨(h1 i hi).1.narrow hAB, (h1 i hi).2.1.narrow hAB, (h1 i hi).2.2.1.narrow hAB, (h1 i hi).2.2.2.narrow hAB⟩, h2.narrow hAB, h3.narrow hAB, h4.narrow hAB, h5.narrow hAB, h6.narrow hAB, h7.imp (fun h => h.narrow hAB) (fun h => h.narrow hAB)⟩
/-! what the tables say that isn't a good word: members of nest mates, String constants' places -/
def kbTb (E : kbE) (U : State) : Prop := (∀ w ∈ kbNF, va_Nw w U) ∧ (∀ w ∈ kbNM, va_Nw w U) ∧ ∀ q ∈ kbSR, vk_R q.1 q.2.1 q.2.2.1 (E.1 (1000 + q.2.2.2)) U
theorem kbTb.same {E : kbE} {u U : State} (h : u.vm = U.vm) (hT : kbTb E u) : kbTb E U :=
  ⟨fun w hw => va_Nw.same (by have := List.all_eq_true.mp kbNF_on w hw; exact this) h (hT.1 w hw), fun w hw => va_Nw.same (by have := List.all_eq_true.mp kbNM_on w hw; exact this) h (hT.2.1 w hw), fun q hq => vk_R.same h.symm (hT.2.2 q hq)⟩
theorem kbTb.warm {E : kbE} {s U : State} (hW : s.WarmedH U.vm) (hT : kbTb E s) : kbTb E U := by
  refine ⟨fun w hw => ?_, fun w hw => ?_, fun q hq => vk_R.warm hW (hT.2.2 q hq)⟩
  · have h := List.all_eq_true.mp kbNF_is w hw
    have h0 := hT.1 w hw
    cases w <;> first | (exact va_Nw.warmF hW h0) | (simp at h)
  · have h := List.all_eq_true.mp kbNM_is w hw
    have h0 := hT.2.1 w hw
    cases w <;> first | (exact va_Nw.warmM hW h0) | (simp at h)
/-- the world at a state -/
def kbWD (E : kbE) (μ : kbM) (U : State) : Prop := va_P E.2.1 vwCl (kbWs E μ) U.heap ∧ va_K E.2.1 vwCl (kbTys E) U ∧ kbJ E ∧ kbTb E U ∧ kbSt E (kbAE E U.heap.size) U U.heap
theorem kbWD.calling {E : kbE} {μ : kbM} {U : State} {g : JFrame} {mk : MethodId} {a : Array Value} (h : kbWD E μ U) : kbWD E μ (U.calling g mk a) := by
  obtain ⟨h1, h2, h3, h4, h5⟩ := h
  exact ⟨h1, va_K.moved (u := U) (U := U.calling g mk a) (Vm.Alike.refl U.vm) h2, h3, kbTb.same (u := U) (U := U.calling g mk a) rfl h4, kbSt.moved (u := U) (U := U.calling g mk a) (Vm.Alike.refl U.vm) h5⟩
/-! values by places -/
def kbV (E : kbE) (v : Value) : Value := match v with
  | .ref i => .ref (E.1 i)
  | v => v
theorem kbV_cat (E : kbE) (v : Value) : (kbV E v).category = v.category := by cases v <;> rfl
theorem kbV_sum (E : kbE) (st : List Value) : ((st.map (kbV E)).map fun v => v.category).sum = (st.map fun v => v.category).sum := by
  rw [List.map_map]
  congr 1
  apply List.map_congr_left
  intro v _
  exact kbV_cat E v
/-- the locals -/
def kbL (E : kbE) (n : Nat) (L : List (Option Value)) (ls : Array Slot) : Prop := L.length = n ∧ ls.size = n ∧ lv_wf ls ∧ ∀ (i : Nat) (v : Value), L[i]? = some (some v) → ls[i]? = some (.val (kbV E v))
def kbAs (E : kbE) (L : List (Option Value)) : List (Nat × Value) := L.zipIdx.filterMap (fun q => q.1.map (fun v => (q.2, kbV E v)))
theorem kbAs_mem {E : kbE} {L : List (Option Value)} {i : Nat} {v : Value} (h : L[i]? = some (some v)) : (i, kbV E v) ∈ kbAs E L := by
  refine List.mem_filterMap.mpr ⟨(some v, i), ?_, rfl⟩
  rw [List.mem_zipIdx_iff_getElem?]
  exact h
theorem kbAs_inv {E : kbE} {L : List (Option Value)} {q : Nat × Value} (h : q ∈ kbAs E L) : ∃ v, L[q.1]? = some (some v) ∧ q.2 = kbV E v := by
  obtain ⟨⟨o, i⟩, h1, h2⟩ := List.mem_filterMap.mp h
  rw [List.mem_zipIdx_iff_getElem?] at h1
  cases o with
  | none => simp at h2
  | some v =>
    simp at h2
    subst h2
    exact ⟨v, h1, rfl⟩
theorem kbL.has {E : kbE} {n : Nat} {L : List (Option Value)} {ls : Array Slot} (h : kbL E n L ls) : lv_has ls n (kbAs E L) := by
  refine ⟨h.2.1, h.2.2.1, fun q hq => ?_⟩
  obtain ⟨v, h1, h2⟩ := kbAs_inv hq
  rw [h2]
  exact h.2.2.2 _ _ h1
/-- no long just ahead of place i -/
def kbNo (L : List (Option Value)) (i : Nat) : Bool := match i with
  | 0 => true
  | j + 1 => match L[j]? with
    | some (some v) => v.category == 1
    | _ => true
theorem kbNo_of {L : List (Option Value)} {i j : Nat} {v : Value} (h : kbNo L i = true) (hj : j + 1 = i) (hv : L[j]? = some (some v)) : v.category = 1 := by
  subst hj
  simp only [kbNo, hv] at h
  simpa using h
theorem kbL.store1 {E : kbE} {n : Nat} {L : List (Option Value)} {ls' : Array Slot} {i : Nat} {v : Value} (hn : L.length = n) (hi : i < n) (hno : kbNo L i = true)
    (h : lv_has ls' n ((i, kbV E v) :: (kbAs E L).filter (fun q => !(q.1 == i) && !(q.1 + 1 == i && q.2.category == 2)))) : kbL E n (L.set i (some v)) ls' := by
  refine ⟨by rw [List.length_set]; exact hn, h.1, h.2.1, fun j w hj => ?_⟩
  by_cases e : j = i
  · subst e
    rw [List.getElem?_set_self (by omega)] at hj
    cases hj
    exact h.2.2 (j, kbV E v) List.mem_cons_self
  · rw [List.getElem?_set_ne (Ne.symm e)] at hj
    refine h.2.2 (j, kbV E w) (List.mem_cons_of_mem _ (List.mem_filter.mpr ⟨kbAs_mem hj, ?_⟩))
    by_cases e1 : j + 1 = i
    · have := kbNo_of hno e1 hj
      simp [e, kbV_cat, this]
    · simp [e, e1]
theorem kbL.store2 {E : kbE} {n : Nat} {L : List (Option Value)} {ls' : Array Slot} {i : Nat} {v : Value} (hn : L.length = n) (hi : i + 1 < n) (hno : kbNo L i = true)
    (h : lv_has ls' n ((i, kbV E v) :: (kbAs E L).filter (fun q => !(q.1 == i) && (!(q.1 == i + 1) && !(q.1 + 1 == i && q.2.category == 2))))) : kbL E n ((L.set i (some v)).set (i + 1) none) ls' := by
  refine ⟨by rw [List.length_set, List.length_set]; exact hn, h.1, h.2.1, fun j w hj => ?_⟩
  by_cases e2 : j = i + 1
  · subst e2
    rw [List.getElem?_set_self (by rw [List.length_set]; omega)] at hj
    cases hj
  · rw [List.getElem?_set_ne (Ne.symm e2)] at hj
    by_cases e : j = i
    · subst e
      rw [List.getElem?_set_self (by omega)] at hj
      cases hj
      exact h.2.2 (j, kbV E v) List.mem_cons_self
    · rw [List.getElem?_set_ne (Ne.symm e)] at hj
      refine h.2.2 (j, kbV E w) (List.mem_cons_of_mem _ (List.mem_filter.mpr ⟨kbAs_mem hj, ?_⟩))
      by_cases e1 : j + 1 = i
      · have := kbNo_of hno e1 hj
        simp [e, e2, kbV_cat, this]
      · simp [e, e1, e2]
