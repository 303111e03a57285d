/-! words of a throw and of a catch that aren't good ones -/
def kbXD : List Cond := [.declares ⟨"java/lang/RuntimeException", "<init>", "(Ljava/lang/String;)V"⟩, .declares ⟨"java/lang/Exception", "<init>", "(Ljava/lang/String;)V"⟩, .declares ⟨"java/lang/Throwable", "<init>", "(Ljava/lang/String;)V"⟩]
def kbXC2 : List Cond := [.castable "java/util/NoSuchElementException" "java/util/NoSuchElementException", .castable "java/lang/IllegalArgumentException" "java/lang/IllegalArgumentException"]
def kbXv (U : State) : Prop := (∀ w ∈ kbXD, va_Nw w U) ∧ (∀ w ∈ kbXC2, va_Nw w U) ∧ va_Nc "java/util/NoSuchElementException" "java/lang/IllegalArgumentException" U ∧ va_Nc "java/lang/IllegalArgumentException" "java/util/NoSuchElementException" U
theorem kx_castW {a b : String} {u U : State} (hvm : u.vm.Alike U.vm) (h : va_Nw (.castable a b) u) : va_Nw (.castable a b) U := by
  obtain ⟨c3, c4, hc3, hc4, hasg⟩ := Cond.castable_spec h
  have e1 : U.vm.findClass a = some c3 := by rw [hvm.findClass]; exact hc3
  have e2 : U.vm.findClass b = some c4 := by rw [hvm.findClass]; exact hc4
  have e3 : U.vm.assignable c3 c4 = true := by rw [hvm.assignable]; exact hasg
  unfold va_Nw Cond.before Cond.holds
  simp [Cond.value, e1, e2, e3]
theorem kbXv.warm {s U : State} (hW : s.WarmedH U.vm) (h : kbXv s) : kbXv U := by
  obtain ⟨h1, h2, h3, h4⟩ := h
  refine ⟨fun w hw => ?_, fun w hw => ?_, va_Nc.moved hW.alike h3, va_Nc.moved hW.alike h4⟩
  · have h0 := h1 w hw
    simp only [kbXD, List.mem_cons, List.not_mem_nil, or_false] at hw
    rcases hw with rfl | rfl | rfl <;> exact va_Nw.warmD hW h0
  · have h0 := h2 w hw
    simp only [kbXC2, List.mem_cons, List.not_mem_nil, or_false] at hw
    rcases hw with rfl | rfl <;> exact kx_castW hW.alike h0
theorem kbXv.calling {U : State} {g : JFrame} {mk : MethodId} {a : Array Value} (h : kbXv U) : kbXv (U.calling g mk a) := by
  obtain ⟨h1, h2, h3, h4⟩ := h
  refine ⟨fun w hw => ?_, fun w hw => ?_, va_Nc.moved (u := U) (U := U.calling g mk a) (Vm.Alike.refl U.vm) h3, va_Nc.moved (u := U) (U := U.calling g mk a) (Vm.Alike.refl U.vm) h4⟩
  · have h0 := h1 w hw
    simp only [kbXD, List.mem_cons, List.not_mem_nil, or_false] at hw
    rcases hw with rfl | rfl | rfl <;> exact va_Nw.same (u := U) (U := U.calling g mk a) rfl rfl h0
  · have h0 := h2 w hw
    simp only [kbXC2, List.mem_cons, List.not_mem_nil, or_false] at hw
    rcases hw with rfl | rfl <;> exact va_Nw.same (u := U) (U := U.calling g mk a) rfl rfl h0
/-- .. with where Throwable's two statics lie -/
def kbXw (E : kbE) (U : State) : Prop := kbXv U ∧ vx_L Bundle.tN "UNASSIGNED_STACK" Bundle.steD (kbAE E U.heap.size) U U.heap ∧ vx_L Bundle.tN "SUPPRESSED_SENTINEL" Bundle.listD (kbAE E U.heap.size) U U.heap
theorem kbXw.at {E : kbE} {s U : State} {H : Heap} {locs : List Loc} (h : kbXw E s) (hS : va_S (kbAE E s.heap.size) s.heap H locs) (hU : U.heap = H) (hW : s.WarmedH U.vm) : kbXw E U := by
  have hn : ∀ q, kbAE E U.heap.size q → kbAE E s.heap.size q := fun q hq => by
    rcases hq with hq | hq
    · exact Or.inl hq
    · rw [hU] at hq; exact Or.inr (Nat.le_trans hS.1 hq)
  refine ⟨h.1.warm hW, ?_, ?_⟩
  · exact (vx_L.moved hW.alike (by rw [hU]; exact h.2.1.kept hS.2.1)).narrow hn
  · exact (vx_L.moved hW.alike (by rw [hU]; exact h.2.2.kept hS.2.1)).narrow hn
theorem kbXw.calling {E : kbE} {U : State} {g : JFrame} {mk : MethodId} {a : Array Value} (h : kbXw E U) : kbXw E (U.calling g mk a) :=
  ⟨h.1.calling, vx_L.moved (u := U) (U := U.calling g mk a) (Vm.Alike.refl U.vm) h.2.1, vx_L.moved (u := U) (U := U.calling g mk a) (Vm.Alike.refl U.vm) h.2.2⟩
