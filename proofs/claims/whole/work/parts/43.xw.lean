/-! words of a throw and of a catch that aren't good ones -/
def kbXD : List Cond := [.declares ⟨"java/lang/RuntimeException", "<init>", "(Ljava/lang/String;)V"⟩, .declares ⟨"java/lang/Exception", "<init>", "(Ljava/lang/String;)V"⟩, .declares ⟨"java/lang/Throwable", "<init>", "(Ljava/lang/String;)V"⟩]
def kbXC2 : List Cond := [.castable "java/util/NoSuchElementException" "java/util/NoSuchElementException", .castable "java/lang/IllegalArgumentException" "java/lang/IllegalArgumentException"]
def kbXw (U : State) : Prop := (∀ w ∈ kbXD, va_Nw w U) ∧ (∀ w ∈ kbXC2, va_Nw w U) ∧ va_Nc "java/util/NoSuchElementException" "java/lang/IllegalArgumentException" U ∧ va_Nc "java/lang/IllegalArgumentException" "java/util/NoSuchElementException" U
theorem kx_castW {a b : String} {u U : State} (hvm : u.vm.Alike U.vm) (h : va_Nw (.castable a b) u) : va_Nw (.castable a b) U := by
  obtain ⟨c3, c4, hc3, hc4, hasg⟩ := Cond.castable_spec h
  have e1 : U.vm.findClass a = some c3 := by rw [hvm.findClass]; exact hc3
  have e2 : U.vm.findClass b = some c4 := by rw [hvm.findClass]; exact hc4
  have e3 : U.vm.assignable c3 c4 = true := by rw [hvm.assignable]; exact hasg
  unfold va_Nw Cond.before Cond.holds
  simp [Cond.value, e1, e2, e3]
theorem kbXw.warm {s U : State} (hW : s.WarmedH U.vm) (h : kbXw s) : kbXw U := by
  obtain ⟨h1, h2, h3, h4⟩ := h
  refine ⟨fun w hw => ?_, fun w hw => ?_, va_Nc.moved hW.alike h3, va_Nc.moved hW.alike h4⟩
  · have h0 := h1 w hw
    simp only [kbXD, List.mem_cons, List.not_mem_nil, or_false] at hw
    rcases hw with rfl | rfl | rfl <;> exact va_Nw.warmD hW h0
  · have h0 := h2 w hw
    simp only [kbXC2, List.mem_cons, List.not_mem_nil, or_false] at hw
    rcases hw with rfl | rfl <;> exact kx_castW hW.alike h0
theorem kbXw.calling {U : State} {g : JFrame} {mk : MethodId} {a : Array Value} (h : kbXw U) : kbXw (U.calling g mk a) := by
  obtain ⟨h1, h2, h3, h4⟩ := h
  refine ⟨fun w hw => ?_, fun w hw => ?_, va_Nc.moved (u := U) (U := U.calling g mk a) (Vm.Alike.refl U.vm) h3, va_Nc.moved (u := U) (U := U.calling g mk a) (Vm.Alike.refl U.vm) h4⟩
  · have h0 := h1 w hw
    simp only [kbXD, List.mem_cons, List.not_mem_nil, or_false] at hw
    rcases hw with rfl | rfl | rfl <;> exact va_Nw.same (u := U) (U := U.calling g mk a) rfl rfl h0
  · have h0 := h2 w hw
    simp only [kbXC2, List.mem_cons, List.not_mem_nil, or_false] at hw
    rcases hw with rfl | rfl <;> exact va_Nw.same (u := U) (U := U.calling g mk a) rfl rfl h0
