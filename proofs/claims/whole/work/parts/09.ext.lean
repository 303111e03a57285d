def kbIf {α : Type} (b : Bool) (o : Option α) : Option α := match b with
  | true => o
  | false => none
theorem kbG_if {α : Type} {b : Bool} {o : Option α} {P : α → Prop} (h : kbG (kbIf b o) P) : b = true ∧ kbG o P := by
  cases b with
  | true => exact ⟨rfl, h⟩
  | false => exact absurd h kbG_none
theorem kb_z01 {v : Int32} (h : v = 0 ∨ v = 1) : narrow .boolean (.int v) = .int v := by
  rcases h with rfl | rfl <;> rfl
/-- the answer, and the memory behind it -/
abbrev kbQe (ro : Option Value) (m : kbM) : kbQt := fun r μ' => r = ro ∧ μ' = m
