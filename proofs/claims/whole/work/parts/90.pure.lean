/-! THE PURE PART: class and reference answer alike (not done yet) -/
theorem kb_pure (xs : Nat → Int32) (k j : Nat) : kbGoes xs k j kbM0 := by
  sorry
