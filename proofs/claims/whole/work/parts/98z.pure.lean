/-! THE PURE PART: class and reference answer alike -/
theorem kbInv_0 : kbInv kbM0 := by
  refine ⟨((([], 0), [], [], fun _ => 0), none, [], [], (0, fun _ => 0), -1), ?_, ?_, ?_⟩
  · refine ⟨⟨⟨⟨Nat.zero_le _, (fun q hq => by cases hq), List.nodup_nil⟩, (show 0 < 64 by decide)⟩, Nat.zero_le _, (fun q hq => by cases hq), trivial, Nat.zero_le _, (fun q hq => by cases hq)⟩, (fun e he => by cases he), ⟨Nat.zero_le _, (fun q hq => by cases hq)⟩, ⟨Or.inl rfl, Nat.zero_le _, (fun q hq => by cases hq)⟩, Nat.zero_le _, rfl⟩
  · refine ⟨⟨⟨rfl, (fun i hi => absurd hi (Nat.not_lt_zero i))⟩, rfl, rfl, rfl, (fun i hi => absurd hi (Nat.not_lt_zero i)), (fun i hi => absurd hi (Nat.not_lt_zero i)), fun i hi => rfl⟩, rfl, (fun e he => by cases he), ⟨rfl, (fun i hi => absurd hi (Nat.not_lt_zero i))⟩, ⟨rfl, (fun i hi => absurd hi (Nat.not_lt_zero i))⟩, (fun q => absurd rfl q), ⟨rfl, (fun i hi => by have h' : i < 4 * ((0 + 3) / 4) := hi; omega)⟩, rfl⟩
  · refine ⟨⟨⟨rfl, (fun i hi => absurd hi (Nat.not_lt_zero i))⟩, rfl, rfl, rfl, (fun i hi => absurd hi (Nat.not_lt_zero i)), (fun i hi => absurd hi (Nat.not_lt_zero i)), fun i hi => rfl⟩, rfl, (fun e he => by cases he), ⟨rfl, (fun i hi => absurd hi (Nat.not_lt_zero i))⟩, ⟨rfl, (fun i hi => absurd hi (Nat.not_lt_zero i))⟩, ⟨rfl, (fun i hi => absurd hi (Nat.not_lt_zero i))⟩, rfl⟩
theorem kb_step {n : Nat} (hn : 400000000 ≤ n) {μ : kbM} (hI : kbInv μ) (u0 u1 u2 u3 u4 u5 : Int32) : ∃ μ', kbStep n u0 u1 u2 u3 u4 u5 μ = some μ' ∧ kbInv μ' := by
  unfold kbStep
  generalize u0 &&& 63 = o
  by_cases h0 : o = 0
  · rw [if_pos h0]; exact op_0 (by omega) hI u1 u2 u3 u4 u5
  rw [if_neg h0]
  by_cases h1 : o = 1
  · rw [if_pos h1]; exact op_1 (by omega) hI u1
  rw [if_neg h1]
  by_cases h2 : o = 2
  · rw [if_pos h2]; exact op_2 hI 
  rw [if_neg h2]
  by_cases h3 : o = 3
  · rw [if_pos h3]; exact op_3 (by omega) hI u1
  rw [if_neg h3]
  by_cases h4 : o = 4
  · rw [if_pos h4]; exact op_4 (by omega) hI u1 u2
  rw [if_neg h4]
  by_cases h5 : o = 5
  · rw [if_pos h5]; exact op_5 (by omega) hI u1 u2
  rw [if_neg h5]
  by_cases h6 : o = 6
  · rw [if_pos h6]; exact op_6 (by omega) hI u1 u2
  rw [if_neg h6]
  by_cases h7 : o = 7
  · rw [if_pos h7]; exact op_7 (by omega) hI u1 u2
  rw [if_neg h7]
  by_cases h8 : o = 8
  · rw [if_pos h8]; exact op_8 (by omega) hI u1 u2
  rw [if_neg h8]
  by_cases h9 : o = 9
  · rw [if_pos h9]; exact op_9 (by omega) hI u1 u2
  rw [if_neg h9]
  by_cases h10 : o = 10
  · rw [if_pos h10]; exact op_10 (by omega) hI u1 u2
  rw [if_neg h10]
  by_cases h11 : o = 11
  · rw [if_pos h11]; exact op_11 (by omega) hI u1 u2 u3
  rw [if_neg h11]
  by_cases h12 : o = 12
  · rw [if_pos h12]; exact op_12 (by omega) hI u1
  rw [if_neg h12]
  by_cases h13 : o = 13
  · rw [if_pos h13]; exact op_13 (by omega) hI u1 u2
  rw [if_neg h13]
  by_cases h14 : o = 14
  · rw [if_pos h14]; exact op_14 (by omega) hI u1 u2
  rw [if_neg h14]
  by_cases h15 : o = 15
  · rw [if_pos h15]; exact op_15 (by omega) hI u1 u2
  rw [if_neg h15]
  by_cases h16 : o = 16
  · rw [if_pos h16]; exact op_16 (by omega) hI 
  rw [if_neg h16]
  by_cases h17 : o = 17
  · rw [if_pos h17]; exact op_17 (by omega) hI u1
  rw [if_neg h17]
  by_cases h18 : o = 18
  · rw [if_pos h18]; exact op_18 (by omega) hI 
  rw [if_neg h18]
  by_cases h19 : o = 19
  · rw [if_pos h19]; exact op_19 (by omega) hI 
  rw [if_neg h19]
  by_cases h20 : o = 20
  · rw [if_pos h20]; exact op_20 (by omega) hI 
  rw [if_neg h20]
  by_cases h21 : o = 21
  · rw [if_pos h21]; exact op_21 (by omega) hI u1
  rw [if_neg h21]
  by_cases h22 : o = 22
  · rw [if_pos h22]; exact op_22 (by omega) hI u1 u2
  rw [if_neg h22]
  by_cases h23 : o = 23
  · rw [if_pos h23]; exact op_23 (by omega) hI u1
  rw [if_neg h23]
  by_cases h24 : o = 24
  · rw [if_pos h24]; exact op_24 (by omega) hI u1
  rw [if_neg h24]
  by_cases h25 : o = 25
  · rw [if_pos h25]; exact op_25 (by omega) hI u1
  rw [if_neg h25]
  by_cases h26 : o = 26
  · rw [if_pos h26]; exact op_26 (by omega) hI u1 u2
  rw [if_neg h26]
  by_cases h27 : o = 27
  · rw [if_pos h27]; exact op_27 (by omega) hI 
  rw [if_neg h27]
  by_cases h28 : o = 28
  · rw [if_pos h28]; exact op_28 (by omega) hI u1
  rw [if_neg h28]
  by_cases h29 : o = 29
  · rw [if_pos h29]; exact op_29 hI 
  rw [if_neg h29]
  by_cases h30 : o = 30
  · rw [if_pos h30]; exact op_30 (by omega) hI u1 u2
  rw [if_neg h30]
  by_cases h31 : o = 31
  · rw [if_pos h31]; exact op_31 (by omega) hI u1 u2 u3
  rw [if_neg h31]
  by_cases h32 : o = 32
  · rw [if_pos h32]; exact op_32 (by omega) hI u1 u2 u3
  rw [if_neg h32]
  by_cases h33 : o = 33
  · rw [if_pos h33]; exact op_33 (by omega) hI 
  rw [if_neg h33]
  by_cases h34 : o = 34
  · rw [if_pos h34]; exact op_34 (by omega) hI 
  rw [if_neg h34]
  exact ⟨μ, rfl, hI⟩
theorem kb_pure (xs : Nat → Int32) (k j : Nat) : kbGoes xs k j kbM0 := by
  have key : ∀ k j μ, kbInv μ → kbGoes xs k j μ := by
    intro k
    induction k with
    | zero => intro j μ _; trivial
    | succ k ih =>
      intro j μ hI
      obtain ⟨μ', e, h⟩ := kb_step (n := 1000000000) (by decide) hI (xs j) (xs (j + 1)) (xs (j + 2)) (xs (j + 3)) (xs (j + 4)) (xs (j + 5))
      exact ⟨1000000000, μ', e, ih (j + 6) μ' h⟩
  exact key k j kbM0 kbInv_0
