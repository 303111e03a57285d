/-! THE ENTRY: places, classes, texts -/
theorem kbCan_one : ∀ q ∈ kbCan, ∀ q' ∈ kbCan, q.2.2 = q'.2.2 → q = q' := by decide +kernel
theorem kbSR_lt : ∀ q ∈ kbSR, q.2.2.2 < 32 := by decide +kernel
theorem kb_classes {A : Array Value} {s : State} (hts : ∀ w ∈ kbT, w.before A s = true) : ∃ D : va_G, ∀ (c : Nat) (q : vw_C), vwCl[c]? = some q → u_Kn s q.1 q.2.1 q.2.2 (D.1 c) (D.2 c) := by
  obtain ⟨c0, i0, h0⟩ := u_known hts kbX0_in (hts _ (kt1 (i := 37) rfl rfl))
  obtain ⟨c1, i1, h1⟩ := u_known hts kbX1_in (hts _ (kt2 (i := 32) rfl rfl))
  obtain ⟨c2, i2, h2⟩ := u_known hts kbX2_in (hts _ (kt1 (i := 93) rfl rfl))
  obtain ⟨c3, i3, h3⟩ := u_known hts kbX3_in (hts _ (kt2 (i := 49) rfl rfl))
  obtain ⟨c4, i4, h4⟩ := u_known hts kbX4_in (hts _ (kt1 (i := 205) rfl rfl))
  obtain ⟨c5, i5, h5⟩ := u_known hts kbX5_in (hts _ (kt2 (i := 73) rfl rfl))
  obtain ⟨c6, i6, h6⟩ := u_known hts kbX7_in (hts _ (kt1 (i := 227) rfl rfl))
  obtain ⟨c7, i7, h7⟩ := u_known hts kbX8_in (hts _ (kt2 (i := 6) rfl rfl))
  obtain ⟨c8, i8, h8⟩ := u_known hts kbX9_in (hts _ (kt1 (i := 159) rfl rfl))
  obtain ⟨c9, i9, h9⟩ := u_known hts kbX10_in (hts _ (kt1 (i := 43) rfl rfl))
  obtain ⟨c10, i10, h10⟩ := u_known hts kbX11_in (hts _ (kt1 (i := 29) rfl rfl))
  obtain ⟨c11, i11, h11⟩ := u_known hts kbX12_in (hts _ (kt6 (i := 177) rfl rfl))
  refine ⟨(fun c => match c with | 0 => c0 | 1 => c1 | 2 => c2 | 3 => c3 | 4 => c4 | 5 => c5 | 6 => c6 | 7 => c7 | 8 => c8 | 9 => c9 | 10 => c10 | 11 => c11 | _ => c0, fun c => match c with | 0 => i0 | 1 => i1 | 2 => i2 | 3 => i3 | 4 => i4 | 5 => i5 | 6 => i6 | 7 => i7 | 8 => i8 | 9 => i9 | 10 => i10 | 11 => i11 | _ => i0), fun c q hq => ?_⟩
  match c, hq with
  | 0, hq => cases hq; exact h0
  | 1, hq => cases hq; exact h1
  | 2, hq => cases hq; exact h2
  | 3, hq => cases hq; exact h3
  | 4, hq => cases hq; exact h4
  | 5, hq => cases hq; exact h5
  | 6, hq => cases hq; exact h6
  | 7, hq => cases hq; exact h7
  | 8, hq => cases hq; exact h8
  | 9, hq => cases hq; exact h9
  | 10, hq => cases hq; exact h10
  | 11, hq => cases hq; exact h11
  | n + 12, hq => rw [List.getElem?_eq_none (by simp [vwCl])] at hq; cases hq
theorem kb_arr {A : Array Value} {s : State} {ty : FieldType} (hr : ∀ C, ty ≠ .object C) (h : (Cond.arrayClass ty).before A s = true) : ∃ cA : ClassId, ArrOfT s cA ty ∧ va_RA s cA ty := by
  obtain ⟨c, k, comp, h1, h2, h3⟩ := Cond.arrayClass_spec (args := A) (first := s) (o := none) (s := s) (idx := []) h
  refine ⟨c, fun n z => ⟨fun k h => (by cases h), k, h2, comp, h3⟩, ?_⟩
  cases ty with
  | object C => exact absurd rfl (hr C)
  | _ => exact h1
theorem kb_arrS {s : State} (h : va_AO "java/lang/String" s) : ∃ cA : ClassId, ArrOfT s cA (.object "java/lang/String") ∧ va_RA s cA (.object "java/lang/String") := by
  obtain ⟨comp, c, k, h1, h2, h3, h4, h5⟩ := Cond.arrayOver_spec h
  exact ⟨c, fun n z => ⟨fun k h => (by cases h), k, h3, comp, h4⟩, k, comp, h3, h4, h1, h5⟩
theorem kb_entry {s : State} {b : Nat} (hw : ∀ w ∈ lw_tbl, w.before #[Value.ref b] s = true) (hs : ∀ c ∈ flatC narrow_1, c.before #[Value.ref b] s = true) :
    ∃ E : kbE, va_K E.2.1 vwCl (kbTys E) s ∧ kbJ E ∧ kbTb E s ∧ kbSt E (kbAE E s.heap.size) s s.heap ∧ va_AO "java/lang/String" s ∧ kbBs E ∧ kbXw E s ∧ E.1 4000 = b ∧ ∀ i : Nat, i < kbN → E.1 i = s.heap.size + i := by
  have hts : ∀ w ∈ kbT, w.before #[Value.ref b] s = true := fun w h => hw w (kbT_in h)
  obtain ⟨D, hD⟩ := kb_classes hts
  obtain ⟨a0, x0, y0⟩ := kb_arr (ty := .int) (fun _ h => by cases h) (hts _ (kt1 (i := 91) rfl rfl))
  obtain ⟨a1, x1, y1⟩ := kb_arr (ty := .long) (fun _ h => by cases h) (hts _ (kt2 (i := 30) rfl rfl))
  obtain ⟨a2, x2, y2⟩ := kb_arr (ty := .boolean) (fun _ h => by cases h) (hts _ (kt2 (i := 47) rfl rfl))
  have hAO : va_AO "java/lang/String" s := va_AO.of (hw _ (kb_in6 (i := 183) rfl))
  obtain ⟨a3, x3, y3⟩ := kb_arrS hAO
  have hA0 : ∀ a : Nat, a < s.heap.size → ¬ (fun q => s.heap.size ≤ q) a := fun a h z => Nat.not_le.mpr h z
  have htx : ∀ i : Nat, ∃ q : Nat × Nat, i < kbTx.length → (∀ (o : String) (k : Nat), (o, k, i) ∈ kbCan → (Term.string o k).eval #[Value.ref b] s none [] s = some (.ref q.1)) ∧ va_O "java/lang/String" q.1 (fun q => s.heap.size ≤ q) s s.heap ∧ va_OF "java/lang/String" "coder" "B" (.int 0) q.1 (fun q => s.heap.size ≤ q) s s.heap ∧ va_OF "java/lang/String" "value" "[B" (.ref q.2) q.1 (fun q => s.heap.size ≤ q) s s.heap ∧ va_T .byte q.2 (kbTx.getD i []).length (fun j => .int ((kbTx.getD i []).getD j 0)) (fun q => s.heap.size ≤ q) s s.heap := by
    intro i
    by_cases hi : i < kbTx.length
    · obtain ⟨o, k, hq⟩ := kbCan_all i hi
      obtain ⟨a, v, h1, h2⟩ := kb_text (A := fun q => s.heap.size ≤ q) hs hA0 hq
      refine ⟨(a, v), fun _ => ⟨fun o' k' hq' => ?_, h2⟩⟩
      have := kbCan_one _ hq _ hq' rfl
      cases this
      exact h1
    · exact ⟨(0, 0), fun h => absurd h hi⟩
  obtain ⟨ad, had⟩ := Classical.axiomOfChoice htx
  obtain ⟨t5, g5, T5⟩ := va_Tof (tm := .static "KnockBook$Rows" "FIVES" "[I") (ty := .int) (N := 13) (f := fun j => .int (kbFv.getD j 0)) (A := fun q => s.heap.size ≤ q) (by decide) (kb_flat hs (i := 3) (by decide +kernel)) (va_eqt (kb_flat hs (i := 4) (by decide +kernel)))
    (fun j hj => by
      match j, hj with
      | 0, _ => exact va_eqt (kb_flat hs (i := 5) (by decide +kernel))
      | 1, _ => exact va_eqt (kb_flat hs (i := 6) (by decide +kernel))
      | 2, _ => exact va_eqt (kb_flat hs (i := 7) (by decide +kernel))
      | 3, _ => exact va_eqt (kb_flat hs (i := 8) (by decide +kernel))
      | 4, _ => exact va_eqt (kb_flat hs (i := 9) (by decide +kernel))
      | 5, _ => exact va_eqt (kb_flat hs (i := 10) (by decide +kernel))
      | 6, _ => exact va_eqt (kb_flat hs (i := 11) (by decide +kernel))
      | 7, _ => exact va_eqt (kb_flat hs (i := 12) (by decide +kernel))
      | 8, _ => exact va_eqt (kb_flat hs (i := 13) (by decide +kernel))
      | 9, _ => exact va_eqt (kb_flat hs (i := 14) (by decide +kernel))
      | 10, _ => exact va_eqt (kb_flat hs (i := 15) (by decide +kernel))
      | 11, _ => exact va_eqt (kb_flat hs (i := 16) (by decide +kernel))
      | 12, _ => exact va_eqt (kb_flat hs (i := 17) (by decide +kernel))
      | n + 13, h => exact absurd h (by omega)) hA0
  have Z5 := va_Zof (A := fun q => s.heap.size ≤ q) (hw _ (kb_in2 (i := 175) rfl)) (hts _ (kt1 (i := 23) rfl rfl)) g5 hA0
  have Z6 := va_Zof (A := fun q => s.heap.size ≤ q) (v := .int 1) (hw _ (kb_in4 (i := 1) rfl)) (hts _ (kt1 (i := 18) rfl rfl)) (va_eqt (kb_flat hs (i := 20) (by decide +kernel))) hA0
  have Z7 := vx_Zqof (A := fun q => s.heap.size ≤ q) (hw _ (kb_in3 (i := 165) rfl)) (hts _ (kt1 (i := 13) rfl rfl)) (kb_flat hs (i := 18) (by decide +kernel)) hA0
  have Z8 := vx_Zqof (A := fun q => s.heap.size ≤ q) (hw _ (kb_in3 (i := 167) rfl)) (hts _ (kt1 (i := 13) rfl rfl)) (kb_flat hs (i := 19) (by decide +kernel)) hA0
  have Z9 := va_Zqof (A := fun q => s.heap.size ≤ q) (hw _ (kb_in4 (i := 42) rfl)) (hts _ (kt1 (i := 21) rfl rfl)) (kb_flat hs (i := 21) (by decide +kernel)) hA0
  obtain ⟨t6, Z9⟩ : ∃ t6 : Nat, va_Z "jdk/internal/util/Preconditions" "SIOOBE_FORMATTER" "Ljava/util/function/BiFunction;" .null (fun q => s.heap.size ≤ q) s s.heap ∨ va_Z "jdk/internal/util/Preconditions" "SIOOBE_FORMATTER" "Ljava/util/function/BiFunction;" (.ref t6) (fun q => s.heap.size ≤ q) s s.heap := by
    rcases Z9 with h | ⟨t, h⟩
    · exact ⟨0, Or.inl h⟩
    · exact ⟨t, Or.inr h⟩
  let e1 : Nat → Nat := fun i => if i < 98 then s.heap.size + i else if i < 2000 then (ad (i - 1000)).1 else if i < 3000 then (ad (i - 2000)).2 else if i = 3000 then t5 else if i = 3001 then t6 else b
  let E : kbE := (e1, D, fun c => match c with | 0 => a0 | 1 => a1 | 2 => a2 | _ => a3)
  have hlen : kbTx.length = 32 := rfl
  have e98 : ∀ i : Nat, i < kbN → E.1 i = s.heap.size + i := fun i hi => if_pos hi
  have eK : ∀ i : Nat, i < 32 → E.1 (1000 + i) = (ad i).1 := fun i hi => by
    show (if 1000 + i < 98 then _ else if 1000 + i < 2000 then (ad (1000 + i - 1000)).1 else _) = _
    rw [if_neg (by omega), if_pos (by omega), show 1000 + i - 1000 = i by omega]
  have eV : ∀ i : Nat, i < 32 → E.1 (2000 + i) = (ad i).2 := fun i hi => by
    show (if 2000 + i < 98 then _ else if 2000 + i < 2000 then _ else if 2000 + i < 3000 then (ad (2000 + i - 2000)).2 else _) = _
    rw [if_neg (by omega), if_neg (by omega), if_pos (by omega), show 2000 + i - 2000 = i by omega]
  have hAE : ∀ q, kbAE E s.heap.size q → s.heap.size ≤ q := fun q hq => by
    rcases hq with ⟨i, hi, rfl⟩ | hq
    · rw [e98 i hi]; omega
    · exact hq
  refine ⟨E, ⟨hD, fun k q hk => ?_⟩, fun i j hi hj h => ?_, ⟨fun w h => va_Nw.of (List.all_eq_true.mp kbNF_on w h) (hw w (kbNF_in w h)), fun w h => va_Nw.of (List.all_eq_true.mp kbNM_on w h) (hw w (kbNM_in w h)), fun q hq => ?_⟩, ⟨fun i hi => ?_, Z5.narrow hAE, T5.narrow hAE, Z6.narrow hAE, Z7.1.narrow hAE, Z8.1.narrow hAE, Z9.imp (fun h => h.narrow hAE) (fun h => h.narrow hAE)⟩, hAO, fun i hi => ?_, ⟨⟨fun w h => ?_, fun w h => ?_, va_Nc.of (kb_flat hs (i := 37) (by decide +kernel)), va_Nc.of (kb_flat hs (i := 50) (by decide +kernel))⟩, Z7.2.narrow hAE, Z8.2.narrow hAE⟩, rfl, e98⟩
  · match k, hk with
    | 0, hk => cases hk; exact ⟨x0, y0⟩
    | 1, hk => cases hk; exact ⟨x1, y1⟩
    | 2, hk => cases hk; exact ⟨x2, y2⟩
    | 3, hk => cases hk; exact ⟨x3, y3⟩
    | n + 4, hk => rw [List.getElem?_eq_none (by simp [kbTys])] at hk; cases hk
  · rw [e98 i hi, e98 j hj] at h; omega
  · have h0 : ∀ w ∈ lw_tbl.filter (fun w => w.onTables), w.before #[] s = true := fun w h => va_tabs (List.mem_filter.mp h).2 rfl (hw w (List.mem_filter.mp h).1)
    rw [eK _ (kbSR_lt q hq)]
    exact kb_strings hs hw (ad := fun i => (ad i).1) (fun i hi o k h => (had i hi).1 o k h) q hq
  · obtain ⟨-, h2, h3, h4, h5⟩ := had i hi
    rw [hlen] at hi
    rw [eK i hi, eV i hi]
    exact ⟨h2.narrow hAE, h3.narrow hAE, h4.narrow hAE, h5.narrow hAE⟩
  · rw [e98 i hi, e98 0 (by decide)]; rfl
  · simp only [kbXD, List.mem_cons, List.not_mem_nil, or_false] at h
    rcases h with rfl | rfl | rfl
    · exact va_Nw.of rfl (hw _ (kb_in3 (i := 142) rfl))
    · exact va_Nw.of rfl (hw _ (kb_in3 (i := 144) rfl))
    · exact va_Nw.of rfl (hw _ (kb_in3 (i := 146) rfl))
  · simp only [kbXC2, List.mem_cons, List.not_mem_nil, or_false] at h
    rcases h with rfl | rfl
    · exact va_Nw.of rfl (hw _ (kb_in5 (i := 8) rfl))
    · exact va_Nw.of rfl (hw _ (kb_in3 (i := 140) rfl))
