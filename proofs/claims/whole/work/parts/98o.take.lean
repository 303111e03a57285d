/-! the model's book -/
theorem th_61 {n : Nat} (hn : 1000 ≤ n) (μ : kbM) : ∃ μ', f_MD_takeHalf_61 n μ = some μ' ∧ (∀ a, a ≠ 61 → μ'.1 a = μ.1 a) ∧ ∀ i, i < 3 → μ'.1 61 i = μ.1 61 (3 + i) := by
  obtain ⟨r, e, q⟩ := kn_for (fun k (s : Int32 × kbM) => lp_MD_takeHalf_61_2 n k s.1 s.2)
    (fun j s => s.1 = nI j ∧ (∀ a, a ≠ 61 → s.2.1 a = μ.1 a) ∧ (∀ i, i < j → s.2.1 61 i = μ.1 61 (3 + i)) ∧ ∀ i, j ≤ i → s.2.1 61 i = μ.1 61 i) 3
    (fun r => (∀ a, a ≠ 61 → r.1 a = μ.1 a) ∧ ∀ i, i < 3 → r.1 61 i = μ.1 61 (3 + i))
    (fun k s hI => by
      obtain ⟨h1, h2, h3, h4⟩ := hI
      refine ⟨s.2, ?_, h2, h3⟩
      simp only [lp_MD_takeHalf_61_2]
      rw [h1, if_pos (by decide)])
    (fun k i s hi hI => by
      obtain ⟨h1, h2, h3, h4⟩ := hI
      refine Or.inr ⟨(nI (i + 1), kbW s.2 61 i (s.2.1 61 (3 + i))), ?_, rfl, fun a ha => (kW_ne ha).trans (h2 a ha), fun j hj => ?_, fun j hj => ?_⟩
      · simp only [lp_MD_takeHalf_61_2]
        rw [h1, show ((6 : Int32) / 2) = nI 3 from by decide, if_neg (by rw [nI_leI (by decide) (by omega)]; omega), nI_add, kn_inT (show 3 + i < 6 by omega) (by omega), kn_if_t, kn_inT (show i < 6 by omega) (by omega), kn_if_t, nI_clamp (show i < 2 ^ 31 by omega), nI_clamp (show 3 + i < 2 ^ 31 by omega), nI_1]
      · by_cases ej : j = i
        · subst ej; exact kW_at.trans (h4 _ (by omega))
        · exact (kW_no ej).trans (h3 j (by omega))
      · exact (kW_no (by omega)).trans (h4 j (by omega)))
    3 0 n (0, μ) (by omega) (by omega) ⟨rfl, fun _ _ => rfl, fun i hi => absurd hi (Nat.not_lt_zero i), fun _ _ => rfl⟩
  have e' : lp_MD_takeHalf_61_2 n n 0 μ = some r := e
  unfold f_MD_takeHalf_61
  rw [e', kn_bs]
  exact ⟨r, rfl, q.1, q.2⟩
theorem th_62 {n : Nat} (hn : 1000 ≤ n) (μ : kbM) : ∃ μ', f_MD_takeHalf_62 n μ = some μ' ∧ (∀ a, a ≠ 62 → μ'.1 a = μ.1 a) ∧ ∀ i, i < 10 → μ'.1 62 i = μ.1 62 (10 + i) := by
  obtain ⟨r, e, q⟩ := kn_for (fun k (s : Int32 × kbM) => lp_MD_takeHalf_62_2 n k s.1 s.2)
    (fun j s => s.1 = nI j ∧ (∀ a, a ≠ 62 → s.2.1 a = μ.1 a) ∧ (∀ i, i < j → s.2.1 62 i = μ.1 62 (10 + i)) ∧ ∀ i, j ≤ i → s.2.1 62 i = μ.1 62 i) 10
    (fun r => (∀ a, a ≠ 62 → r.1 a = μ.1 a) ∧ ∀ i, i < 10 → r.1 62 i = μ.1 62 (10 + i))
    (fun k s hI => by
      obtain ⟨h1, h2, h3, h4⟩ := hI
      refine ⟨s.2, ?_, h2, h3⟩
      simp only [lp_MD_takeHalf_62_2]
      rw [h1, if_pos (by decide)])
    (fun k i s hi hI => by
      obtain ⟨h1, h2, h3, h4⟩ := hI
      refine Or.inr ⟨(nI (i + 1), kbW s.2 62 i (s.2.1 62 (10 + i))), ?_, rfl, fun a ha => (kW_ne ha).trans (h2 a ha), fun j hj => ?_, fun j hj => ?_⟩
      · simp only [lp_MD_takeHalf_62_2]
        rw [h1, show ((20 : Int32) / 2) = nI 10 from by decide, if_neg (by rw [nI_leI (by decide) (by omega)]; omega), nI_add, kn_inT (show 10 + i < 20 by omega) (by omega), kn_if_t, kn_inT (show i < 20 by omega) (by omega), kn_if_t, nI_clamp (show i < 2 ^ 31 by omega), nI_clamp (show 10 + i < 2 ^ 31 by omega), nI_1]
      · by_cases ej : j = i
        · subst ej; exact kW_at.trans (h4 _ (by omega))
        · exact (kW_no ej).trans (h3 j (by omega))
      · exact (kW_no (by omega)).trans (h4 j (by omega)))
    10 0 n (0, μ) (by omega) (by omega) ⟨rfl, fun _ _ => rfl, fun i hi => absurd hi (Nat.not_lt_zero i), fun _ _ => rfl⟩
  have e' : lp_MD_takeHalf_62_2 n n 0 μ = some r := e
  unfold f_MD_takeHalf_62
  rw [e', kn_bs]
  exact ⟨r, rfl, q.1, q.2⟩
theorem th_63 {n : Nat} (hn : 1000 ≤ n) (μ : kbM) : ∃ μ', f_MD_takeHalf_63 n μ = some μ' ∧ (∀ a, a ≠ 63 → μ'.1 a = μ.1 a) ∧ ∀ i, i < 10 → μ'.1 63 i = μ.1 63 (10 + i) := by
  obtain ⟨r, e, q⟩ := kn_for (fun k (s : Int32 × kbM) => lp_MD_takeHalf_63_2 n k s.1 s.2)
    (fun j s => s.1 = nI j ∧ (∀ a, a ≠ 63 → s.2.1 a = μ.1 a) ∧ (∀ i, i < j → s.2.1 63 i = μ.1 63 (10 + i)) ∧ ∀ i, j ≤ i → s.2.1 63 i = μ.1 63 i) 10
    (fun r => (∀ a, a ≠ 63 → r.1 a = μ.1 a) ∧ ∀ i, i < 10 → r.1 63 i = μ.1 63 (10 + i))
    (fun k s hI => by
      obtain ⟨h1, h2, h3, h4⟩ := hI
      refine ⟨s.2, ?_, h2, h3⟩
      simp only [lp_MD_takeHalf_63_2]
      rw [h1, if_pos (by decide)])
    (fun k i s hi hI => by
      obtain ⟨h1, h2, h3, h4⟩ := hI
      refine Or.inr ⟨(nI (i + 1), kbW s.2 63 i (s.2.1 63 (10 + i))), ?_, rfl, fun a ha => (kW_ne ha).trans (h2 a ha), fun j hj => ?_, fun j hj => ?_⟩
      · simp only [lp_MD_takeHalf_63_2]
        rw [h1, show ((20 : Int32) / 2) = nI 10 from by decide, if_neg (by rw [nI_leI (by decide) (by omega)]; omega), nI_add, kn_inT (show 10 + i < 20 by omega) (by omega), kn_if_t, kn_inT (show i < 20 by omega) (by omega), kn_if_t, nI_clamp (show i < 2 ^ 31 by omega), nI_clamp (show 10 + i < 2 ^ 31 by omega), nI_1]
      · by_cases ej : j = i
        · subst ej; exact kW_at.trans (h4 _ (by omega))
        · exact (kW_no ej).trans (h3 j (by omega))
      · exact (kW_no (by omega)).trans (h4 j (by omega)))
    10 0 n (0, μ) (by omega) (by omega) ⟨rfl, fun _ _ => rfl, fun i hi => absurd hi (Nat.not_lt_zero i), fun _ _ => rfl⟩
  have e' : lp_MD_takeHalf_63_2 n n 0 μ = some r := e
  unfold f_MD_takeHalf_63
  rw [e', kn_bs]
  exact ⟨r, rfl, q.1, q.2⟩
theorem th_64 {n : Nat} (hn : 1000 ≤ n) (μ : kbM) : ∃ μ', f_MD_takeHalf_64 n μ = some μ' ∧ (∀ a, a ≠ 64 → μ'.1 a = μ.1 a) ∧ ∀ i, i < 10 → μ'.1 64 i = μ.1 64 (10 + i) := by
  obtain ⟨r, e, q⟩ := kn_for (fun k (s : Int32 × kbM) => lp_MD_takeHalf_64_2 n k s.1 s.2)
    (fun j s => s.1 = nI j ∧ (∀ a, a ≠ 64 → s.2.1 a = μ.1 a) ∧ (∀ i, i < j → s.2.1 64 i = μ.1 64 (10 + i)) ∧ ∀ i, j ≤ i → s.2.1 64 i = μ.1 64 i) 10
    (fun r => (∀ a, a ≠ 64 → r.1 a = μ.1 a) ∧ ∀ i, i < 10 → r.1 64 i = μ.1 64 (10 + i))
    (fun k s hI => by
      obtain ⟨h1, h2, h3, h4⟩ := hI
      refine ⟨s.2, ?_, h2, h3⟩
      simp only [lp_MD_takeHalf_64_2]
      rw [h1, if_pos (by decide)])
    (fun k i s hi hI => by
      obtain ⟨h1, h2, h3, h4⟩ := hI
      refine Or.inr ⟨(nI (i + 1), kbW s.2 64 i (s.2.1 64 (10 + i))), ?_, rfl, fun a ha => (kW_ne ha).trans (h2 a ha), fun j hj => ?_, fun j hj => ?_⟩
      · simp only [lp_MD_takeHalf_64_2]
        rw [h1, show ((20 : Int32) / 2) = nI 10 from by decide, if_neg (by rw [nI_leI (by decide) (by omega)]; omega), nI_add, kn_inT (show 10 + i < 20 by omega) (by omega), kn_if_t, kn_inT (show i < 20 by omega) (by omega), kn_if_t, nI_clamp (show i < 2 ^ 31 by omega), nI_clamp (show 10 + i < 2 ^ 31 by omega), nI_1]
      · by_cases ej : j = i
        · subst ej; exact kW_at.trans (h4 _ (by omega))
        · exact (kW_no ej).trans (h3 j (by omega))
      · exact (kW_no (by omega)).trans (h4 j (by omega)))
    10 0 n (0, μ) (by omega) (by omega) ⟨rfl, fun _ _ => rfl, fun i hi => absurd hi (Nat.not_lt_zero i), fun _ _ => rfl⟩
  have e' : lp_MD_takeHalf_64_2 n n 0 μ = some r := e
  unfold f_MD_takeHalf_64
  rw [e', kn_bs]
  exact ⟨r, rfl, q.1, q.2⟩
theorem th_65 {n : Nat} (hn : 1000 ≤ n) (μ : kbM) : ∃ μ', f_MD_takeHalf_65 n μ = some μ' ∧ (∀ a, a ≠ 65 → μ'.1 a = μ.1 a) ∧ ∀ i, i < 6 → μ'.1 65 i = μ.1 65 (6 + i) := by
  obtain ⟨r, e, q⟩ := kn_for (fun k (s : Int32 × kbM) => lp_MD_takeHalf_65_2 n k s.1 s.2)
    (fun j s => s.1 = nI j ∧ (∀ a, a ≠ 65 → s.2.1 a = μ.1 a) ∧ (∀ i, i < j → s.2.1 65 i = μ.1 65 (6 + i)) ∧ ∀ i, j ≤ i → s.2.1 65 i = μ.1 65 i) 6
    (fun r => (∀ a, a ≠ 65 → r.1 a = μ.1 a) ∧ ∀ i, i < 6 → r.1 65 i = μ.1 65 (6 + i))
    (fun k s hI => by
      obtain ⟨h1, h2, h3, h4⟩ := hI
      refine ⟨s.2, ?_, h2, h3⟩
      simp only [lp_MD_takeHalf_65_2]
      rw [h1, if_pos (by decide)])
    (fun k i s hi hI => by
      obtain ⟨h1, h2, h3, h4⟩ := hI
      refine Or.inr ⟨(nI (i + 1), kbW s.2 65 i (s.2.1 65 (6 + i))), ?_, rfl, fun a ha => (kW_ne ha).trans (h2 a ha), fun j hj => ?_, fun j hj => ?_⟩
      · simp only [lp_MD_takeHalf_65_2]
        rw [h1, show ((12 : Int32) / 2) = nI 6 from by decide, if_neg (by rw [nI_leI (by decide) (by omega)]; omega), nI_add, kn_inT (show 6 + i < 12 by omega) (by omega), kn_if_t, kn_inT (show i < 12 by omega) (by omega), kn_if_t, nI_clamp (show i < 2 ^ 31 by omega), nI_clamp (show 6 + i < 2 ^ 31 by omega), nI_1]
      · by_cases ej : j = i
        · subst ej; exact kW_at.trans (h4 _ (by omega))
        · exact (kW_no ej).trans (h3 j (by omega))
      · exact (kW_no (by omega)).trans (h4 j (by omega)))
    6 0 n (0, μ) (by omega) (by omega) ⟨rfl, fun _ _ => rfl, fun i hi => absurd hi (Nat.not_lt_zero i), fun _ _ => rfl⟩
  have e' : lp_MD_takeHalf_65_2 n n 0 μ = some r := e
  unfold f_MD_takeHalf_65
  rw [e', kn_bs]
  exact ⟨r, rfl, q.1, q.2⟩
theorem th_66 {n : Nat} (hn : 1000 ≤ n) (μ : kbM) : ∃ μ', f_MD_takeHalf_66 n μ = some μ' ∧ (∀ a, a ≠ 66 → μ'.1 a = μ.1 a) ∧ ∀ i, i < 6 → μ'.1 66 i = μ.1 66 (6 + i) := by
  obtain ⟨r, e, q⟩ := kn_for (fun k (s : Int32 × kbM) => lp_MD_takeHalf_66_2 n k s.1 s.2)
    (fun j s => s.1 = nI j ∧ (∀ a, a ≠ 66 → s.2.1 a = μ.1 a) ∧ (∀ i, i < j → s.2.1 66 i = μ.1 66 (6 + i)) ∧ ∀ i, j ≤ i → s.2.1 66 i = μ.1 66 i) 6
    (fun r => (∀ a, a ≠ 66 → r.1 a = μ.1 a) ∧ ∀ i, i < 6 → r.1 66 i = μ.1 66 (6 + i))
    (fun k s hI => by
      obtain ⟨h1, h2, h3, h4⟩ := hI
      refine ⟨s.2, ?_, h2, h3⟩
      simp only [lp_MD_takeHalf_66_2]
      rw [h1, if_pos (by decide)])
    (fun k i s hi hI => by
      obtain ⟨h1, h2, h3, h4⟩ := hI
      refine Or.inr ⟨(nI (i + 1), kbW s.2 66 i (s.2.1 66 (6 + i))), ?_, rfl, fun a ha => (kW_ne ha).trans (h2 a ha), fun j hj => ?_, fun j hj => ?_⟩
      · simp only [lp_MD_takeHalf_66_2]
        rw [h1, show ((12 : Int32) / 2) = nI 6 from by decide, if_neg (by rw [nI_leI (by decide) (by omega)]; omega), nI_add, kn_inT (show 6 + i < 12 by omega) (by omega), kn_if_t, kn_inT (show i < 12 by omega) (by omega), kn_if_t, nI_clamp (show i < 2 ^ 31 by omega), nI_clamp (show 6 + i < 2 ^ 31 by omega), nI_1]
      · by_cases ej : j = i
        · subst ej; exact kW_at.trans (h4 _ (by omega))
        · exact (kW_no ej).trans (h3 j (by omega))
      · exact (kW_no (by omega)).trans (h4 j (by omega)))
    6 0 n (0, μ) (by omega) (by omega) ⟨rfl, fun _ _ => rfl, fun i hi => absurd hi (Nat.not_lt_zero i), fun _ _ => rfl⟩
  have e' : lp_MD_takeHalf_66_2 n n 0 μ = some r := e
  unfold f_MD_takeHalf_66
  rw [e', kn_bs]
  exact ⟨r, rfl, q.1, q.2⟩
theorem th_67 {n : Nat} (hn : 1000 ≤ n) (μ : kbM) : ∃ μ', f_MD_takeHalf_67 n μ = some μ' ∧ (∀ a, a ≠ 67 → μ'.1 a = μ.1 a) ∧ ∀ i, i < 600 → μ'.1 67 i = μ.1 67 (600 + i) := by
  obtain ⟨r, e, q⟩ := kn_for (fun k (s : Int32 × kbM) => lp_MD_takeHalf_67_2 n k s.1 s.2)
    (fun j s => s.1 = nI j ∧ (∀ a, a ≠ 67 → s.2.1 a = μ.1 a) ∧ (∀ i, i < j → s.2.1 67 i = μ.1 67 (600 + i)) ∧ ∀ i, j ≤ i → s.2.1 67 i = μ.1 67 i) 600
    (fun r => (∀ a, a ≠ 67 → r.1 a = μ.1 a) ∧ ∀ i, i < 600 → r.1 67 i = μ.1 67 (600 + i))
    (fun k s hI => by
      obtain ⟨h1, h2, h3, h4⟩ := hI
      refine ⟨s.2, ?_, h2, h3⟩
      simp only [lp_MD_takeHalf_67_2]
      rw [h1, if_pos (by decide)])
    (fun k i s hi hI => by
      obtain ⟨h1, h2, h3, h4⟩ := hI
      refine Or.inr ⟨(nI (i + 1), kbW s.2 67 i (s.2.1 67 (600 + i))), ?_, rfl, fun a ha => (kW_ne ha).trans (h2 a ha), fun j hj => ?_, fun j hj => ?_⟩
      · simp only [lp_MD_takeHalf_67_2]
        rw [h1, show ((1200 : Int32) / 2) = nI 600 from by decide, if_neg (by rw [nI_leI (by decide) (by omega)]; omega), nI_add, kn_inT (show 600 + i < 1200 by omega) (by omega), kn_if_t, kn_inT (show i < 1200 by omega) (by omega), kn_if_t, nI_clamp (show i < 2 ^ 31 by omega), nI_clamp (show 600 + i < 2 ^ 31 by omega), nI_1]
      · by_cases ej : j = i
        · subst ej; exact kW_at.trans (h4 _ (by omega))
        · exact (kW_no ej).trans (h3 j (by omega))
      · exact (kW_no (by omega)).trans (h4 j (by omega)))
    600 0 n (0, μ) (by omega) (by omega) ⟨rfl, fun _ _ => rfl, fun i hi => absurd hi (Nat.not_lt_zero i), fun _ _ => rfl⟩
  have e' : lp_MD_takeHalf_67_2 n n 0 μ = some r := e
  unfold f_MD_takeHalf_67
  rw [e', kn_bs]
  exact ⟨r, rfl, q.1, q.2⟩
theorem m_tow {n : Nat} (hn : 1000 ≤ n) {μ : kbM} {w : Nat} (hw : w ≤ 10) (h27 : μ.1 57 27 = nI w) : ∃ r, lp_MD_takeOver_66 n n 0 μ = some r ∧ (∀ a, a ≠ 70 → a ≠ 71 → a ≠ 72 → r.1 a = μ.1 a) ∧ ∀ i, i < w → r.1 70 i = μ.1 62 i ∧ r.1 71 i = μ.1 63 i ∧ r.1 72 i = μ.1 64 i := by
  obtain ⟨r, e, q⟩ := kn_for (fun k (s : Int32 × kbM) => lp_MD_takeOver_66 n k s.1 s.2)
    (fun j s => s.1 = nI j ∧ (∀ a, a ≠ 70 → a ≠ 71 → a ≠ 72 → s.2.1 a = μ.1 a) ∧ ∀ i, i < j → i < w → s.2.1 70 i = μ.1 62 i ∧ s.2.1 71 i = μ.1 63 i ∧ s.2.1 72 i = μ.1 64 i) 10
    (fun r => (∀ a, a ≠ 70 → a ≠ 71 → a ≠ 72 → r.1 a = μ.1 a) ∧ ∀ i, i < w → r.1 70 i = μ.1 62 i ∧ r.1 71 i = μ.1 63 i ∧ r.1 72 i = μ.1 64 i)
    (fun k s hI => by
      obtain ⟨h1, h2, h3⟩ := hI
      refine ⟨s.2, ?_, h2, fun i hi => h3 i (by omega) hi⟩
      simp only [lp_MD_takeOver_66]
      rw [h1, if_pos (by decide)])
    (fun k i s hi hI => by
      obtain ⟨h1, h2, h3⟩ := hI
      have e57 : s.2.1 57 27 = nI w := by rw [h2 57 (by decide) (by decide) (by decide)]; exact h27
      have e62 : s.2.1 62 = μ.1 62 := h2 62 (by decide) (by decide) (by decide)
      have e63 : s.2.1 63 = μ.1 63 := h2 63 (by decide) (by decide) (by decide)
      have e64 : s.2.1 64 = μ.1 64 := h2 64 (by decide) (by decide) (by decide)
      have w1 : ∀ v, (kbW s.2 70 i v).1 57 27 = nI w := fun v => by rw [kW_ne (by decide)]; exact e57
      have w2 : ∀ v u, (kbW (kbW s.2 70 i v) 71 i u).1 57 27 = nI w := fun v u => by rw [kW_ne (by decide)]; exact w1 v
      have w3 : ∀ v, (kbW s.2 70 i v).1 63 = μ.1 63 := fun v => by rw [kW_ne (by decide)]; exact e63
      have w4 : ∀ v u, (kbW (kbW s.2 70 i v) 71 i u).1 64 = μ.1 64 := fun v u => by rw [kW_ne (by decide), kW_ne (by decide)]; exact e64
      have fin : ∀ a b c, (∀ z, z ≠ 70 → z ≠ 71 → z ≠ 72 → (kbW (kbW (kbW s.2 70 i a) 71 i b) 72 i c).1 z = μ.1 z) := fun a b c z z1 z2 z3 => by rw [kW_ne z3, kW_ne z2, kW_ne z1]; exact h2 z z1 z2 z3
      have old : ∀ a b c j, j < i + 1 → j ≠ i → j < w → (kbW (kbW (kbW s.2 70 i a) 71 i b) 72 i c).1 70 j = μ.1 62 j ∧ (kbW (kbW (kbW s.2 70 i a) 71 i b) 72 i c).1 71 j = μ.1 63 j ∧ (kbW (kbW (kbW s.2 70 i a) 71 i b) 72 i c).1 72 j = μ.1 64 j := fun a b c j hj hn hw => by
        obtain ⟨q1, q2, q3⟩ := h3 j (by omega) hw
        refine ⟨?_, ?_, ?_⟩
        · rw [kW_ne (by decide), kW_ne (by decide), kW_no hn]; exact q1
        · rw [kW_ne (by decide), kW_no hn, kW_ne (by decide)]; exact q2
        · rw [kW_no hn, kW_ne (by decide), kW_ne (by decide)]; exact q3
      by_cases hiw : i < w
      · refine Or.inr ⟨(nI (i + 1), kbW (kbW (kbW s.2 70 i (μ.1 62 i)) 71 i (μ.1 63 i)) 72 i (μ.1 64 i)), ?_, rfl, fin _ _ _, fun j hj hw => ?_⟩
        · simp only [lp_MD_takeOver_66]
          unfold jn_MD_takeOver_95 jn_MD_takeOver_119 jn_MD_takeOver_143
          rw [h1, kl_10, if_neg (show ¬ nI 10 ≤ nI i by rw [nI_leI (by decide) (by omega)]; omega), nI_clamp (by omega), kn_inT (show i < 10 by omega) (by omega), kn_inT (show i < 20 by omega) (by omega)]
          simp only [kn_if_t]
          simp only [e57, e62, w1, w2, w3, w4]
          have nn : ¬ nI w ≤ nI i := by rw [nI_leI (by omega) (by omega)]; omega
          simp only [if_neg nn, nI_1]
        · by_cases ej : j = i
          · subst ej
            refine ⟨?_, ?_, kW_at⟩
            · rw [kW_ne (by decide), kW_ne (by decide), kW_at]
            · rw [kW_ne (by decide), kW_at]
          · exact old _ _ _ j hj ej hw
      · refine Or.inr ⟨(nI (i + 1), kbW (kbW (kbW s.2 70 i 0) 71 i 0) 72 i 0), ?_, rfl, fin _ _ _, fun j hj hw => ?_⟩
        · simp only [lp_MD_takeOver_66]
          unfold jn_MD_takeOver_95 jn_MD_takeOver_119 jn_MD_takeOver_143
          rw [h1, kl_10, if_neg (show ¬ nI 10 ≤ nI i by rw [nI_leI (by decide) (by omega)]; omega), nI_clamp (by omega), kn_inT (show i < 10 by omega) (by omega), kn_inT (show i < 20 by omega) (by omega)]
          simp only [kn_if_t]
          simp only [e57, e62, w1, w2, w3, w4]
          have nn : nI w ≤ nI i := by rw [nI_leI (by omega) (by omega)]; omega
          simp only [if_pos nn, nI_1]
        · exact old _ _ _ j hj (by omega) hw)
    10 0 n (0, μ) (by omega) (by omega) ⟨rfl, fun _ _ _ _ => rfl, fun i hi => absurd hi (Nat.not_lt_zero i)⟩
  exact ⟨r, e, q.1, q.2⟩
theorem m_take {n : Nat} (hn : 1000 ≤ n) {μ : kbM} {o : List Int × zW × List (Nat × Nat)} (h : mOo μ o) (hb : bOk o) : ∃ μ', f_MD_takeOver n μ = some μ' ∧ mWords μ' o.2.1 ∧ mDoors μ' o.2.2 ∧ mCode μ' o.1 ∧ μ'.1 57 28 = 0 ∧ μ'.1 57 29 = 0 ∧ μ'.1 57 30 = 0 ∧ μ'.1 57 52 = 0 := by
  obtain ⟨⟨o1, o1'⟩, ⟨o2, o2'⟩, o3, o3'⟩ := h
  have hw := hb.2.1.1
  have hd := hb.2.2.1
  have hc := hb.1.2.1
  obtain ⟨μ1, e1, a1, b1⟩ := th_61 hn μ
  obtain ⟨μ2, e2, a2, b2⟩ := th_62 hn μ1
  obtain ⟨μ3, e3, a3, b3⟩ := th_63 hn μ2
  obtain ⟨μ4, e4, a4, b4⟩ := th_64 hn μ3
  obtain ⟨μ5, e5, a5, b5⟩ := th_65 hn μ4
  obtain ⟨μ6, e6, a6, b6⟩ := th_66 hn μ5
  obtain ⟨μ7, e7, a7, b7⟩ := th_67 hn μ6
  have c61 : μ7.1 61 = μ1.1 61 := by rw [a7 61 (by decide), a6 61 (by decide), a5 61 (by decide), a4 61 (by decide), a3 61 (by decide), a2 61 (by decide)]
  have c62 : μ7.1 62 = μ2.1 62 := by rw [a7 62 (by decide), a6 62 (by decide), a5 62 (by decide), a4 62 (by decide), a3 62 (by decide)]
  have c63 : μ7.1 63 = μ3.1 63 := by rw [a7 63 (by decide), a6 63 (by decide), a5 63 (by decide), a4 63 (by decide)]
  have c64 : μ7.1 64 = μ4.1 64 := by rw [a7 64 (by decide), a6 64 (by decide), a5 64 (by decide)]
  have c65 : μ7.1 65 = μ5.1 65 := by rw [a7 65 (by decide), a6 65 (by decide)]
  have c66 : μ7.1 66 = μ6.1 66 := a7 66 (by decide)
  have d0 : μ7.1 61 0 = nI o.2.1.length := by rw [c61, b1 0 (by decide)]; exact o2
  have d1 : μ7.1 61 1 = nI o.2.2.length := by rw [c61, b1 1 (by decide)]; exact o3
  have d2 : μ7.1 61 2 = nI o.1.length := by rw [c61, b1 2 (by decide)]; exact o1
  obtain ⟨μ8, e8, a8, b8⟩ := m_tow hn (μ := kbW (kbW μ7 57 27 (μ7.1 61 0)) 57 28 0) hw (by rw [kW_no (by decide), kW_at]; exact d0)
  have z : ∀ a, a ≠ 57 → a ≠ 70 → a ≠ 71 → a ≠ 72 → (kbW (kbW (kbW μ8 57 29 0) 57 30 0) 57 52 0).1 a = μ7.1 a := fun a q0 q1 q2 q3 => by rw [kW_ne q0, kW_ne q0, kW_ne q0, a8 a q1 q2 q3, kW_ne q0, kW_ne q0]
  have y : ∀ a, a ≠ 57 → (kbW (kbW (kbW μ8 57 29 0) 57 30 0) 57 52 0).1 a = μ8.1 a := fun a q0 => by rw [kW_ne q0, kW_ne q0, kW_ne q0]
  unfold f_MD_takeOver
  rw [e1, kn_bs, e2, kn_bs, e3, kn_bs, e4, kn_bs, e5, kn_bs, e6, kn_bs, e7, kn_bs, e8, kn_bs]
  refine ⟨_, rfl, ⟨?_, fun i hi => ?_⟩, ⟨?_, fun i hi => ?_⟩, ⟨?_, fun i hi => ?_⟩, ?_, ?_, ?_, kW_at⟩
  · rw [kW_no (by decide), kW_no (by decide), kW_no (by decide), a8 57 (by decide) (by decide) (by decide), kW_no (by decide), kW_at]; exact d0
  · obtain ⟨q1, q2, q3⟩ := b8 i hi
    obtain ⟨p1, p2, p3⟩ := o2' i hi
    rw [y 70 (by decide), y 71 (by decide), y 72 (by decide), q1, q2, q3, kW_ne (by decide), kW_ne (by decide), kW_ne (by decide), kW_ne (by decide), kW_ne (by decide), kW_ne (by decide), c62, c63, c64, b2 i (by omega), b3 i (by omega), b4 i (by omega), a1 62 (by decide), a2 63 (by decide), a1 63 (by decide), a3 64 (by decide), a2 64 (by decide), a1 64 (by decide)]
    exact ⟨p1, p2, p3⟩
  · rw [z 61 (by decide) (by decide) (by decide) (by decide)]; exact d1
  · obtain ⟨p1, p2⟩ := o3' i hi
    rw [z 65 (by decide) (by decide) (by decide) (by decide), z 66 (by decide) (by decide) (by decide) (by decide), c65, c66, b5 i (by omega), b6 i (by omega), a4 65 (by decide), a3 65 (by decide), a2 65 (by decide), a1 65 (by decide), a5 66 (by decide), a4 66 (by decide), a3 66 (by decide), a2 66 (by decide), a1 66 (by decide)]
    exact ⟨p1, p2⟩
  · rw [z 61 (by decide) (by decide) (by decide) (by decide)]; exact d2
  · rw [z 67 (by decide) (by decide) (by decide) (by decide), b7 i (by omega), a6 67 (by decide), a5 67 (by decide), a4 67 (by decide), a3 67 (by decide), a2 67 (by decide), a1 67 (by decide)]
    exact o1' i hi
  · rw [kW_no (by decide), kW_no (by decide), kW_no (by decide), a8 57 (by decide) (by decide) (by decide), kW_at]
  · rw [kW_no (by decide), kW_no (by decide), kW_at]
  · rw [kW_no (by decide), kW_at]
