theorem fr_jn_KB_needWord_18 {n : Nat} {μ : kbM} {x : (Bool × kbM) ⊕ (kbM)} (h : jn_KB_needWord_18 n μ = some x) : Sum.elim (fun z => kbFr [] [] μ z.2) (fun z => kbFr [] [] μ z) x := by
  unfold jn_KB_needWord_18 at h
  cases h
  exact kbFr.rf
theorem fr_f_KB_needWord {n : Nat} {a1 : Int32} {μ : kbM} {x : (Bool × kbM) ⊕ (kbM)} (h : f_KB_needWord n a1 μ = some x) : Sum.elim (fun z => kbFr [] [] μ z.2) (fun z => kbFr [] [] μ z) x := by
  unfold f_KB_needWord at h
  rcases kb_ite h with h | h
  · skip
    have q := (fr_jn_KB_needWord_18 h)
    cases x with
    | inl z => exact kbFr.tr kbFr.rf (kbFr.up (by decide) (by decide) q)
    | inr z => exact kbFr.tr kbFr.rf (kbFr.up (by decide) (by decide) q)
  rcases kb_ite h with h | h
  · skip
    cases h
    exact kbFr.rf
  have q := (fr_jn_KB_needWord_18 h)
  cases x with
  | inl z => exact kbFr.tr kbFr.rf (kbFr.up (by decide) (by decide) q)
  | inr z => exact kbFr.tr kbFr.rf (kbFr.up (by decide) (by decide) q)
theorem fr_jn_KB_needDoor_15 {n : Nat} {μ : kbM} {x : (Bool × kbM) ⊕ (kbM)} (h : jn_KB_needDoor_15 n μ = some x) : Sum.elim (fun z => kbFr [] [] μ z.2) (fun z => kbFr [] [] μ z) x := by
  unfold jn_KB_needDoor_15 at h
  cases h
  exact kbFr.rf
theorem fr_f_KB_needDoor {n : Nat} {a1 : Int32} {μ : kbM} {x : (Bool × kbM) ⊕ (kbM)} (h : f_KB_needDoor n a1 μ = some x) : Sum.elim (fun z => kbFr [] [] μ z.2) (fun z => kbFr [] [] μ z) x := by
  unfold f_KB_needDoor at h
  rcases kb_ite h with h | h
  · skip
    have q := (fr_jn_KB_needDoor_15 h)
    cases x with
    | inl z => exact kbFr.tr kbFr.rf (kbFr.up (by decide) (by decide) q)
    | inr z => exact kbFr.tr kbFr.rf (kbFr.up (by decide) (by decide) q)
  rcases kb_ite h with h | h
  · skip
    cases h
    exact kbFr.rf
  have q := (fr_jn_KB_needDoor_15 h)
  cases x with
  | inl z => exact kbFr.tr kbFr.rf (kbFr.up (by decide) (by decide) q)
  | inr z => exact kbFr.tr kbFr.rf (kbFr.up (by decide) (by decide) q)
theorem fr_jn_KB_needWhat_9 {n : Nat} {μ : kbM} {x : (Bool × kbM) ⊕ (kbM)} (h : jn_KB_needWhat_9 n μ = some x) : Sum.elim (fun z => kbFr [] [] μ z.2) (fun z => kbFr [] [] μ z) x := by
  unfold jn_KB_needWhat_9 at h
  cases h
  exact kbFr.rf
theorem fr_f_KB_needWhat {n : Nat} {a0 : Int32} {a1 : Int32} {μ : kbM} {x : (Bool × kbM) ⊕ (kbM)} (h : f_KB_needWhat n a0 a1 μ = some x) : Sum.elim (fun z => kbFr [] [] μ z.2) (fun z => kbFr [] [] μ z) x := by
  unfold f_KB_needWhat at h
  rcases kb_ite h with h | h
  · skip
    have q := (fr_jn_KB_needWhat_9 h)
    cases x with
    | inl z => exact kbFr.tr kbFr.rf (kbFr.up (by decide) (by decide) q)
    | inr z => exact kbFr.tr kbFr.rf (kbFr.up (by decide) (by decide) q)
  rcases kb_ite h with h | h
  · skip
    cases h
    exact kbFr.rf
  have q := (fr_jn_KB_needWhat_9 h)
  cases x with
  | inl z => exact kbFr.tr kbFr.rf (kbFr.up (by decide) (by decide) q)
  | inr z => exact kbFr.tr kbFr.rf (kbFr.up (by decide) (by decide) q)
theorem fr_f_KB_needRow {n : Nat} {a0 : Int32} {μ : kbM} {x : (Bool × kbM) ⊕ (kbM)} (h : f_KB_needRow n a0 μ = some x) : Sum.elim (fun z => kbFr [] [] μ z.2) (fun z => kbFr [] [] μ z) x := by
  unfold f_KB_needRow at h
  obtain ⟨x1, ex1, h⟩ := kb_bind h
  rcases kb_ite h with h | h
  · skip
    cases h
    exact kbFr.rf
  cases h
  exact kbFr.rf
theorem fr_jn_KB_book_15 {n : Nat} {μ : kbM} {x : (Bool × kbM) ⊕ (Int32 × kbM)} (h : jn_KB_book_15 n μ = some x) : Sum.elim (fun z => kbFr [] [] μ z.2) (fun z => kbFr [] [] μ z.2) x := by
  unfold jn_KB_book_15 at h
  cases h
  exact kbFr.rf
theorem fr_f_KB_book {n : Nat} {a1 : Int32} {μ : kbM} {x : (Bool × kbM) ⊕ (Int32 × kbM)} (h : f_KB_book n a1 μ = some x) : Sum.elim (fun z => kbFr [0, 1, 3, 4, 5, 6, 7, 8, 9, 10, 11, 12, 13, 14, 15, 16, 17, 21, 32, 33, 34, 35, 36, 38] [] μ z.2) (fun z => kbFr [0, 1, 3, 4, 5, 6, 7, 8, 9, 10, 11, 12, 13, 14, 15, 16, 17, 21, 32, 33, 34, 35, 36, 38] [] μ z.2) x := by
  unfold f_KB_book at h
  rcases kb_ite h with h | h
  · skip
    have q := (fr_jn_KB_book_15 h)
    cases x with
    | inl z => exact kbFr.tr kbFr.rf (kbFr.up (by decide) (by decide) q)
    | inr z => exact kbFr.tr kbFr.rf (kbFr.up (by decide) (by decide) q)
  rcases kb_ite h with h | h
  · skip
    obtain ⟨x1, ex1, h⟩ := kb_bind h
    have fx1 := kbFr.tr (C := [0, 1, 3, 4, 5, 6, 7, 8, 9, 10, 11, 12, 13, 14, 15, 16, 17, 21, 32, 33, 34, 35, 36, 38]) (S := []) kbFr.rf (kbFr.up (by decide) (by decide) (fr_f_BT_parse ex1))
    rcases kb_ite h with h | h
    · skip
      obtain ⟨x2, ex2, h⟩ := kb_bind h
      have fx2 := kbFr.tr (C := [0, 1, 3, 4, 5, 6, 7, 8, 9, 10, 11, 12, 13, 14, 15, 16, 17, 21, 32, 33, 34, 35, 36, 38]) (S := []) fx1 (kbFr.up (by decide) (by decide) (fr_f_ST_begin_12_3 ex2))
      obtain ⟨x3, ex3, h⟩ := kb_bind h
      have fx3 := kbFr.tr (C := [0, 1, 3, 4, 5, 6, 7, 8, 9, 10, 11, 12, 13, 14, 15, 16, 17, 21, 32, 33, 34, 35, 36, 38]) (S := []) fx2 (kbFr.up (by decide) (by decide) (fr_f_DO_copyFrom_32_8 ex3))
      obtain ⟨x4, ex4, h⟩ := kb_bind h
      have fx4 := kbFr.tr (C := [0, 1, 3, 4, 5, 6, 7, 8, 9, 10, 11, 12, 13, 14, 15, 16, 17, 21, 32, 33, 34, 35, 36, 38]) (S := []) fx3 (kbFr.up (by decide) (by decide) (fr_f_JO_adopt_11 ex4))
      cases h
      exact (kbFr.w fx4 (by decide))
    cases h
    exact (kbFr.w fx1 (by decide))
  have q := (fr_jn_KB_book_15 h)
  cases x with
  | inl z => exact kbFr.tr kbFr.rf (kbFr.up (by decide) (by decide) q)
  | inr z => exact kbFr.tr kbFr.rf (kbFr.up (by decide) (by decide) q)
theorem fr_f_KB_count {n : Nat} {a1 : Int32} {μ : kbM} {x : (Bool × kbM) ⊕ (Int32 × kbM)} (h : f_KB_count n a1 μ = some x) : Sum.elim (fun z => kbFr [] [] μ z.2) (fun z => kbFr [] [] μ z.2) x := by
  unfold f_KB_count at h
  rcases kb_ite h with h | h
  · skip
    cases h
    exact kbFr.rf
  rcases kb_ite h with h | h
  · skip
    cases h
    exact kbFr.rf
  rcases kb_ite h with h | h
  · skip
    cases h
    exact kbFr.rf
  rcases kb_ite h with h | h
  · skip
    obtain ⟨x1, ex1, h⟩ := kb_bind h
    cases h
    exact kbFr.rf
  rcases kb_ite h with h | h
  · skip
    obtain ⟨x2, ex2, h⟩ := kb_bind h
    cases h
    exact kbFr.rf
  rcases kb_ite h with h | h
  · skip
    cases h
    exact kbFr.rf
  rcases kb_ite h with h | h
  · skip
    cases h
    exact kbFr.rf
  rcases kb_ite h with h | h
  · skip
    cases h
    exact kbFr.rf
  rcases kb_ite h with h | h
  · skip
    cases h
    exact kbFr.rf
  rcases kb_ite h with h | h
  · skip
    cases h
    exact kbFr.rf
  rcases kb_ite h with h | h
  · skip
    cases h
    exact kbFr.rf
  cases h
  exact kbFr.rf
theorem fr_f_KB_word {n : Nat} {a1 : Int32} {a2 : Int32} {μ : kbM} {x : (Bool × kbM) ⊕ (Int32 × kbM)} (h : f_KB_word n a1 a2 μ = some x) : Sum.elim (fun z => kbFr [] [] μ z.2) (fun z => kbFr [] [] μ z.2) x := by
  unfold f_KB_word at h
  rcases kb_orS h with ⟨r2, er2, h⟩ | ⟨x1, ex1, h⟩
  · skip
    have fr2 := kbFr.tr (C := []) (S := []) kbFr.rf (kbFr.up (by decide) (by decide) (fr_f_KB_needWord er2))
    cases h
    exact fr2
  have fx1 := kbFr.tr (C := []) (S := []) kbFr.rf (kbFr.up (by decide) (by decide) (fr_f_KB_needWord ex1))
  rcases kb_ite h with h | h
  · skip
    replace h := (kbIf_some h).2
    cases h
    exact fx1
  rcases kb_ite h with h | h
  · skip
    replace h := (kbIf_some h).2
    cases h
    exact fx1
  rcases kb_ite h with h | h
  · skip
    replace h := (kbIf_some h).2
    cases h
    exact fx1
  rcases kb_ite h with h | h
  · skip
    replace h := (kbIf_some h).2
    cases h
    exact fx1
  rcases kb_ite h with h | h
  · skip
    obtain ⟨x3, ex3, h⟩ := kb_bind h
    cases h
    exact fx1
  cases h
  exact fx1
theorem fr_jn_KB_door_76 {n : Nat} {w0 : Int32} {μ : kbM} {x : (Bool × kbM) ⊕ (Int32 × kbM)} (h : jn_KB_door_76 n w0 μ = some x) : Sum.elim (fun z => kbFr [] [] μ z.2) (fun z => kbFr [] [] μ z.2) x := by
  unfold jn_KB_door_76 at h
  cases h
  exact kbFr.rf
theorem fr_f_KB_door {n : Nat} {a1 : Int32} {a2 : Int32} {μ : kbM} {x : (Bool × kbM) ⊕ (Int32 × kbM)} (h : f_KB_door n a1 a2 μ = some x) : Sum.elim (fun z => kbFr [52] [] μ z.2) (fun z => kbFr [52] [] μ z.2) x := by
  unfold f_KB_door at h
  rcases kb_orS h with ⟨r2, er2, h⟩ | ⟨x1, ex1, h⟩
  · skip
    have fr2 := kbFr.tr (C := [52]) (S := []) kbFr.rf (kbFr.up (by decide) (by decide) (fr_f_KB_needDoor er2))
    cases h
    exact fr2
  have fx1 := kbFr.tr (C := [52]) (S := []) kbFr.rf (kbFr.up (by decide) (by decide) (fr_f_KB_needDoor ex1))
  rcases kb_ite h with h | h
  · skip
    replace h := (kbIf_some h).2
    cases h
    exact fx1
  rcases kb_ite h with h | h
  · skip
    replace h := (kbIf_some h).2
    cases h
    exact fx1
  rcases kb_ite h with h | h
  · skip
    obtain ⟨x3, ex3, h⟩ := kb_bind h
    rcases kb_ite h with h | h
    · skip
      have q := (fr_jn_KB_door_76 h)
      cases x with
      | inl z => exact kbFr.tr fx1 (kbFr.up (by decide) (by decide) q)
      | inr z => exact kbFr.tr fx1 (kbFr.up (by decide) (by decide) q)
    have q := (fr_jn_KB_door_76 h)
    cases x with
    | inl z => exact kbFr.tr fx1 (kbFr.up (by decide) (by decide) q)
    | inr z => exact kbFr.tr fx1 (kbFr.up (by decide) (by decide) q)
  rcases kb_ite h with h | h
  · skip
    obtain ⟨x4, ex4, h⟩ := kb_bind h
    cases h
    exact fx1
  rcases kb_ite h with h | h
  · skip
    obtain ⟨x5, ex5, h⟩ := kb_bind h
    have fx5 := kbFr.tr (C := [52]) (S := []) fx1 (kbFr.up (by decide) (by decide) (fr_f_HO_confounded ex5))
    cases h
    exact fx5
  cases h
  exact fx1
theorem fr_f_KB_hears {n : Nat} {a1 : Int32} {a2 : Int32} {μ : kbM} {x : (Bool × kbM) ⊕ (Int32 × kbM)} (h : f_KB_hears n a1 a2 μ = some x) : Sum.elim (fun z => kbFr [] [] μ z.2) (fun z => kbFr [] [] μ z.2) x := by
  unfold f_KB_hears at h
  rcases kb_orS h with ⟨r2, er2, h⟩ | ⟨x1, ex1, h⟩
  · skip
    have fr2 := kbFr.tr (C := []) (S := []) kbFr.rf (kbFr.up (by decide) (by decide) (fr_f_KB_needDoor er2))
    cases h
    exact fr2
  have fx1 := kbFr.tr (C := []) (S := []) kbFr.rf (kbFr.up (by decide) (by decide) (fr_f_KB_needDoor ex1))
  rcases kb_orS h with ⟨r4, er4, h⟩ | ⟨x3, ex3, h⟩
  · skip
    have fr4 := kbFr.tr (C := []) (S := []) fx1 (kbFr.up (by decide) (by decide) (fr_f_KB_needRow er4))
    cases h
    exact fr4
  have fx3 := kbFr.tr (C := []) (S := []) fx1 (kbFr.up (by decide) (by decide) (fr_f_KB_needRow ex3))
  obtain ⟨x5, ex5, h⟩ := kb_bind h
  cases h
  exact fx3
theorem fr_jn_KB_read_39 {n : Nat} {w0 : Int64} {μ : kbM} {x : (Bool × kbM) ⊕ (Int64 × kbM)} (h : jn_KB_read_39 n w0 μ = some x) : Sum.elim (fun z => kbFr [] [] μ z.2) (fun z => kbFr [] [] μ z.2) x := by
  unfold jn_KB_read_39 at h
  cases h
  exact kbFr.rf
theorem fr_f_KB_read {n : Nat} {a1 : Int32} {a2 : Int32} {μ : kbM} {x : (Bool × kbM) ⊕ (Int64 × kbM)} (h : f_KB_read n a1 a2 μ = some x) : Sum.elim (fun z => kbFr [37, 38, 44, 45] [] μ z.2) (fun z => kbFr [37, 38, 44, 45] [] μ z.2) x := by
  unfold f_KB_read at h
  rcases kb_orS h with ⟨r2, er2, h⟩ | ⟨x1, ex1, h⟩
  · skip
    have fr2 := kbFr.tr (C := [37, 38, 44, 45]) (S := []) kbFr.rf (kbFr.up (by decide) (by decide) (fr_f_KB_needWhat er2))
    cases h
    exact fr2
  have fx1 := kbFr.tr (C := [37, 38, 44, 45]) (S := []) kbFr.rf (kbFr.up (by decide) (by decide) (fr_f_KB_needWhat ex1))
  rcases kb_orS h with ⟨r4, er4, h⟩ | ⟨x3, ex3, h⟩
  · skip
    have fr4 := kbFr.tr (C := [37, 38, 44, 45]) (S := []) fx1 (kbFr.up (by decide) (by decide) (fr_f_KB_needRow er4))
    cases h
    exact fr4
  have fx3 := kbFr.tr (C := [37, 38, 44, 45]) (S := []) fx1 (kbFr.up (by decide) (by decide) (fr_f_KB_needRow ex3))
  obtain ⟨x5, ex5, h⟩ := kb_bind h
  have fx5 := kbFr.tr (C := [37, 38, 44, 45]) (S := []) fx3 (kbFr.up (by decide) (by decide) (fr_f_SP_lay ex5))
  rcases kb_ite h with h | h
  · skip
    obtain ⟨x7, ex7, h⟩ := kb_bind h
    have q := (fr_jn_KB_read_39 h)
    cases x with
    | inl z => exact kbFr.tr fx5 (kbFr.up (by decide) (by decide) q)
    | inr z => exact kbFr.tr fx5 (kbFr.up (by decide) (by decide) q)
  obtain ⟨x6, ex6, h⟩ := kb_bind h
  have q := (fr_jn_KB_read_39 h)
  cases x with
  | inl z => exact kbFr.tr fx5 (kbFr.up (by decide) (by decide) q)
  | inr z => exact kbFr.tr fx5 (kbFr.up (by decide) (by decide) q)
theorem fr_jn_KB_reading_27 {n : Nat} {μ : kbM} {x : (Bool × kbM) ⊕ (Int32 × kbM)} (h : jn_KB_reading_27 n μ = some x) : Sum.elim (fun z => kbFr [] [] μ z.2) (fun z => kbFr [] [] μ z.2) x := by
  unfold jn_KB_reading_27 at h
  cases h
  exact kbFr.rf
theorem fr_f_KB_reading {n : Nat} {a1 : Int32} {a2 : Int32} {μ : kbM} {x : (Bool × kbM) ⊕ (Int32 × kbM)} (h : f_KB_reading n a1 a2 μ = some x) : Sum.elim (fun z => kbFr [37, 38, 44, 45] [] μ z.2) (fun z => kbFr [37, 38, 44, 45] [] μ z.2) x := by
  unfold f_KB_reading at h
  rcases kb_orS h with ⟨r2, er2, h⟩ | ⟨x1, ex1, h⟩
  · skip
    have fr2 := kbFr.tr (C := [37, 38, 44, 45]) (S := []) kbFr.rf (kbFr.up (by decide) (by decide) (fr_f_KB_needRow er2))
    cases h
    exact fr2
  have fx1 := kbFr.tr (C := [37, 38, 44, 45]) (S := []) kbFr.rf (kbFr.up (by decide) (by decide) (fr_f_KB_needRow ex1))
  obtain ⟨x3, ex3, h⟩ := kb_bind h
  have fx3 := kbFr.tr (C := [37, 38, 44, 45]) (S := []) fx1 (kbFr.up (by decide) (by decide) (fr_f_SP_lay ex3))
  rcases kb_ite h with h | h
  · skip
    have q := (fr_jn_KB_reading_27 h)
    cases x with
    | inl z => exact kbFr.tr fx3 (kbFr.up (by decide) (by decide) q)
    | inr z => exact kbFr.tr fx3 (kbFr.up (by decide) (by decide) q)
  obtain ⟨x4, ex4, h⟩ := kb_bind h
  rcases kb_ite h with h | h
  · skip
    obtain ⟨x5, ex5, h⟩ := kb_bind h
    have fx5 := kbFr.tr (C := [37, 38, 44, 45]) (S := []) fx3 (kbFr.up (by decide) (by decide) (fr_f_SP_wordLaid ex5))
    cases h
    exact fx5
  have q := (fr_jn_KB_reading_27 h)
  cases x with
  | inl z => exact kbFr.tr fx3 (kbFr.up (by decide) (by decide) q)
  | inr z => exact kbFr.tr fx3 (kbFr.up (by decide) (by decide) q)
theorem fr_f_KB_apart {n : Nat} {a1 : Int32} {a2 : Int32} {μ : kbM} {x : (Bool × kbM) ⊕ (Int32 × kbM)} (h : f_KB_apart n a1 a2 μ = some x) : Sum.elim (fun z => kbFr [40, 41, 42] [] μ z.2) (fun z => kbFr [40, 41, 42] [] μ z.2) x := by
  unfold f_KB_apart at h
  rcases kb_orS h with ⟨r2, er2, h⟩ | ⟨x1, ex1, h⟩
  · skip
    have fr2 := kbFr.tr (C := [40, 41, 42]) (S := []) kbFr.rf (kbFr.up (by decide) (by decide) (fr_f_KB_needRow er2))
    cases h
    exact fr2
  have fx1 := kbFr.tr (C := [40, 41, 42]) (S := []) kbFr.rf (kbFr.up (by decide) (by decide) (fr_f_KB_needRow ex1))
  rcases kb_orS h with ⟨r4, er4, h⟩ | ⟨x3, ex3, h⟩
  · skip
    have fr4 := kbFr.tr (C := [40, 41, 42]) (S := []) fx1 (kbFr.up (by decide) (by decide) (fr_f_KB_needRow er4))
    cases h
    exact fr4
  have fx3 := kbFr.tr (C := [40, 41, 42]) (S := []) fx1 (kbFr.up (by decide) (by decide) (fr_f_KB_needRow ex3))
  obtain ⟨x5, ex5, h⟩ := kb_bind h
  have fx5 := kbFr.tr (C := [40, 41, 42]) (S := []) fx3 (kbFr.up (by decide) (by decide) (fr_f_RU_steps ex5))
  cases h
  exact fx5
theorem fr_jn_KB_nearest_27 {n : Nat} {v3 : Int32} {μ : kbM} {x : (Bool × kbM) ⊕ (Int32 × kbM)} (h : jn_KB_nearest_27 n v3 μ = some x) : Sum.elim (fun z => kbFr [] [] μ z.2) (fun z => kbFr [] [] μ z.2) x := by
  unfold jn_KB_nearest_27 at h
  cases h
  exact kbFr.rf
theorem fr_f_KB_nearest {n : Nat} {a1 : Int32} {a2 : Int32} {μ : kbM} {x : (Bool × kbM) ⊕ (Int32 × kbM)} (h : f_KB_nearest n a1 a2 μ = some x) : Sum.elim (fun z => kbFr [40, 41, 42] [] μ z.2) (fun z => kbFr [40, 41, 42] [] μ z.2) x := by
  unfold f_KB_nearest at h
  rcases kb_orS h with ⟨r2, er2, h⟩ | ⟨x1, ex1, h⟩
  · skip
    have fr2 := kbFr.tr (C := [40, 41, 42]) (S := []) kbFr.rf (kbFr.up (by decide) (by decide) (fr_f_KB_needWhat er2))
    cases h
    exact fr2
  have fx1 := kbFr.tr (C := [40, 41, 42]) (S := []) kbFr.rf (kbFr.up (by decide) (by decide) (fr_f_KB_needWhat ex1))
  rcases kb_orS h with ⟨r4, er4, h⟩ | ⟨x3, ex3, h⟩
  · skip
    have fr4 := kbFr.tr (C := [40, 41, 42]) (S := []) fx1 (kbFr.up (by decide) (by decide) (fr_f_KB_needRow er4))
    cases h
    exact fr4
  have fx3 := kbFr.tr (C := [40, 41, 42]) (S := []) fx1 (kbFr.up (by decide) (by decide) (fr_f_KB_needRow ex3))
  obtain ⟨x5, ex5, h⟩ := kb_bind h
  have fx5 := kbFr.tr (C := [40, 41, 42]) (S := []) fx3 (kbFr.up (by decide) (by decide) (fr_f_RU_nearestWord ex5))
  rcases kb_ite h with h | h
  · skip
    have q := (fr_jn_KB_nearest_27 h)
    cases x with
    | inl z => exact kbFr.tr fx5 (kbFr.up (by decide) (by decide) q)
    | inr z => exact kbFr.tr fx5 (kbFr.up (by decide) (by decide) q)
  rcases kb_ite h with h | h
  · skip
    have q := (fr_jn_KB_nearest_27 h)
    cases x with
    | inl z => exact kbFr.tr fx5 (kbFr.up (by decide) (by decide) q)
    | inr z => exact kbFr.tr fx5 (kbFr.up (by decide) (by decide) q)
  replace h := (kbIf_some h).2
  obtain ⟨x6, ex6, h⟩ := kb_bind h
  have fx6 := kbFr.tr (C := [40, 41, 42]) (S := []) fx5 (kbFr.up (by decide) (by decide) (fr_f_RU_steps ex6))
  cases h
  exact fx6
theorem fr_f_KB_die {n : Nat} {a1 : Int32} {μ : kbM} {x : (Bool × kbM) ⊕ (Int32 × kbM)} (h : f_KB_die n a1 μ = some x) : Sum.elim (fun z => kbFr [12, 13, 14, 15, 16, 17, 18, 38] [] μ z.2) (fun z => kbFr [12, 13, 14, 15, 16, 17, 18, 38] [] μ z.2) x := by
  unfold f_KB_die at h
  rcases kb_orS h with ⟨r2, er2, h⟩ | ⟨x1, ex1, h⟩
  · skip
    have fr2 := kbFr.tr (C := [12, 13, 14, 15, 16, 17, 18, 38]) (S := []) kbFr.rf (kbFr.up (by decide) (by decide) (fr_f_KB_needWord er2))
    cases h
    exact fr2
  have fx1 := kbFr.tr (C := [12, 13, 14, 15, 16, 17, 18, 38]) (S := []) kbFr.rf (kbFr.up (by decide) (by decide) (fr_f_KB_needWord ex1))
  replace h := (kbIf_some h).2
  obtain ⟨x3, ex3, h⟩ := kb_bind h
  have fx3 := kbFr.tr (C := [12, 13, 14, 15, 16, 17, 18, 38]) (S := []) fx1 (kbFr.up (by decide) (by decide) (fr_f_ST_keepWord_12 ex3))
  obtain ⟨x4, ex4, h⟩ := kb_bind h
  have fx4 := kbFr.tr (C := [12, 13, 14, 15, 16, 17, 18, 38]) (S := []) fx3 (kbFr.up (by decide) (by decide) (fr_f_WO_remove_13 ex4))
  obtain ⟨x5, ex5, h⟩ := kb_bind h
  have fx5 := kbFr.tr (C := [12, 13, 14, 15, 16, 17, 18, 38]) (S := []) fx4 (kbFr.up (by decide) (by decide) (fr_f_JO_renew ex5))
  cases h
  exact fx5
theorem fr_f_KB_worth {n : Nat} {a1 : Int32} {a2 : Int32} {μ : kbM} {x : (Bool × kbM) ⊕ (Int32 × kbM)} (h : f_KB_worth n a1 a2 μ = some x) : Sum.elim (fun z => kbFr [12, 16, 17, 18, 21, 38] [] μ z.2) (fun z => kbFr [12, 16, 17, 18, 21, 38] [] μ z.2) x := by
  unfold f_KB_worth at h
  rcases kb_orS h with ⟨r2, er2, h⟩ | ⟨x1, ex1, h⟩
  · skip
    have fr2 := kbFr.tr (C := [12, 16, 17, 18, 21, 38]) (S := []) kbFr.rf (kbFr.up (by decide) (by decide) (fr_f_KB_needWord er2))
    cases h
    exact fr2
  have fx1 := kbFr.tr (C := [12, 16, 17, 18, 21, 38]) (S := []) kbFr.rf (kbFr.up (by decide) (by decide) (fr_f_KB_needWord ex1))
  obtain ⟨x3, ex3, h⟩ := kb_bind h
  rcases kb_ite h with h | h
  · skip
    obtain ⟨x7, ex7, h⟩ := kb_bind h
    have fx7 := kbFr.tr (C := [12, 16, 17, 18, 21, 38]) (S := []) fx1 (kbFr.up (by decide) (by decide) (fr_f_KB_refuseAct ex7))
    cases h
    exact fx7
  replace h := (kbIf_some h).2
  obtain ⟨x4, ex4, h⟩ := kb_bind h
  have fx4 := kbFr.tr (C := [12, 16, 17, 18, 21, 38]) (S := []) fx1 (kbFr.up (by decide) (by decide) (fr_f_ST_keepWord_12 ex4))
  replace h := (kbIf_some h).2
  obtain ⟨x5, ex5, h⟩ := kb_bind h
  have fx5 := kbFr.tr (C := [12, 16, 17, 18, 21, 38]) (S := []) fx4 (kbFr.up (by decide) (by decide) (fr_f_WO_change_13 ex5))
  obtain ⟨x6, ex6, h⟩ := kb_bind h
  have fx6 := kbFr.tr (C := [12, 16, 17, 18, 21, 38]) (S := []) fx5 (kbFr.up (by decide) (by decide) (fr_f_JO_renew ex6))
  cases h
  exact fx6
theorem fr_f_KB_part {n : Nat} {a1 : Int32} {a2 : Int32} {μ : kbM} {x : (Bool × kbM) ⊕ (Int32 × kbM)} (h : f_KB_part n a1 a2 μ = some x) : Sum.elim (fun z => kbFr [12, 16, 17, 18, 21, 38] [] μ z.2) (fun z => kbFr [12, 16, 17, 18, 21, 38] [] μ z.2) x := by
  unfold f_KB_part at h
  rcases kb_orS h with ⟨r2, er2, h⟩ | ⟨x1, ex1, h⟩
  · skip
    have fr2 := kbFr.tr (C := [12, 16, 17, 18, 21, 38]) (S := []) kbFr.rf (kbFr.up (by decide) (by decide) (fr_f_KB_needWord er2))
    cases h
    exact fr2
  have fx1 := kbFr.tr (C := [12, 16, 17, 18, 21, 38]) (S := []) kbFr.rf (kbFr.up (by decide) (by decide) (fr_f_KB_needWord ex1))
  obtain ⟨x3, ex3, h⟩ := kb_bind h
  rcases kb_ite h with h | h
  · skip
    obtain ⟨x7, ex7, h⟩ := kb_bind h
    have fx7 := kbFr.tr (C := [12, 16, 17, 18, 21, 38]) (S := []) fx1 (kbFr.up (by decide) (by decide) (fr_f_KB_refuseAct ex7))
    cases h
    exact fx7
  replace h := (kbIf_some h).2
  obtain ⟨x4, ex4, h⟩ := kb_bind h
  have fx4 := kbFr.tr (C := [12, 16, 17, 18, 21, 38]) (S := []) fx1 (kbFr.up (by decide) (by decide) (fr_f_ST_keepWord_12 ex4))
  replace h := (kbIf_some h).2
  obtain ⟨x5, ex5, h⟩ := kb_bind h
  have fx5 := kbFr.tr (C := [12, 16, 17, 18, 21, 38]) (S := []) fx4 (kbFr.up (by decide) (by decide) (fr_f_WO_change_13 ex5))
  obtain ⟨x6, ex6, h⟩ := kb_bind h
  have fx6 := kbFr.tr (C := [12, 16, 17, 18, 21, 38]) (S := []) fx5 (kbFr.up (by decide) (by decide) (fr_f_JO_renew ex6))
  cases h
  exact fx6
theorem fr_f_KB_rain {n : Nat} {a1 : Int32} {a2 : Int32} {μ : kbM} {x : (Bool × kbM) ⊕ (Int32 × kbM)} (h : f_KB_rain n a1 a2 μ = some x) : Sum.elim (fun z => kbFr [12, 18, 21] [] μ z.2) (fun z => kbFr [12, 18, 21] [] μ z.2) x := by
  unfold f_KB_rain at h
  rcases kb_orS h with ⟨r2, er2, h⟩ | ⟨x1, ex1, h⟩
  · skip
    have fr2 := kbFr.tr (C := [12, 18, 21]) (S := []) kbFr.rf (kbFr.up (by decide) (by decide) (fr_f_KB_needDoor er2))
    cases h
    exact fr2
  have fx1 := kbFr.tr (C := [12, 18, 21]) (S := []) kbFr.rf (kbFr.up (by decide) (by decide) (fr_f_KB_needDoor ex1))
  obtain ⟨x3, ex3, h⟩ := kb_bind h
  rcases kb_ite h with h | h
  · skip
    cases h
    exact (kbFr.w fx1 (by decide))
  obtain ⟨x4, ex4, h⟩ := kb_bind h
  have fx4 := kbFr.tr (C := [12, 18, 21]) (S := []) fx1 (kbFr.up (by decide) (by decide) (fr_f_ST_keepAct_12 ex4))
  obtain ⟨x5, ex5, h⟩ := kb_bind h
  have fx5 := kbFr.tr (C := [12, 18, 21]) (S := []) fx4 (kbFr.up (by decide) (by decide) (fr_f_ST_turnWeather_12 ex5))
  cases h
  exact fx5
theorem fr_f_KB_mend {n : Nat} {a1 : Int32} {μ : kbM} {x : (Bool × kbM) ⊕ (Int32 × kbM)} (h : f_KB_mend n a1 μ = some x) : Sum.elim (fun z => kbFr [37, 38, 46, 47] [] μ z.2) (fun z => kbFr [37, 38, 46, 47] [] μ z.2) x := by
  unfold f_KB_mend at h
  rcases kb_orS h with ⟨r2, er2, h⟩ | ⟨x1, ex1, h⟩
  · skip
    have fr2 := kbFr.tr (C := [37, 38, 46, 47]) (S := []) kbFr.rf (kbFr.up (by decide) (by decide) (fr_f_KB_needRow er2))
    cases h
    exact fr2
  have fx1 := kbFr.tr (C := [37, 38, 46, 47]) (S := []) kbFr.rf (kbFr.up (by decide) (by decide) (fr_f_KB_needRow ex1))
  obtain ⟨x3, ex3, h⟩ := kb_bind h
  have fx3 := kbFr.tr (C := [37, 38, 46, 47]) (S := []) fx1 (kbFr.up (by decide) (by decide) (fr_f_SP_stepsToRead ex3))
  cases h
  exact fx3
theorem fr_jn_KB_newWord_17 {n : Nat} {μ : kbM} {x : (Bool × kbM) ⊕ (Int32 × kbM)} (h : jn_KB_newWord_17 n μ = some x) : Sum.elim (fun z => kbFr [] [] μ z.2) (fun z => kbFr [] [] μ z.2) x := by
  unfold jn_KB_newWord_17 at h
  cases h
  exact kbFr.rf
theorem fr_f_KB_newWord {n : Nat} {a1 : Int32} {μ : kbM} {x : (Bool × kbM) ⊕ (Int32 × kbM)} (h : f_KB_newWord n a1 μ = some x) : Sum.elim (fun z => kbFr [52] [] μ z.2) (fun z => kbFr [52] [] μ z.2) x := by
  unfold f_KB_newWord at h
  rcases kb_ite h with h | h
  · skip
    have q := (fr_jn_KB_newWord_17 h)
    cases x with
    | inl z => exact kbFr.tr kbFr.rf (kbFr.up (by decide) (by decide) q)
    | inr z => exact kbFr.tr kbFr.rf (kbFr.up (by decide) (by decide) q)
  rcases kb_ite h with h | h
  · skip
    obtain ⟨x1, ex1, h⟩ := kb_bind h
    have fx1 := kbFr.tr (C := [52]) (S := []) kbFr.rf (kbFr.up (by decide) (by decide) (fr_f_HO_freshRow ex1))
    cases h
    exact fx1
  have q := (fr_jn_KB_newWord_17 h)
  cases x with
  | inl z => exact kbFr.tr kbFr.rf (kbFr.up (by decide) (by decide) q)
  | inr z => exact kbFr.tr kbFr.rf (kbFr.up (by decide) (by decide) q)
theorem fr_f_KB_span {n : Nat} {a1 : Int32} {a2 : Int32} {μ : kbM} {x : (Bool × kbM) ⊕ (Int32 × kbM)} (h : f_KB_span n a1 a2 μ = some x) : Sum.elim (fun z => kbFr [40, 41, 42] [] μ z.2) (fun z => kbFr [40, 41, 42] [] μ z.2) x := by
  unfold f_KB_span at h
  rcases kb_orS h with ⟨r2, er2, h⟩ | ⟨x1, ex1, h⟩
  · skip
    have fr2 := kbFr.tr (C := [40, 41, 42]) (S := []) kbFr.rf (kbFr.up (by decide) (by decide) (fr_f_KB_needWord er2))
    cases h
    exact fr2
  have fx1 := kbFr.tr (C := [40, 41, 42]) (S := []) kbFr.rf (kbFr.up (by decide) (by decide) (fr_f_KB_needWord ex1))
  rcases kb_orS h with ⟨r4, er4, h⟩ | ⟨x3, ex3, h⟩
  · skip
    have fr4 := kbFr.tr (C := [40, 41, 42]) (S := []) fx1 (kbFr.up (by decide) (by decide) (fr_f_KB_needWord er4))
    cases h
    exact fr4
  have fx3 := kbFr.tr (C := [40, 41, 42]) (S := []) fx1 (kbFr.up (by decide) (by decide) (fr_f_KB_needWord ex3))
  replace h := (kbIf_some h).2
  replace h := (kbIf_some h).2
  obtain ⟨x5, ex5, h⟩ := kb_bind h
  have fx5 := kbFr.tr (C := [40, 41, 42]) (S := []) fx3 (kbFr.up (by decide) (by decide) (fr_f_RU_steps ex5))
  cases h
  exact fx5
theorem fr_jn_KB_closest_23 {n : Nat} {v2 : Int32} {μ : kbM} {x : (Bool × kbM) ⊕ (Int32 × kbM)} (h : jn_KB_closest_23 n v2 μ = some x) : Sum.elim (fun z => kbFr [] [] μ z.2) (fun z => kbFr [] [] μ z.2) x := by
  unfold jn_KB_closest_23 at h
  cases h
  exact kbFr.rf
theorem fr_f_KB_closest {n : Nat} {a1 : Int32} {μ : kbM} {x : (Bool × kbM) ⊕ (Int32 × kbM)} (h : f_KB_closest n a1 μ = some x) : Sum.elim (fun z => kbFr [40, 41, 42] [] μ z.2) (fun z => kbFr [40, 41, 42] [] μ z.2) x := by
  unfold f_KB_closest at h
  rcases kb_orS h with ⟨r2, er2, h⟩ | ⟨x1, ex1, h⟩
  · skip
    have fr2 := kbFr.tr (C := [40, 41, 42]) (S := []) kbFr.rf (kbFr.up (by decide) (by decide) (fr_f_KB_needWhat er2))
    cases h
    exact fr2
  have fx1 := kbFr.tr (C := [40, 41, 42]) (S := []) kbFr.rf (kbFr.up (by decide) (by decide) (fr_f_KB_needWhat ex1))
  obtain ⟨x3, ex3, h⟩ := kb_bind h
  have fx3 := kbFr.tr (C := [40, 41, 42]) (S := []) fx1 (kbFr.up (by decide) (by decide) (fr_f_RU_closestCouple ex3))
  rcases kb_ite h with h | h
  · skip
    have q := (fr_jn_KB_closest_23 h)
    cases x with
    | inl z => exact kbFr.tr fx3 (kbFr.up (by decide) (by decide) q)
    | inr z => exact kbFr.tr fx3 (kbFr.up (by decide) (by decide) q)
  rcases kb_ite h with h | h
  · skip
    have q := (fr_jn_KB_closest_23 h)
    cases x with
    | inl z => exact kbFr.tr fx3 (kbFr.up (by decide) (by decide) q)
    | inr z => exact kbFr.tr fx3 (kbFr.up (by decide) (by decide) q)
  replace h := (kbIf_some h).2
  replace h := (kbIf_some h).2
  obtain ⟨x4, ex4, h⟩ := kb_bind h
  have fx4 := kbFr.tr (C := [40, 41, 42]) (S := []) fx3 (kbFr.up (by decide) (by decide) (fr_f_RU_steps ex4))
  cases h
  exact fx4
theorem fr_jn_KB_said_10 {n : Nat} {μ : kbM} {x : (Bool × kbM) ⊕ (Int32 × kbM)} (h : jn_KB_said_10 n μ = some x) : Sum.elim (fun z => kbFr [] [] μ z.2) (fun z => kbFr [] [] μ z.2) x := by
  unfold jn_KB_said_10 at h
  cases h
  exact kbFr.rf
theorem fr_f_KB_said {n : Nat} {a1 : Int32} {μ : kbM} {x : (Bool × kbM) ⊕ (Int32 × kbM)} (h : f_KB_said n a1 μ = some x) : Sum.elim (fun z => kbFr [37, 38, 45] [] μ z.2) (fun z => kbFr [37, 38, 45] [] μ z.2) x := by
  unfold f_KB_said at h
  rcases kb_ite h with h | h
  · skip
    have q := (fr_jn_KB_said_10 h)
    cases x with
    | inl z => exact kbFr.tr kbFr.rf (kbFr.up (by decide) (by decide) q)
    | inr z => exact kbFr.tr kbFr.rf (kbFr.up (by decide) (by decide) q)
  rcases kb_ite h with h | h
  · skip
    obtain ⟨x1, ex1, h⟩ := kb_bind h
    have fx1 := kbFr.tr (C := [37, 38, 45]) (S := []) kbFr.rf (kbFr.up (by decide) (by decide) (fr_f_SP_mostWorth ex1))
    cases h
    exact fx1
  have q := (fr_jn_KB_said_10 h)
  cases x with
  | inl z => exact kbFr.tr kbFr.rf (kbFr.up (by decide) (by decide) q)
  | inr z => exact kbFr.tr kbFr.rf (kbFr.up (by decide) (by decide) q)
theorem fr_jn_KB_howMany_11 {n : Nat} {μ : kbM} {x : (Bool × kbM) ⊕ (Int64 × kbM)} (h : jn_KB_howMany_11 n μ = some x) : Sum.elim (fun z => kbFr [] [] μ z.2) (fun z => kbFr [] [] μ z.2) x := by
  unfold jn_KB_howMany_11 at h
  cases h
  exact kbFr.rf
theorem fr_f_KB_howMany {n : Nat} {a1 : Int32} {μ : kbM} {x : (Bool × kbM) ⊕ (Int64 × kbM)} (h : f_KB_howMany n a1 μ = some x) : Sum.elim (fun z => kbFr [37, 38, 44] [] μ z.2) (fun z => kbFr [37, 38, 44] [] μ z.2) x := by
  unfold f_KB_howMany at h
  rcases kb_ite h with h | h
  · skip
    have q := (fr_jn_KB_howMany_11 h)
    cases x with
    | inl z => exact kbFr.tr kbFr.rf (kbFr.up (by decide) (by decide) q)
    | inr z => exact kbFr.tr kbFr.rf (kbFr.up (by decide) (by decide) q)
  rcases kb_ite h with h | h
  · skip
    obtain ⟨x1, ex1, h⟩ := kb_bind h
    have fx1 := kbFr.tr (C := [37, 38, 44]) (S := []) kbFr.rf (kbFr.up (by decide) (by decide) (fr_f_SP_rowsOf ex1))
    cases h
    exact fx1
  have q := (fr_jn_KB_howMany_11 h)
  cases x with
  | inl z => exact kbFr.tr kbFr.rf (kbFr.up (by decide) (by decide) q)
  | inr z => exact kbFr.tr kbFr.rf (kbFr.up (by decide) (by decide) q)
theorem fr_jn_KB_hear_24 {n : Nat} {μ : kbM} {x : (Bool × kbM) ⊕ (Int32 × kbM)} (h : jn_KB_hear_24 n μ = some x) : Sum.elim (fun z => kbFr [21] [] μ z.2) (fun z => kbFr [21] [] μ z.2) x := by
  unfold jn_KB_hear_24 at h
  cases h
  exact (kbFr.w kbFr.rf (by decide))
theorem fr_f_KB_hear {n : Nat} {a1 : Int32} {a2 : Int32} {μ : kbM} {x : (Bool × kbM) ⊕ (Int32 × kbM)} (h : f_KB_hear n a1 a2 μ = some x) : Sum.elim (fun z => kbFr [12, 19, 20, 21] [] μ z.2) (fun z => kbFr [12, 19, 20, 21] [] μ z.2) x := by
  unfold f_KB_hear at h
  rcases kb_orS h with ⟨r2, er2, h⟩ | ⟨x1, ex1, h⟩
  · skip
    have fr2 := kbFr.tr (C := [12, 19, 20, 21]) (S := []) kbFr.rf (kbFr.up (by decide) (by decide) (fr_f_KB_needDoor er2))
    cases h
    exact fr2
  have fx1 := kbFr.tr (C := [12, 19, 20, 21]) (S := []) kbFr.rf (kbFr.up (by decide) (by decide) (fr_f_KB_needDoor ex1))
  rcases kb_ite h with h | h
  · skip
    have q := (fr_jn_KB_hear_24 h)
    cases x with
    | inl z => exact kbFr.tr fx1 (kbFr.up (by decide) (by decide) q)
    | inr z => exact kbFr.tr fx1 (kbFr.up (by decide) (by decide) q)
  obtain ⟨x3, ex3, h⟩ := kb_bind h
  rcases kb_ite h with h | h
  · skip
    have q := (fr_jn_KB_hear_24 h)
    cases x with
    | inl z => exact kbFr.tr fx1 (kbFr.up (by decide) (by decide) q)
    | inr z => exact kbFr.tr fx1 (kbFr.up (by decide) (by decide) q)
  replace h := (kbIf_some h).2
  replace h := (kbIf_some h).2
  cases h
  exact (kbFr.w (kbFr.w (kbFr.w fx1 (by decide)) (by decide)) (by decide))
theorem fr_jn_KB_listen_46 {n : Nat} {w0 : Int32} {μ : kbM} {x : (Bool × kbM) ⊕ (Int32 × kbM)} (h : jn_KB_listen_46 n w0 μ = some x) : Sum.elim (fun z => kbFr [] [] μ z.2) (fun z => kbFr [] [] μ z.2) x := by
  unfold jn_KB_listen_46 at h
  cases h
  exact kbFr.rf
theorem fr_f_KB_listen {n : Nat} {a1 : Int32} {μ : kbM} {x : (Bool × kbM) ⊕ (Int32 × kbM)} (h : f_KB_listen n a1 μ = some x) : Sum.elim (fun z => kbFr [52] [] μ z.2) (fun z => kbFr [52] [] μ z.2) x := by
  unfold f_KB_listen at h
  rcases kb_orS h with ⟨r2, er2, h⟩ | ⟨x1, ex1, h⟩
  · skip
    have fr2 := kbFr.tr (C := [52]) (S := []) kbFr.rf (kbFr.up (by decide) (by decide) (fr_f_KB_needWhat er2))
    cases h
    exact fr2
  have fx1 := kbFr.tr (C := [52]) (S := []) kbFr.rf (kbFr.up (by decide) (by decide) (fr_f_KB_needWhat ex1))
  obtain ⟨x3, ex3, h⟩ := kb_bind h
  obtain ⟨x4, ex4, h⟩ := kb_bind h
  have fx4 := kbFr.tr (C := [52]) (S := []) fx1 (kbFr.up (by decide) (by decide) (fr_f_HO_tellingDoor ex4))
  rcases kb_ite h with h | h
  · skip
    cases h
    exact fx4
  rcases kb_ite h with h | h
  · skip
    have q := (fr_jn_KB_listen_46 h)
    cases x with
    | inl z => exact kbFr.tr fx4 (kbFr.up (by decide) (by decide) q)
    | inr z => exact kbFr.tr fx4 (kbFr.up (by decide) (by decide) q)
  obtain ⟨x5, ex5, h⟩ := kb_bind h
  have fx5 := kbFr.tr (C := [52]) (S := []) fx4 (kbFr.up (by decide) (by decide) (fr_f_HO_unlike ex5))
  have q := (fr_jn_KB_listen_46 h)
  cases x with
  | inl z => exact kbFr.tr fx5 (kbFr.up (by decide) (by decide) q)
  | inr z => exact kbFr.tr fx5 (kbFr.up (by decide) (by decide) q)
theorem fr_f_KB_telegraph {n : Nat} {a1 : Int32} {a2 : Int32} {μ : kbM} {x : (Bool × kbM) ⊕ (Int32 × kbM)} (h : f_KB_telegraph n a1 a2 μ = some x) : Sum.elim (fun z => kbFr [40, 41, 42] [] μ z.2) (fun z => kbFr [40, 41, 42] [] μ z.2) x := by
  unfold f_KB_telegraph at h
  rcases kb_orS h with ⟨r2, er2, h⟩ | ⟨x1, ex1, h⟩
  · skip
    have fr2 := kbFr.tr (C := [40, 41, 42]) (S := []) kbFr.rf (kbFr.up (by decide) (by decide) (fr_f_KB_needDoor er2))
    cases h
    exact fr2
  have fx1 := kbFr.tr (C := [40, 41, 42]) (S := []) kbFr.rf (kbFr.up (by decide) (by decide) (fr_f_KB_needDoor ex1))
  rcases kb_orS h with ⟨r4, er4, h⟩ | ⟨x3, ex3, h⟩
  · skip
    have fr4 := kbFr.tr (C := [40, 41, 42]) (S := []) fx1 (kbFr.up (by decide) (by decide) (fr_f_KB_needDoor er4))
    cases h
    exact fr4
  have fx3 := kbFr.tr (C := [40, 41, 42]) (S := []) fx1 (kbFr.up (by decide) (by decide) (fr_f_KB_needDoor ex3))
  obtain ⟨x5, ex5, h⟩ := kb_bind h
  have fx5 := kbFr.tr (C := [40, 41, 42]) (S := []) fx3 (kbFr.up (by decide) (by decide) (fr_f_PL_passing ex5))
  cases h
  exact fx5
theorem fr_jn_KB_game_61 {n : Nat} {w0 : Int32} {μ : kbM} {x : (Bool × kbM) ⊕ (Int32 × kbM)} (h : jn_KB_game_61 n w0 μ = some x) : Sum.elim (fun z => kbFr [] [] μ z.2) (fun z => kbFr [] [] μ z.2) x := by
  unfold jn_KB_game_61 at h
  cases h
  exact kbFr.rf
theorem fr_f_KB_game {n : Nat} {a1 : Int32} {a2 : Int32} {a3 : Int32} {μ : kbM} {x : (Bool × kbM) ⊕ (Int32 × kbM)} (h : f_KB_game n a1 a2 a3 μ = some x) : Sum.elim (fun z => kbFr [40, 41, 42, 54, 55, 56] [] μ z.2) (fun z => kbFr [40, 41, 42, 54, 55, 56] [] μ z.2) x := by
  unfold f_KB_game at h
  rcases kb_orS h with ⟨r2, er2, h⟩ | ⟨x1, ex1, h⟩
  · skip
    have fr2 := kbFr.tr (C := [40, 41, 42, 54, 55, 56]) (S := []) kbFr.rf (kbFr.up (by decide) (by decide) (fr_f_KB_needDoor er2))
    cases h
    exact fr2
  have fx1 := kbFr.tr (C := [40, 41, 42, 54, 55, 56]) (S := []) kbFr.rf (kbFr.up (by decide) (by decide) (fr_f_KB_needDoor ex1))
  rcases kb_orS h with ⟨r4, er4, h⟩ | ⟨x3, ex3, h⟩
  · skip
    have fr4 := kbFr.tr (C := [40, 41, 42, 54, 55, 56]) (S := []) fx1 (kbFr.up (by decide) (by decide) (fr_f_KB_needDoor er4))
    cases h
    exact fr4
  have fx3 := kbFr.tr (C := [40, 41, 42, 54, 55, 56]) (S := []) fx1 (kbFr.up (by decide) (by decide) (fr_f_KB_needDoor ex3))
  rcases kb_orS h with ⟨r6, er6, h⟩ | ⟨x5, ex5, h⟩
  · skip
    have fr6 := kbFr.tr (C := [40, 41, 42, 54, 55, 56]) (S := []) fx3 (kbFr.up (by decide) (by decide) (fr_f_KB_needWhat er6))
    cases h
    exact fr6
  have fx5 := kbFr.tr (C := [40, 41, 42, 54, 55, 56]) (S := []) fx3 (kbFr.up (by decide) (by decide) (fr_f_KB_needWhat ex5))
  rcases kb_ite h with h | h
  · skip
    cases h
    exact fx5
  obtain ⟨x7, ex7, h⟩ := kb_bind h
  have fx7 := kbFr.tr (C := [40, 41, 42, 54, 55, 56]) (S := []) fx5 (kbFr.up (by decide) (by decide) (fr_f_PL_settle ex7))
  rcases kb_ite h with h | h
  · skip
    have q := (fr_jn_KB_game_61 h)
    cases x with
    | inl z => exact kbFr.tr fx7 (kbFr.up (by decide) (by decide) q)
    | inr z => exact kbFr.tr fx7 (kbFr.up (by decide) (by decide) q)
  have q := (fr_jn_KB_game_61 h)
  cases x with
  | inl z => exact kbFr.tr fx7 (kbFr.up (by decide) (by decide) q)
  | inr z => exact kbFr.tr fx7 (kbFr.up (by decide) (by decide) q)
theorem fr_jn_KB_frost_15 {n : Nat} {μ : kbM} {x : (Bool × kbM) ⊕ (Int32 × kbM)} (h : jn_KB_frost_15 n μ = some x) : Sum.elim (fun z => kbFr [] [] μ z.2) (fun z => kbFr [] [] μ z.2) x := by
  unfold jn_KB_frost_15 at h
  cases h
  exact kbFr.rf
theorem fr_f_KB_frost {n : Nat} {a1 : Int32} {a2 : Int32} {a3 : Int32} {μ : kbM} {x : (Bool × kbM) ⊕ (Int32 × kbM)} (h : f_KB_frost n a1 a2 a3 μ = some x) : Sum.elim (fun z => kbFr [40, 41, 42, 54] [] μ z.2) (fun z => kbFr [40, 41, 42, 54] [] μ z.2) x := by
  unfold f_KB_frost at h
  rcases kb_orS h with ⟨r2, er2, h⟩ | ⟨x1, ex1, h⟩
  · skip
    have fr2 := kbFr.tr (C := [40, 41, 42, 54]) (S := []) kbFr.rf (kbFr.up (by decide) (by decide) (fr_f_KB_needWhat er2))
    cases h
    exact fr2
  have fx1 := kbFr.tr (C := [40, 41, 42, 54]) (S := []) kbFr.rf (kbFr.up (by decide) (by decide) (fr_f_KB_needWhat ex1))
  rcases kb_ite h with h | h
  · skip
    have q := (fr_jn_KB_frost_15 h)
    cases x with
    | inl z => exact kbFr.tr fx1 (kbFr.up (by decide) (by decide) q)
    | inr z => exact kbFr.tr fx1 (kbFr.up (by decide) (by decide) q)
  rcases kb_ite h with h | h
  · skip
    obtain ⟨x3, ex3, h⟩ := kb_bind h
    have fx3 := kbFr.tr (C := [40, 41, 42, 54]) (S := []) fx1 (kbFr.up (by decide) (by decide) (fr_f_PL_freeze ex3))
    rcases kb_ite h with h | h
    · skip
      cases h
      exact fx3
    rcases kb_ite h with h | h
    · skip
      cases h
      exact fx3
    cases h
    exact fx3
  have q := (fr_jn_KB_frost_15 h)
  cases x with
  | inl z => exact kbFr.tr fx1 (kbFr.up (by decide) (by decide) q)
  | inr z => exact kbFr.tr fx1 (kbFr.up (by decide) (by decide) q)
theorem fr_f_L_book {n : Nat} {a1 : Int32} {μ : kbM} {x : Int32 × kbM} (h : f_L_book n a1 μ = some x) : kbFr [0, 1, 3, 4, 5, 6, 7, 8, 9, 10, 11, 12, 13, 14, 15, 16, 17, 21, 32, 33, 34, 35, 36, 38, 97] [] μ x.2 := by
  unfold f_L_book at h
  rcases kb_orS h with ⟨r2, er2, h⟩ | ⟨x1, ex1, h⟩
  · skip
    have fr2 := kbFr.tr (C := [0, 1, 3, 4, 5, 6, 7, 8, 9, 10, 11, 12, 13, 14, 15, 16, 17, 21, 32, 33, 34, 35, 36, 38, 97]) (S := []) kbFr.rf (kbFr.up (by decide) (by decide) (fr_f_KB_book er2))
    replace h := (kbIf_some h).2
    cases h
    exact fr2
  have fx1 := kbFr.tr (C := [0, 1, 3, 4, 5, 6, 7, 8, 9, 10, 11, 12, 13, 14, 15, 16, 17, 21, 32, 33, 34, 35, 36, 38, 97]) (S := []) kbFr.rf (kbFr.up (by decide) (by decide) (fr_f_KB_book ex1))
  cases h
  exact (kbFr.x fx1 (by decide))
theorem fr_f_L_count {n : Nat} {a1 : Int32} {μ : kbM} {x : Int32 × kbM} (h : f_L_count n a1 μ = some x) : kbFr [97] [] μ x.2 := by
  unfold f_L_count at h
  rcases kb_orS h with ⟨r2, er2, h⟩ | ⟨x1, ex1, h⟩
  · skip
    have fr2 := kbFr.tr (C := [97]) (S := []) kbFr.rf (kbFr.up (by decide) (by decide) (fr_f_KB_count er2))
    replace h := (kbIf_some h).2
    cases h
    exact fr2
  have fx1 := kbFr.tr (C := [97]) (S := []) kbFr.rf (kbFr.up (by decide) (by decide) (fr_f_KB_count ex1))
  cases h
  exact (kbFr.x fx1 (by decide))
theorem fr_f_L_word {n : Nat} {a1 : Int32} {a2 : Int32} {μ : kbM} {x : Int32 × kbM} (h : f_L_word n a1 a2 μ = some x) : kbFr [97] [] μ x.2 := by
  unfold f_L_word at h
  rcases kb_orS h with ⟨r2, er2, h⟩ | ⟨x1, ex1, h⟩
  · skip
    have fr2 := kbFr.tr (C := [97]) (S := []) kbFr.rf (kbFr.up (by decide) (by decide) (fr_f_KB_word er2))
    replace h := (kbIf_some h).2
    cases h
    exact fr2
  have fx1 := kbFr.tr (C := [97]) (S := []) kbFr.rf (kbFr.up (by decide) (by decide) (fr_f_KB_word ex1))
  cases h
  exact (kbFr.x fx1 (by decide))
theorem fr_f_L_door {n : Nat} {a1 : Int32} {a2 : Int32} {μ : kbM} {x : Int32 × kbM} (h : f_L_door n a1 a2 μ = some x) : kbFr [52, 97] [] μ x.2 := by
  unfold f_L_door at h
  rcases kb_orS h with ⟨r2, er2, h⟩ | ⟨x1, ex1, h⟩
  · skip
    have fr2 := kbFr.tr (C := [52, 97]) (S := []) kbFr.rf (kbFr.up (by decide) (by decide) (fr_f_KB_door er2))
    replace h := (kbIf_some h).2
    cases h
    exact fr2
  have fx1 := kbFr.tr (C := [52, 97]) (S := []) kbFr.rf (kbFr.up (by decide) (by decide) (fr_f_KB_door ex1))
  cases h
  exact (kbFr.x fx1 (by decide))
theorem fr_f_L_hears {n : Nat} {a1 : Int32} {a2 : Int32} {μ : kbM} {x : Int32 × kbM} (h : f_L_hears n a1 a2 μ = some x) : kbFr [97] [] μ x.2 := by
  unfold f_L_hears at h
  rcases kb_orS h with ⟨r2, er2, h⟩ | ⟨x1, ex1, h⟩
  · skip
    have fr2 := kbFr.tr (C := [97]) (S := []) kbFr.rf (kbFr.up (by decide) (by decide) (fr_f_KB_hears er2))
    rcases kb_ite h with h | h
    · skip
      cases h
      exact fr2
    cases h
    exact fr2
  have fx1 := kbFr.tr (C := [97]) (S := []) kbFr.rf (kbFr.up (by decide) (by decide) (fr_f_KB_hears ex1))
  cases h
  exact (kbFr.x fx1 (by decide))
theorem fr_f_L_read {n : Nat} {a1 : Int32} {a2 : Int32} {μ : kbM} {x : Int32 × kbM} (h : f_L_read n a1 a2 μ = some x) : kbFr [37, 38, 44, 45, 97] [] μ x.2 := by
  unfold f_L_read at h
  rcases kb_orS h with ⟨r2, er2, h⟩ | ⟨x1, ex1, h⟩
  · skip
    have fr2 := kbFr.tr (C := [37, 38, 44, 45, 97]) (S := []) kbFr.rf (kbFr.up (by decide) (by decide) (fr_f_KB_read er2))
    rcases kb_ite h with h | h
    · skip
      cases h
      exact fr2
    cases h
    exact fr2
  have fx1 := kbFr.tr (C := [37, 38, 44, 45, 97]) (S := []) kbFr.rf (kbFr.up (by decide) (by decide) (fr_f_KB_read ex1))
  cases h
  exact (kbFr.x fx1 (by decide))
theorem fr_f_L_reading {n : Nat} {a1 : Int32} {a2 : Int32} {μ : kbM} {x : Int32 × kbM} (h : f_L_reading n a1 a2 μ = some x) : kbFr [37, 38, 44, 45, 97] [] μ x.2 := by
  unfold f_L_reading at h
  rcases kb_orS h with ⟨r2, er2, h⟩ | ⟨x1, ex1, h⟩
  · skip
    have fr2 := kbFr.tr (C := [37, 38, 44, 45, 97]) (S := []) kbFr.rf (kbFr.up (by decide) (by decide) (fr_f_KB_reading er2))
    rcases kb_ite h with h | h
    · skip
      cases h
      exact fr2
    cases h
    exact fr2
  have fx1 := kbFr.tr (C := [37, 38, 44, 45, 97]) (S := []) kbFr.rf (kbFr.up (by decide) (by decide) (fr_f_KB_reading ex1))
  cases h
  exact (kbFr.x fx1 (by decide))
theorem fr_f_L_apart {n : Nat} {a1 : Int32} {a2 : Int32} {μ : kbM} {x : Int32 × kbM} (h : f_L_apart n a1 a2 μ = some x) : kbFr [40, 41, 42, 97] [] μ x.2 := by
  unfold f_L_apart at h
  rcases kb_orS h with ⟨r2, er2, h⟩ | ⟨x1, ex1, h⟩
  · skip
    have fr2 := kbFr.tr (C := [40, 41, 42, 97]) (S := []) kbFr.rf (kbFr.up (by decide) (by decide) (fr_f_KB_apart er2))
    replace h := (kbIf_some h).2
    cases h
    exact fr2
  have fx1 := kbFr.tr (C := [40, 41, 42, 97]) (S := []) kbFr.rf (kbFr.up (by decide) (by decide) (fr_f_KB_apart ex1))
  cases h
  exact (kbFr.x fx1 (by decide))
theorem fr_f_L_nearest {n : Nat} {a1 : Int32} {a2 : Int32} {μ : kbM} {x : Int32 × kbM} (h : f_L_nearest n a1 a2 μ = some x) : kbFr [40, 41, 42, 97] [] μ x.2 := by
  unfold f_L_nearest at h
  rcases kb_orS h with ⟨r2, er2, h⟩ | ⟨x1, ex1, h⟩
  · skip
    have fr2 := kbFr.tr (C := [40, 41, 42, 97]) (S := []) kbFr.rf (kbFr.up (by decide) (by decide) (fr_f_KB_nearest er2))
    rcases kb_ite h with h | h
    · skip
      cases h
      exact fr2
    cases h
    exact fr2
  have fx1 := kbFr.tr (C := [40, 41, 42, 97]) (S := []) kbFr.rf (kbFr.up (by decide) (by decide) (fr_f_KB_nearest ex1))
  cases h
  exact (kbFr.x fx1 (by decide))
theorem fr_f_L_die {n : Nat} {a1 : Int32} {μ : kbM} {x : Int32 × kbM} (h : f_L_die n a1 μ = some x) : kbFr [12, 13, 14, 15, 16, 17, 18, 38, 97] [] μ x.2 := by
  unfold f_L_die at h
  rcases kb_orS h with ⟨r2, er2, h⟩ | ⟨x1, ex1, h⟩
  · skip
    have fr2 := kbFr.tr (C := [12, 13, 14, 15, 16, 17, 18, 38, 97]) (S := []) kbFr.rf (kbFr.up (by decide) (by decide) (fr_f_KB_die er2))
    replace h := (kbIf_some h).2
    cases h
    exact fr2
  have fx1 := kbFr.tr (C := [12, 13, 14, 15, 16, 17, 18, 38, 97]) (S := []) kbFr.rf (kbFr.up (by decide) (by decide) (fr_f_KB_die ex1))
  cases h
  exact (kbFr.x fx1 (by decide))
theorem fr_f_L_worth {n : Nat} {a1 : Int32} {a2 : Int32} {μ : kbM} {x : Int32 × kbM} (h : f_L_worth n a1 a2 μ = some x) : kbFr [12, 16, 17, 18, 21, 38, 97] [] μ x.2 := by
  unfold f_L_worth at h
  rcases kb_orS h with ⟨r2, er2, h⟩ | ⟨x1, ex1, h⟩
  · skip
    have fr2 := kbFr.tr (C := [12, 16, 17, 18, 21, 38, 97]) (S := []) kbFr.rf (kbFr.up (by decide) (by decide) (fr_f_KB_worth er2))
    replace h := (kbIf_some h).2
    cases h
    exact fr2
  have fx1 := kbFr.tr (C := [12, 16, 17, 18, 21, 38, 97]) (S := []) kbFr.rf (kbFr.up (by decide) (by decide) (fr_f_KB_worth ex1))
  cases h
  exact (kbFr.x fx1 (by decide))
theorem fr_f_L_part {n : Nat} {a1 : Int32} {a2 : Int32} {μ : kbM} {x : Int32 × kbM} (h : f_L_part n a1 a2 μ = some x) : kbFr [12, 16, 17, 18, 21, 38, 97] [] μ x.2 := by
  unfold f_L_part at h
  rcases kb_orS h with ⟨r2, er2, h⟩ | ⟨x1, ex1, h⟩
  · skip
    have fr2 := kbFr.tr (C := [12, 16, 17, 18, 21, 38, 97]) (S := []) kbFr.rf (kbFr.up (by decide) (by decide) (fr_f_KB_part er2))
    replace h := (kbIf_some h).2
    cases h
    exact fr2
  have fx1 := kbFr.tr (C := [12, 16, 17, 18, 21, 38, 97]) (S := []) kbFr.rf (kbFr.up (by decide) (by decide) (fr_f_KB_part ex1))
  cases h
  exact (kbFr.x fx1 (by decide))
theorem fr_jn_L_rain_16 {n : Nat} {w1 : Int32} {w2 : Int64} {μ : kbM} {x : Int32 × kbM} (h : jn_L_rain_16 n w1 w2 μ = some x) : kbFr [97] [] μ x.2 := by
  unfold jn_L_rain_16 at h
  replace h := (kbIf_some h).2
  cases h
  exact (kbFr.x kbFr.rf (by decide))
theorem fr_f_L_rain {n : Nat} {a1 : Int32} {a2 : Int32} {μ : kbM} {x : Int32 × kbM} (h : f_L_rain n a1 a2 μ = some x) : kbFr [12, 18, 21, 97] [] μ x.2 := by
  unfold f_L_rain at h
  rcases kb_orS h with ⟨r2, er2, h⟩ | ⟨x1, ex1, h⟩
  · skip
    have fr2 := kbFr.tr (C := [12, 18, 21, 97]) (S := []) kbFr.rf (kbFr.up (by decide) (by decide) (fr_f_KB_rain er2))
    replace h := (kbIf_some h).2
    cases h
    exact fr2
  have fx1 := kbFr.tr (C := [12, 18, 21, 97]) (S := []) kbFr.rf (kbFr.up (by decide) (by decide) (fr_f_KB_rain ex1))
  rcases kb_ite h with h | h
  · skip
    exact kbFr.tr fx1 (kbFr.up (by decide) (by decide) (fr_jn_L_rain_16 h))
  exact kbFr.tr fx1 (kbFr.up (by decide) (by decide) (fr_jn_L_rain_16 h))
theorem fr_f_L_mend {n : Nat} {a1 : Int32} {μ : kbM} {x : Int32 × kbM} (h : f_L_mend n a1 μ = some x) : kbFr [37, 38, 46, 47, 97] [] μ x.2 := by
  unfold f_L_mend at h
  rcases kb_orS h with ⟨r2, er2, h⟩ | ⟨x1, ex1, h⟩
  · skip
    have fr2 := kbFr.tr (C := [37, 38, 46, 47, 97]) (S := []) kbFr.rf (kbFr.up (by decide) (by decide) (fr_f_KB_mend er2))
    replace h := (kbIf_some h).2
    cases h
    exact fr2
  have fx1 := kbFr.tr (C := [37, 38, 46, 47, 97]) (S := []) kbFr.rf (kbFr.up (by decide) (by decide) (fr_f_KB_mend ex1))
  cases h
  exact (kbFr.x fx1 (by decide))
theorem fr_f_L_newWord {n : Nat} {a1 : Int32} {μ : kbM} {x : Int32 × kbM} (h : f_L_newWord n a1 μ = some x) : kbFr [52, 97] [] μ x.2 := by
  unfold f_L_newWord at h
  rcases kb_orS h with ⟨r2, er2, h⟩ | ⟨x1, ex1, h⟩
  · skip
    have fr2 := kbFr.tr (C := [52, 97]) (S := []) kbFr.rf (kbFr.up (by decide) (by decide) (fr_f_KB_newWord er2))
    replace h := (kbIf_some h).2
    cases h
    exact fr2
  have fx1 := kbFr.tr (C := [52, 97]) (S := []) kbFr.rf (kbFr.up (by decide) (by decide) (fr_f_KB_newWord ex1))
  cases h
  exact (kbFr.x fx1 (by decide))
theorem fr_f_L_span {n : Nat} {a1 : Int32} {a2 : Int32} {μ : kbM} {x : Int32 × kbM} (h : f_L_span n a1 a2 μ = some x) : kbFr [40, 41, 42, 97] [] μ x.2 := by
  unfold f_L_span at h
  rcases kb_orS h with ⟨r2, er2, h⟩ | ⟨x1, ex1, h⟩
  · skip
    have fr2 := kbFr.tr (C := [40, 41, 42, 97]) (S := []) kbFr.rf (kbFr.up (by decide) (by decide) (fr_f_KB_span er2))
    replace h := (kbIf_some h).2
    cases h
    exact fr2
  have fx1 := kbFr.tr (C := [40, 41, 42, 97]) (S := []) kbFr.rf (kbFr.up (by decide) (by decide) (fr_f_KB_span ex1))
  cases h
  exact (kbFr.x fx1 (by decide))
theorem fr_f_L_closest {n : Nat} {a1 : Int32} {μ : kbM} {x : Int32 × kbM} (h : f_L_closest n a1 μ = some x) : kbFr [40, 41, 42, 97] [] μ x.2 := by
  unfold f_L_closest at h
  rcases kb_orS h with ⟨r2, er2, h⟩ | ⟨x1, ex1, h⟩
  · skip
    have fr2 := kbFr.tr (C := [40, 41, 42, 97]) (S := []) kbFr.rf (kbFr.up (by decide) (by decide) (fr_f_KB_closest er2))
    replace h := (kbIf_some h).2
    cases h
    exact fr2
  have fx1 := kbFr.tr (C := [40, 41, 42, 97]) (S := []) kbFr.rf (kbFr.up (by decide) (by decide) (fr_f_KB_closest ex1))
  cases h
  exact (kbFr.x fx1 (by decide))
theorem fr_f_L_said {n : Nat} {a1 : Int32} {μ : kbM} {x : Int32 × kbM} (h : f_L_said n a1 μ = some x) : kbFr [37, 38, 45, 97] [] μ x.2 := by
  unfold f_L_said at h
  rcases kb_orS h with ⟨r2, er2, h⟩ | ⟨x1, ex1, h⟩
  · skip
    have fr2 := kbFr.tr (C := [37, 38, 45, 97]) (S := []) kbFr.rf (kbFr.up (by decide) (by decide) (fr_f_KB_said er2))
    replace h := (kbIf_some h).2
    cases h
    exact fr2
  have fx1 := kbFr.tr (C := [37, 38, 45, 97]) (S := []) kbFr.rf (kbFr.up (by decide) (by decide) (fr_f_KB_said ex1))
  cases h
  exact (kbFr.x fx1 (by decide))
theorem fr_f_L_howMany {n : Nat} {a1 : Int32} {μ : kbM} {x : Int32 × kbM} (h : f_L_howMany n a1 μ = some x) : kbFr [37, 38, 44, 97] [] μ x.2 := by
  unfold f_L_howMany at h
  rcases kb_orS h with ⟨r2, er2, h⟩ | ⟨x1, ex1, h⟩
  · skip
    have fr2 := kbFr.tr (C := [37, 38, 44, 97]) (S := []) kbFr.rf (kbFr.up (by decide) (by decide) (fr_f_KB_howMany er2))
    replace h := (kbIf_some h).2
    cases h
    exact fr2
  have fx1 := kbFr.tr (C := [37, 38, 44, 97]) (S := []) kbFr.rf (kbFr.up (by decide) (by decide) (fr_f_KB_howMany ex1))
  cases h
  exact (kbFr.x fx1 (by decide))
theorem fr_f_L_hear {n : Nat} {a1 : Int32} {a2 : Int32} {μ : kbM} {x : Int32 × kbM} (h : f_L_hear n a1 a2 μ = some x) : kbFr [12, 19, 20, 21, 97] [] μ x.2 := by
  unfold f_L_hear at h
  rcases kb_orS h with ⟨r2, er2, h⟩ | ⟨x1, ex1, h⟩
  · skip
    have fr2 := kbFr.tr (C := [12, 19, 20, 21, 97]) (S := []) kbFr.rf (kbFr.up (by decide) (by decide) (fr_f_KB_hear er2))
    replace h := (kbIf_some h).2
    cases h
    exact fr2
  have fx1 := kbFr.tr (C := [12, 19, 20, 21, 97]) (S := []) kbFr.rf (kbFr.up (by decide) (by decide) (fr_f_KB_hear ex1))
  cases h
  exact (kbFr.x fx1 (by decide))
theorem fr_f_L_listen {n : Nat} {a1 : Int32} {μ : kbM} {x : Int32 × kbM} (h : f_L_listen n a1 μ = some x) : kbFr [52, 97] [] μ x.2 := by
  unfold f_L_listen at h
  rcases kb_orS h with ⟨r2, er2, h⟩ | ⟨x1, ex1, h⟩
  · skip
    have fr2 := kbFr.tr (C := [52, 97]) (S := []) kbFr.rf (kbFr.up (by decide) (by decide) (fr_f_KB_listen er2))
    replace h := (kbIf_some h).2
    cases h
    exact fr2
  have fx1 := kbFr.tr (C := [52, 97]) (S := []) kbFr.rf (kbFr.up (by decide) (by decide) (fr_f_KB_listen ex1))
  cases h
  exact (kbFr.x fx1 (by decide))
theorem fr_f_L_telegraph {n : Nat} {a1 : Int32} {a2 : Int32} {μ : kbM} {x : Int32 × kbM} (h : f_L_telegraph n a1 a2 μ = some x) : kbFr [40, 41, 42, 97] [] μ x.2 := by
  unfold f_L_telegraph at h
  rcases kb_orS h with ⟨r2, er2, h⟩ | ⟨x1, ex1, h⟩
  · skip
    have fr2 := kbFr.tr (C := [40, 41, 42, 97]) (S := []) kbFr.rf (kbFr.up (by decide) (by decide) (fr_f_KB_telegraph er2))
    replace h := (kbIf_some h).2
    cases h
    exact fr2
  have fx1 := kbFr.tr (C := [40, 41, 42, 97]) (S := []) kbFr.rf (kbFr.up (by decide) (by decide) (fr_f_KB_telegraph ex1))
  cases h
  exact (kbFr.x fx1 (by decide))
theorem fr_f_L_game {n : Nat} {a1 : Int32} {a2 : Int32} {a3 : Int32} {μ : kbM} {x : Int32 × kbM} (h : f_L_game n a1 a2 a3 μ = some x) : kbFr [40, 41, 42, 54, 55, 56, 97] [] μ x.2 := by
  unfold f_L_game at h
  rcases kb_orS h with ⟨r2, er2, h⟩ | ⟨x1, ex1, h⟩
  · skip
    have fr2 := kbFr.tr (C := [40, 41, 42, 54, 55, 56, 97]) (S := []) kbFr.rf (kbFr.up (by decide) (by decide) (fr_f_KB_game er2))
    rcases kb_ite h with h | h
    · skip
      cases h
      exact fr2
    cases h
    exact fr2
  have fx1 := kbFr.tr (C := [40, 41, 42, 54, 55, 56, 97]) (S := []) kbFr.rf (kbFr.up (by decide) (by decide) (fr_f_KB_game ex1))
  cases h
  exact (kbFr.x fx1 (by decide))
theorem fr_f_L_frost {n : Nat} {a1 : Int32} {a2 : Int32} {a3 : Int32} {μ : kbM} {x : Int32 × kbM} (h : f_L_frost n a1 a2 a3 μ = some x) : kbFr [40, 41, 42, 54, 97] [] μ x.2 := by
  unfold f_L_frost at h
  rcases kb_orS h with ⟨r2, er2, h⟩ | ⟨x1, ex1, h⟩
  · skip
    have fr2 := kbFr.tr (C := [40, 41, 42, 54, 97]) (S := []) kbFr.rf (kbFr.up (by decide) (by decide) (fr_f_KB_frost er2))
    rcases kb_ite h with h | h
    · skip
      cases h
      exact fr2
    cases h
    exact fr2
  have fx1 := kbFr.tr (C := [40, 41, 42, 54, 97]) (S := []) kbFr.rf (kbFr.up (by decide) (by decide) (fr_f_KB_frost ex1))
  cases h
  exact (kbFr.x fx1 (by decide))
