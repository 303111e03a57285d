theorem fr_jn_MD_feed_76 {n : Nat} {v1 : Int32} {v2 : Int32} {v3 : Int32} {v4 : Int32} {v5 : Int32} {v6 : Int32} {w0 : Int32} {μ : kbM} {rec : Int32 → kbM → Option (kbM)} (hrec : ∀ {y0 : Int32} {y1 : kbM} {x : kbM}, rec y0 y1 = some x → kbFr [69] [13] y1 x) {x : kbM} (h : jn_MD_feed_76 n rec v1 v2 v3 v4 v5 v6 w0 μ = some x) : kbFr [69] [13] μ x := by
  unfold jn_MD_feed_76 at h
  replace h := (kbIf_some h).2
  exact kbFr.tr (kbFr.w57 (kbFr.w kbFr.rf (by decide)) (by decide)) (hrec h)
theorem fr_lp_MD_feed_23 {n : Nat} {v1 : Int32} {v2 : Int32} {v3 : Int32} {v4 : Int32} {v5 : Int32} {k : Nat} : ∀ {v6 : Int32} {μ : kbM} {x : kbM}, lp_MD_feed_23 n v1 v2 v3 v4 v5 k v6 μ = some x → kbFr [69] [13] μ x := by
  induction k with
  | zero => intro v6 μ x h; cases h
  | succ k ih =>
    intro v6 μ x h
    unfold lp_MD_feed_23 at h
    rcases kb_ite h with h | h
    · skip
      cases h
      exact kbFr.rf
    rcases kb_ite h with h | h
    · skip
      rcases kb_ite h with h | h
      · skip
        rcases kb_ite h with h | h
        · skip
          rcases kb_ite h with h | h
          · skip
            exact kbFr.tr kbFr.rf (kbFr.up (by decide) (by decide) (fr_jn_MD_feed_76 (fun h => ih h) h))
          exact kbFr.tr kbFr.rf (kbFr.up (by decide) (by decide) (fr_jn_MD_feed_76 (fun h => ih h) h))
        exact kbFr.tr kbFr.rf (kbFr.up (by decide) (by decide) (fr_jn_MD_feed_76 (fun h => ih h) h))
      exact kbFr.tr kbFr.rf (kbFr.up (by decide) (by decide) (fr_jn_MD_feed_76 (fun h => ih h) h))
    exact kbFr.tr kbFr.rf (kbFr.up (by decide) (by decide) (fr_jn_MD_feed_76 (fun h => ih h) h))
theorem fr_f_MD_feed {n : Nat} {a1 : Int32} {a2 : Int32} {a3 : Int32} {a4 : Int32} {a5 : Int32} {μ : kbM} {x : Int32 × kbM} (h : f_MD_feed n a1 a2 a3 a4 a5 μ = some x) : kbFr [69] [3, 13] μ x.2 := by
  unfold f_MD_feed at h
  rcases kb_ite h with h | h
  · skip
    obtain ⟨x1, ex1, h⟩ := kb_bind h
    have fx1 := kbFr.tr (C := [69]) (S := [3, 13]) (kbFr.w57 kbFr.rf (by decide)) (kbFr.up (by decide) (by decide) (fr_lp_MD_feed_23 ex1))
    cases h
    exact fx1
  cases h
  exact (kbFr.w57 kbFr.rf (by decide))
theorem fr_f_MD_fail {a1 : Int32} {μ : kbM} {x : Int32 × kbM} (h : f_MD_fail a1 μ = some x) : kbFr [] [3] μ x.2 := by
  unfold f_MD_fail at h
  cases h
  exact (kbFr.w57 kbFr.rf (by decide))
theorem fr_jn_MD_stepOn_26 {n : Nat} {μ : kbM} {rec : kbM → Option (kbM)} (hrec : ∀ {y0 : kbM} {x : kbM}, rec y0 = some x → kbFr [] [14] y0 x) {x : kbM} (h : jn_MD_stepOn_26 n rec μ = some x) : kbFr [] [14] μ x := by
  unfold jn_MD_stepOn_26 at h
  exact kbFr.tr (kbFr.w57 kbFr.rf (by decide)) (hrec h)
theorem fr_lp_MD_stepOn_0 {n : Nat} {k : Nat} : ∀ {μ : kbM} {x : kbM}, lp_MD_stepOn_0 n k μ = some x → kbFr [] [14] μ x := by
  induction k with
  | zero => intro μ x h; cases h
  | succ k ih =>
    intro μ x h
    unfold lp_MD_stepOn_0 at h
    obtain ⟨x1, ex1, h⟩ := kb_bind h
    rcases kb_ite h with h | h
    · skip
      exact kbFr.tr kbFr.rf (kbFr.up (by decide) (by decide) (fr_jn_MD_stepOn_26 (fun h => ih h) h))
    obtain ⟨x2, ex2, h⟩ := kb_bind h
    rcases kb_ite h with h | h
    · skip
      exact kbFr.tr kbFr.rf (kbFr.up (by decide) (by decide) (fr_jn_MD_stepOn_26 (fun h => ih h) h))
    cases h
    exact kbFr.rf
theorem fr_jn_MD_stepOn_212 {n : Nat} {μ : kbM} {x : kbM} (h : jn_MD_stepOn_212 n μ = some x) : kbFr [] [19] μ x := by
  unfold jn_MD_stepOn_212 at h
  cases h
  exact (kbFr.w57 kbFr.rf (by decide))
theorem fr_jn_MD_stepOn_209 {n : Nat} {w1 : Int32} {μ : kbM} {x : kbM} (h : jn_MD_stepOn_209 n w1 μ = some x) : kbFr [] [16, 19] μ x := by
  unfold jn_MD_stepOn_209 at h
  exact kbFr.tr (kbFr.w57 kbFr.rf (by decide)) (kbFr.up (by decide) (by decide) (fr_jn_MD_stepOn_212 h))
theorem fr_lp_MD_stepOn_123 {n : Nat} {k : Nat} : ∀ {μ : kbM} {x : kbM}, lp_MD_stepOn_123 n k μ = some x → kbFr [] [14, 17] μ x := by
  induction k with
  | zero => intro μ x h; cases h
  | succ k ih =>
    intro μ x h
    unfold lp_MD_stepOn_123 at h
    obtain ⟨x8, ex8, h⟩ := kb_bind h
    obtain ⟨x9, ex9, h⟩ := kb_bind h
    rcases kb_ite h with h | h
    · skip
      cases h
      exact kbFr.rf
    obtain ⟨x10, ex10, h⟩ := kb_bind h
    exact kbFr.tr (kbFr.w57 (kbFr.w57 kbFr.rf (by decide)) (by decide)) (ih h)
theorem fr_lp_MD_stepOn_76 {n : Nat} {k : Nat} : ∀ {μ : kbM} {x : kbM}, lp_MD_stepOn_76 n k μ = some x → kbFr [] [14] μ x := by
  induction k with
  | zero => intro μ x h; cases h
  | succ k ih =>
    intro μ x h
    unfold lp_MD_stepOn_76 at h
    obtain ⟨x12, ex12, h⟩ := kb_bind h
    obtain ⟨x13, ex13, h⟩ := kb_bind h
    rcases kb_ite h with h | h
    · skip
      cases h
      exact kbFr.rf
    exact kbFr.tr (kbFr.w57 kbFr.rf (by decide)) (ih h)
theorem fr_f_MD_stepOn {n : Nat} {μ : kbM} {x : kbM} (h : f_MD_stepOn n μ = some x) : kbFr [] [14, 16, 17, 18, 19] μ x := by
  unfold f_MD_stepOn at h
  obtain ⟨x3, ex3, h⟩ := kb_bind h
  have fx3 := kbFr.tr (C := []) (S := [14, 16, 17, 18, 19]) kbFr.rf (kbFr.up (by decide) (by decide) (fr_lp_MD_stepOn_0 ex3))
  obtain ⟨x4, ex4, h⟩ := kb_bind h
  rcases kb_ite h with h | h
  · skip
    exact kbFr.tr (kbFr.w57 (kbFr.w57 fx3 (by decide)) (by decide)) (kbFr.up (by decide) (by decide) (fr_jn_MD_stepOn_212 h))
  obtain ⟨x5, ex5, h⟩ := kb_bind h
  rcases kb_ite h with h | h
  · skip
    obtain ⟨x6, ex6, h⟩ := kb_bind h
    rcases kb_ite h with h | h
    · skip
      obtain ⟨x7, ex7, h⟩ := kb_bind h
      rcases kb_ite h with h | h
      · skip
        exact kbFr.tr (kbFr.w57 (kbFr.w57 fx3 (by decide)) (by decide)) (kbFr.up (by decide) (by decide) (fr_jn_MD_stepOn_209 h))
      exact kbFr.tr (kbFr.w57 (kbFr.w57 fx3 (by decide)) (by decide)) (kbFr.up (by decide) (by decide) (fr_jn_MD_stepOn_209 h))
    obtain ⟨x11, ex11, h⟩ := kb_bind h
    have fx11 := kbFr.tr (C := []) (S := [14, 16, 17, 18, 19]) (kbFr.w57 (kbFr.w57 fx3 (by decide)) (by decide)) (kbFr.up (by decide) (by decide) (fr_lp_MD_stepOn_123 ex11))
    exact kbFr.tr (kbFr.w57 fx11 (by decide)) (kbFr.up (by decide) (by decide) (fr_jn_MD_stepOn_212 h))
  obtain ⟨x14, ex14, h⟩ := kb_bind h
  have fx14 := kbFr.tr (C := []) (S := [14, 16, 17, 18, 19]) (kbFr.w57 fx3 (by decide)) (kbFr.up (by decide) (by decide) (fr_lp_MD_stepOn_76 ex14))
  exact kbFr.tr (kbFr.w57 fx14 (by decide)) (kbFr.up (by decide) (by decide) (fr_jn_MD_stepOn_212 h))
theorem fr_f_MD_wrong {a1 : Int32} {μ : kbM} {x : kbM} (h : f_MD_wrong a1 μ = some x) : kbFr [] [20, 21] μ x := by
  unfold f_MD_wrong at h
  rcases kb_ite h with h | h
  · skip
    cases h
    exact (kbFr.w57 (kbFr.w57 kbFr.rf (by decide)) (by decide))
  cases h
  exact kbFr.rf
theorem fr_jn_MD_mark_31 {n : Nat} {μ : kbM} {x : kbM} (h : jn_MD_mark_31 n μ = some x) : kbFr [] [] μ x := by
  unfold jn_MD_mark_31 at h
  cases h
  exact kbFr.rf
theorem fr_jn_MD_mark_20 {n : Nat} {μ : kbM} {x : kbM} (h : jn_MD_mark_20 n μ = some x) : kbFr [] [14, 16, 17, 18, 19] μ x := by
  unfold jn_MD_mark_20 at h
  rcases kb_ite h with h | h
  · skip
    obtain ⟨x1, ex1, h⟩ := kb_bind h
    have fx1 := kbFr.tr (C := []) (S := [14, 16, 17, 18, 19]) kbFr.rf (kbFr.up (by decide) (by decide) (fr_f_MD_stepOn ex1))
    exact kbFr.tr fx1 (kbFr.up (by decide) (by decide) (fr_jn_MD_mark_31 h))
  exact kbFr.tr kbFr.rf (kbFr.up (by decide) (by decide) (fr_jn_MD_mark_31 h))
theorem fr_f_MD_mark {n : Nat} {a1 : Int32} {μ : kbM} {x : kbM} (h : f_MD_mark n a1 μ = some x) : kbFr [] [14, 16, 17, 18, 19, 20, 21] μ x := by
  unfold f_MD_mark at h
  rcases kb_ite h with h | h
  · skip
    obtain ⟨x2, ex2, h⟩ := kb_bind h
    rcases kb_ite h with h | h
    · skip
      obtain ⟨x3, ex3, h⟩ := kb_bind h
      have fx3 := kbFr.tr (C := []) (S := [14, 16, 17, 18, 19, 20, 21]) kbFr.rf (kbFr.up (by decide) (by decide) (fr_f_MD_wrong ex3))
      exact kbFr.tr fx3 (kbFr.up (by decide) (by decide) (fr_jn_MD_mark_20 h))
    exact kbFr.tr kbFr.rf (kbFr.up (by decide) (by decide) (fr_jn_MD_mark_20 h))
  exact kbFr.tr kbFr.rf (kbFr.up (by decide) (by decide) (fr_jn_MD_mark_20 h))
theorem fr_jn_MD_areSounds_57 {n : Nat} {v1 : Int32} {μ : kbM} {rec : Int32 → kbM → Option (kbM)} (hrec : ∀ {y0 : Int32} {y1 : kbM} {x : kbM}, rec y0 y1 = some x → kbFr [] [20, 21] y1 x) {x : kbM} (h : jn_MD_areSounds_57 n rec v1 μ = some x) : kbFr [] [20, 21] μ x := by
  unfold jn_MD_areSounds_57 at h
  exact kbFr.tr kbFr.rf (hrec h)
theorem fr_lp_MD_areSounds_25 {n : Nat} {k : Nat} : ∀ {v1 : Int32} {μ : kbM} {x : kbM}, lp_MD_areSounds_25 n k v1 μ = some x → kbFr [] [20, 21] μ x := by
  induction k with
  | zero => intro v1 μ x h; cases h
  | succ k ih =>
    intro v1 μ x h
    unfold lp_MD_areSounds_25 at h
    rcases kb_ite h with h | h
    · skip
      rcases kb_ite h with h | h
      · skip
        cases h
        exact kbFr.rf
      replace h := (kbIf_some h).2
      obtain ⟨x1, ex1, h⟩ := kb_bind h
      rcases kb_ite h with h | h
      · skip
        obtain ⟨x2, ex2, h⟩ := kb_bind h
        have fx2 := kbFr.tr (C := []) (S := [20, 21]) kbFr.rf (kbFr.up (by decide) (by decide) (fr_f_MD_wrong ex2))
        exact kbFr.tr fx2 (kbFr.up (by decide) (by decide) (fr_jn_MD_areSounds_57 (fun h => ih h) h))
      exact kbFr.tr kbFr.rf (kbFr.up (by decide) (by decide) (fr_jn_MD_areSounds_57 (fun h => ih h) h))
    cases h
    exact kbFr.rf
theorem fr_jn_MD_areSounds_75 {n : Nat} {w0 : Int32} {μ : kbM} {x : Int32 × kbM} (h : jn_MD_areSounds_75 n w0 μ = some x) : kbFr [] [] μ x.2 := by
  unfold jn_MD_areSounds_75 at h
  replace h := (kbIf_some h).2
  cases h
  exact kbFr.rf
theorem fr_jn_MD_areSounds_63 {n : Nat} {μ : kbM} {x : Int32 × kbM} (h : jn_MD_areSounds_63 n μ = some x) : kbFr [] [] μ x.2 := by
  unfold jn_MD_areSounds_63 at h
  rcases kb_ite h with h | h
  · skip
    exact kbFr.tr kbFr.rf (kbFr.up (by decide) (by decide) (fr_jn_MD_areSounds_75 h))
  exact kbFr.tr kbFr.rf (kbFr.up (by decide) (by decide) (fr_jn_MD_areSounds_75 h))
theorem fr_jn_MD_areSounds_20 {n : Nat} {μ : kbM} {x : Int32 × kbM} (h : jn_MD_areSounds_20 n μ = some x) : kbFr [] [20, 21] μ x.2 := by
  unfold jn_MD_areSounds_20 at h
  obtain ⟨x3, ex3, h⟩ := kb_bind h
  have fx3 := kbFr.tr (C := []) (S := [20, 21]) kbFr.rf (kbFr.up (by decide) (by decide) (fr_lp_MD_areSounds_25 ex3))
  exact kbFr.tr fx3 (kbFr.up (by decide) (by decide) (fr_jn_MD_areSounds_63 h))
theorem fr_f_MD_areSounds {n : Nat} {μ : kbM} {x : Int32 × kbM} (h : f_MD_areSounds n μ = some x) : kbFr [] [20, 21] μ x.2 := by
  unfold f_MD_areSounds at h
  rcases kb_ite h with h | h
  · skip
    rcases kb_ite h with h | h
    · skip
      exact kbFr.tr kbFr.rf (kbFr.up (by decide) (by decide) (fr_jn_MD_areSounds_20 h))
    obtain ⟨x4, ex4, h⟩ := kb_bind h
    have fx4 := kbFr.tr (C := []) (S := [20, 21]) kbFr.rf (kbFr.up (by decide) (by decide) (fr_f_MD_wrong ex4))
    exact kbFr.tr fx4 (kbFr.up (by decide) (by decide) (fr_jn_MD_areSounds_20 h))
  exact kbFr.tr kbFr.rf (kbFr.up (by decide) (by decide) (fr_jn_MD_areSounds_20 h))
theorem fr_jn_MD_readDoor_90 {n : Nat} {v1 : Int32} {v2 : Int32} {v3 : Int32} {v4 : Int32} {v5 : Int32} {μ : kbM} {rec : Int32 → Int32 → kbM → Option (Int32 × kbM)} (hrec : ∀ {y0 : Int32} {y1 : Int32} {y2 : kbM} {x : Int32 × kbM}, rec y0 y1 y2 = some x → kbFr [] [20, 21] y2 x.2) {x : Int32 × kbM} (h : jn_MD_readDoor_90 n rec v1 v2 v3 v4 v5 μ = some x) : kbFr [] [20, 21] μ x.2 := by
  unfold jn_MD_readDoor_90 at h
  exact kbFr.tr kbFr.rf (hrec h)
theorem fr_lp_MD_readDoor_46 {n : Nat} {v1 : Int32} {v2 : Int32} {k : Nat} : ∀ {v3 : Int32} {v4 : Int32} {μ : kbM} {x : Int32 × kbM}, lp_MD_readDoor_46 n v1 v2 k v3 v4 μ = some x → kbFr [] [20, 21] μ x.2 := by
  induction k with
  | zero => intro v3 v4 μ x h; cases h
  | succ k ih =>
    intro v3 v4 μ x h
    unfold lp_MD_readDoor_46 at h
    rcases kb_ite h with h | h
    · skip
      rcases kb_ite h with h | h
      · skip
        cases h
        exact kbFr.rf
      replace h := (kbIf_some h).2
      obtain ⟨x3, ex3, h⟩ := kb_bind h
      rcases kb_ite h with h | h
      · skip
        exact kbFr.tr kbFr.rf (kbFr.up (by decide) (by decide) (fr_jn_MD_readDoor_90 (fun h => ih h) h))
      obtain ⟨x4, ex4, h⟩ := kb_bind h
      have fx4 := kbFr.tr (C := []) (S := [20, 21]) kbFr.rf (kbFr.up (by decide) (by decide) (fr_f_MD_wrong ex4))
      exact kbFr.tr fx4 (kbFr.up (by decide) (by decide) (fr_jn_MD_readDoor_90 (fun h => ih h) h))
    cases h
    exact kbFr.rf
theorem fr_jn_MD_readDoor_101 {n : Nat} {v1 : Int32} {v2 : Int32} {v3 : Int32} {μ : kbM} {x : kbM} (h : jn_MD_readDoor_101 n v1 v2 v3 μ = some x) : kbFr [61, 65, 66] [14, 16, 17, 18, 19] μ x := by
  unfold jn_MD_readDoor_101 at h
  rcases kb_ite h with h | h
  · skip
    obtain ⟨x6, ex6, h⟩ := kb_bind h
    have fx6 := kbFr.tr (C := [61, 65, 66]) (S := [14, 16, 17, 18, 19]) kbFr.rf (kbFr.up (by decide) (by decide) (fr_f_MD_stepOn ex6))
    replace h := (kbIf_some h).2
    replace h := (kbIf_some h).2
    cases h
    exact (kbFr.w (kbFr.w (kbFr.w fx6 (by decide)) (by decide)) (by decide))
  cases h
  exact kbFr.rf
theorem fr_jn_MD_readDoor_18 {n : Nat} {v1 : Int32} {v2 : Int32} {μ : kbM} {x : kbM} (h : jn_MD_readDoor_18 n v1 v2 μ = some x) : kbFr [61, 65, 66] [14, 16, 17, 18, 19, 20, 21] μ x := by
  unfold jn_MD_readDoor_18 at h
  rcases kb_ite h with h | h
  · skip
    obtain ⟨x1, ex1, h⟩ := kb_bind h
    have fx1 := kbFr.tr (C := [61, 65, 66]) (S := [14, 16, 17, 18, 19, 20, 21]) kbFr.rf (kbFr.up (by decide) (by decide) (fr_f_MD_stepOn ex1))
    obtain ⟨x2, ex2, h⟩ := kb_bind h
    have fx2 := kbFr.tr (C := [61, 65, 66]) (S := [14, 16, 17, 18, 19, 20, 21]) fx1 (kbFr.up (by decide) (by decide) (fr_f_MD_areSounds ex2))
    rcases kb_ite h with h | h
    · skip
      cases h
      exact fx2
    obtain ⟨x5, ex5, h⟩ := kb_bind h
    have fx5 := kbFr.tr (C := [61, 65, 66]) (S := [14, 16, 17, 18, 19, 20, 21]) fx2 (kbFr.up (by decide) (by decide) (fr_lp_MD_readDoor_46 ex5))
    exact kbFr.tr fx5 (kbFr.up (by decide) (by decide) (fr_jn_MD_readDoor_101 h))
  cases h
  exact kbFr.rf
theorem fr_f_MD_readDoor {n : Nat} {a1 : Int32} {μ : kbM} {x : kbM} (h : f_MD_readDoor n a1 μ = some x) : kbFr [61, 65, 66] [14, 16, 17, 18, 19, 20, 21] μ x := by
  unfold f_MD_readDoor at h
  rcases kb_ite h with h | h
  · skip
    obtain ⟨x7, ex7, h⟩ := kb_bind h
    have fx7 := kbFr.tr (C := [61, 65, 66]) (S := [14, 16, 17, 18, 19, 20, 21]) kbFr.rf (kbFr.up (by decide) (by decide) (fr_f_MD_wrong ex7))
    exact kbFr.tr fx7 (kbFr.up (by decide) (by decide) (fr_jn_MD_readDoor_18 h))
  exact kbFr.tr kbFr.rf (kbFr.up (by decide) (by decide) (fr_jn_MD_readDoor_18 h))
theorem fr_jn_MD_readNumber_86 {n : Nat} {v3 : Int32} {μ : kbM} {x : Int32 × kbM} (h : jn_MD_readNumber_86 n v3 μ = some x) : kbFr [] [] μ x.2 := by
  unfold jn_MD_readNumber_86 at h
  cases h
  exact kbFr.rf
theorem fr_jn_MD_readNumber_74 {n : Nat} {w0 : Int32} {μ : kbM} {x : Int32 × kbM} (h : jn_MD_readNumber_74 n w0 μ = some x) : kbFr [] [14, 16, 17, 18, 19] μ x.2 := by
  unfold jn_MD_readNumber_74 at h
  rcases kb_ite h with h | h
  · skip
    obtain ⟨x2, ex2, h⟩ := kb_bind h
    have fx2 := kbFr.tr (C := []) (S := [14, 16, 17, 18, 19]) kbFr.rf (kbFr.up (by decide) (by decide) (fr_f_MD_stepOn ex2))
    exact kbFr.tr fx2 (kbFr.up (by decide) (by decide) (fr_jn_MD_readNumber_86 h))
  exact kbFr.tr kbFr.rf (kbFr.up (by decide) (by decide) (fr_jn_MD_readNumber_86 h))
theorem fr_jn_MD_readNumber_59 {n : Nat} {μ : kbM} {x : Int32 × kbM} (h : jn_MD_readNumber_59 n μ = some x) : kbFr [] [14, 16, 17, 18, 19] μ x.2 := by
  unfold jn_MD_readNumber_59 at h
  rcases kb_ite h with h | h
  · skip
    exact kbFr.tr kbFr.rf (kbFr.up (by decide) (by decide) (fr_jn_MD_readNumber_74 h))
  exact kbFr.tr kbFr.rf (kbFr.up (by decide) (by decide) (fr_jn_MD_readNumber_74 h))
theorem fr_jn_MD_readNumber_54 {n : Nat} {μ : kbM} {x : Int32 × kbM} (h : jn_MD_readNumber_54 n μ = some x) : kbFr [] [14, 16, 17, 18, 19, 20, 21] μ x.2 := by
  unfold jn_MD_readNumber_54 at h
  obtain ⟨x1, ex1, h⟩ := kb_bind h
  have fx1 := kbFr.tr (C := []) (S := [14, 16, 17, 18, 19, 20, 21]) kbFr.rf (kbFr.up (by decide) (by decide) (fr_f_MD_wrong ex1))
  exact kbFr.tr fx1 (kbFr.up (by decide) (by decide) (fr_jn_MD_readNumber_59 h))
theorem fr_f_MD_readNumber {n : Nat} {a1 : Int32} {a2 : Int32} {μ : kbM} {x : Int32 × kbM} (h : f_MD_readNumber n a1 a2 μ = some x) : kbFr [] [14, 16, 17, 18, 19, 20, 21] μ x.2 := by
  unfold f_MD_readNumber at h
  rcases kb_ite h with h | h
  · skip
    rcases kb_ite h with h | h
    · skip
      rcases kb_ite h with h | h
      · skip
        exact kbFr.tr kbFr.rf (kbFr.up (by decide) (by decide) (fr_jn_MD_readNumber_54 h))
      rcases kb_ite h with h | h
      · skip
        exact kbFr.tr kbFr.rf (kbFr.up (by decide) (by decide) (fr_jn_MD_readNumber_54 h))
      rcases kb_ite h with h | h
      · skip
        exact kbFr.tr kbFr.rf (kbFr.up (by decide) (by decide) (fr_jn_MD_readNumber_59 h))
      exact kbFr.tr kbFr.rf (kbFr.up (by decide) (by decide) (fr_jn_MD_readNumber_54 h))
    obtain ⟨x3, ex3, h⟩ := kb_bind h
    have fx3 := kbFr.tr (C := []) (S := [14, 16, 17, 18, 19, 20, 21]) kbFr.rf (kbFr.up (by decide) (by decide) (fr_f_MD_wrong ex3))
    exact kbFr.tr fx3 (kbFr.up (by decide) (by decide) (fr_jn_MD_readNumber_59 h))
  cases h
  exact kbFr.rf
theorem fr_jn_MD_readWord_138 {n : Nat} {v1 : Int32} {v2 : Int32} {v3 : Int32} {v4 : Int32} {μ : kbM} {rec : Int32 → kbM → Option (kbM)} (hrec : ∀ {y0 : Int32} {y1 : kbM} {x : kbM}, rec y0 y1 = some x → kbFr [] [20, 21] y1 x) {x : kbM} (h : jn_MD_readWord_138 n rec v1 v2 v3 v4 μ = some x) : kbFr [] [20, 21] μ x := by
  unfold jn_MD_readWord_138 at h
  exact kbFr.tr kbFr.rf (hrec h)
theorem fr_lp_MD_readWord_106 {n : Nat} {v1 : Int32} {v2 : Int32} {v3 : Int32} {k : Nat} : ∀ {v4 : Int32} {μ : kbM} {x : kbM}, lp_MD_readWord_106 n v1 v2 v3 k v4 μ = some x → kbFr [] [20, 21] μ x := by
  induction k with
  | zero => intro v4 μ x h; cases h
  | succ k ih =>
    intro v4 μ x h
    unfold lp_MD_readWord_106 at h
    rcases kb_ite h with h | h
    · skip
      rcases kb_ite h with h | h
      · skip
        cases h
        exact kbFr.rf
      replace h := (kbIf_some h).2
      rcases kb_ite h with h | h
      · skip
        obtain ⟨x5, ex5, h⟩ := kb_bind h
        have fx5 := kbFr.tr (C := []) (S := [20, 21]) kbFr.rf (kbFr.up (by decide) (by decide) (fr_f_MD_wrong ex5))
        exact kbFr.tr fx5 (kbFr.up (by decide) (by decide) (fr_jn_MD_readWord_138 (fun h => ih h) h))
      exact kbFr.tr kbFr.rf (kbFr.up (by decide) (by decide) (fr_jn_MD_readWord_138 (fun h => ih h) h))
    cases h
    exact kbFr.rf
theorem fr_jn_MD_readWord_144 {n : Nat} {v1 : Int32} {v2 : Int32} {v3 : Int32} {μ : kbM} {x : kbM} (h : jn_MD_readWord_144 n v1 v2 v3 μ = some x) : kbFr [61, 62, 63, 64] [14, 16, 17, 18, 19, 20, 21] μ x := by
  unfold jn_MD_readWord_144 at h
  rcases kb_ite h with h | h
  · skip
    obtain ⟨x7, ex7, h⟩ := kb_bind h
    have fx7 := kbFr.tr (C := [61, 62, 63, 64]) (S := [14, 16, 17, 18, 19, 20, 21]) kbFr.rf (kbFr.up (by decide) (by decide) (fr_f_MD_stepOn ex7))
    replace h := (kbIf_some h).2
    replace h := (kbIf_some h).2
    obtain ⟨x8, ex8, h⟩ := kb_bind h
    have fx8 := kbFr.tr (C := [61, 62, 63, 64]) (S := [14, 16, 17, 18, 19, 20, 21]) (kbFr.w (kbFr.w fx7 (by decide)) (by decide)) (kbFr.up (by decide) (by decide) (fr_f_MD_readNumber ex8))
    replace h := (kbIf_some h).2
    cases h
    exact (kbFr.w (kbFr.w fx8 (by decide)) (by decide))
  cases h
  exact kbFr.rf
theorem fr_jn_MD_readWord_102 {n : Nat} {v1 : Int32} {v2 : Int32} {v3 : Int32} {μ : kbM} {x : kbM} (h : jn_MD_readWord_102 n v1 v2 v3 μ = some x) : kbFr [61, 62, 63, 64] [14, 16, 17, 18, 19, 20, 21] μ x := by
  unfold jn_MD_readWord_102 at h
  obtain ⟨x6, ex6, h⟩ := kb_bind h
  have fx6 := kbFr.tr (C := [61, 62, 63, 64]) (S := [14, 16, 17, 18, 19, 20, 21]) kbFr.rf (kbFr.up (by decide) (by decide) (fr_lp_MD_readWord_106 ex6))
  exact kbFr.tr fx6 (kbFr.up (by decide) (by decide) (fr_jn_MD_readWord_144 h))
theorem fr_jn_MD_readWord_57 {n : Nat} {v1 : Int32} {v2 : Int32} {μ : kbM} {x : kbM} (h : jn_MD_readWord_57 n v1 v2 μ = some x) : kbFr [61, 62, 63, 64] [14, 16, 17, 18, 19, 20, 21] μ x := by
  unfold jn_MD_readWord_57 at h
  obtain ⟨x4, ex4, h⟩ := kb_bind h
  exact kbFr.tr kbFr.rf (kbFr.up (by decide) (by decide) (fr_jn_MD_readWord_102 h))
theorem fr_jn_MD_readWord_18 {n : Nat} {v1 : Int32} {v2 : Int32} {μ : kbM} {x : kbM} (h : jn_MD_readWord_18 n v1 v2 μ = some x) : kbFr [61, 62, 63, 64] [14, 16, 17, 18, 19, 20, 21] μ x := by
  unfold jn_MD_readWord_18 at h
  rcases kb_ite h with h | h
  · skip
    obtain ⟨x1, ex1, h⟩ := kb_bind h
    have fx1 := kbFr.tr (C := [61, 62, 63, 64]) (S := [14, 16, 17, 18, 19, 20, 21]) kbFr.rf (kbFr.up (by decide) (by decide) (fr_f_MD_stepOn ex1))
    obtain ⟨x2, ex2, h⟩ := kb_bind h
    have fx2 := kbFr.tr (C := [61, 62, 63, 64]) (S := [14, 16, 17, 18, 19, 20, 21]) fx1 (kbFr.up (by decide) (by decide) (fr_f_MD_areSounds ex2))
    rcases kb_ite h with h | h
    · skip
      cases h
      exact fx2
    rcases kb_ite h with h | h
    · skip
      exact kbFr.tr fx2 (kbFr.up (by decide) (by decide) (fr_jn_MD_readWord_57 h))
    obtain ⟨x9, ex9, h⟩ := kb_bind h
    have fx9 := kbFr.tr (C := [61, 62, 63, 64]) (S := [14, 16, 17, 18, 19, 20, 21]) fx2 (kbFr.up (by decide) (by decide) (fr_f_MD_wrong ex9))
    exact kbFr.tr fx9 (kbFr.up (by decide) (by decide) (fr_jn_MD_readWord_57 h))
  cases h
  exact kbFr.rf
theorem fr_f_MD_readWord {n : Nat} {a1 : Int32} {μ : kbM} {x : kbM} (h : f_MD_readWord n a1 μ = some x) : kbFr [61, 62, 63, 64] [14, 16, 17, 18, 19, 20, 21] μ x := by
  unfold f_MD_readWord at h
  rcases kb_ite h with h | h
  · skip
    obtain ⟨x10, ex10, h⟩ := kb_bind h
    have fx10 := kbFr.tr (C := [61, 62, 63, 64]) (S := [14, 16, 17, 18, 19, 20, 21]) kbFr.rf (kbFr.up (by decide) (by decide) (fr_f_MD_wrong ex10))
    exact kbFr.tr fx10 (kbFr.up (by decide) (by decide) (fr_jn_MD_readWord_18 h))
  exact kbFr.tr kbFr.rf (kbFr.up (by decide) (by decide) (fr_jn_MD_readWord_18 h))
theorem fr_f_MD_lay {a1 : Int32} {μ : kbM} {x : kbM} (h : f_MD_lay a1 μ = some x) : kbFr [61, 67] [] μ x := by
  unfold f_MD_lay at h
  rcases kb_ite h with h | h
  · skip
    replace h := (kbIf_some h).2
    cases h
    exact (kbFr.w (kbFr.w kbFr.rf (by decide)) (by decide))
  cases h
  exact kbFr.rf
theorem fr_jn_MD_readPart_74 {n : Nat} {μ : kbM} {re : Int32 → kbM → Option kbM} (hre : ∀ {a : Int32} {μ x : kbM}, re a μ = some x → kbFr [61, 67] [14, 16, 17, 18, 19, 20, 21] μ x) {x : kbM} (h : jn_MD_readPart_74 n re μ = some x) : kbFr [61, 67] [14, 16, 17, 18, 19, 20, 21] μ x := by
  unfold jn_MD_readPart_74 at h
  cases h
  exact kbFr.rf
theorem fr_jn_MD_readPart_56 {n : Nat} {v2 : Int32} {μ : kbM} {re : Int32 → kbM → Option kbM} (hre : ∀ {a : Int32} {μ x : kbM}, re a μ = some x → kbFr [61, 67] [14, 16, 17, 18, 19, 20, 21] μ x) {x : kbM} (h : jn_MD_readPart_56 n re v2 μ = some x) : kbFr [61, 67] [14, 16, 17, 18, 19, 20, 21] μ x := by
  unfold jn_MD_readPart_56 at h
  obtain ⟨x5, ex5, h⟩ := kb_bind h
  have fx5 := kbFr.tr (C := [61, 67]) (S := [14, 16, 17, 18, 19, 20, 21]) kbFr.rf (kbFr.up (by decide) (by decide) (fr_f_MD_lay ex5))
  rcases kb_ite h with h | h
  · skip
    obtain ⟨x6, ex6, h⟩ := kb_bind h
    have fx6 := kbFr.tr (C := [61, 67]) (S := [14, 16, 17, 18, 19, 20, 21]) fx5 (kbFr.up (by decide) (by decide) (fr_f_MD_stepOn ex6))
    exact kbFr.tr fx6 (kbFr.up (by decide) (by decide) (fr_jn_MD_readPart_74 hre h))
  exact kbFr.tr fx5 (kbFr.up (by decide) (by decide) (fr_jn_MD_readPart_74 hre h))
theorem fr_f_MD_readPart {n : Nat} {a1 : Int32} {μ : kbM} {re : Int32 → kbM → Option kbM} (hre : ∀ {a : Int32} {μ x : kbM}, re a μ = some x → kbFr [61, 67] [14, 16, 17, 18, 19, 20, 21] μ x) {x : kbM} (h : f_MD_readPart n re a1 μ = some x) : kbFr [61, 67] [14, 16, 17, 18, 19, 20, 21] μ x := by
  unfold f_MD_readPart at h
  rcases kb_ite h with h | h
  · skip
    rcases kb_ite h with h | h
    · skip
      obtain ⟨x8, ex8, h⟩ := kb_bind h
      have fx8 := kbFr.tr (C := [61, 67]) (S := [14, 16, 17, 18, 19, 20, 21]) kbFr.rf (kbFr.up (by decide) (by decide) (fr_f_MD_readNumber ex8))
      obtain ⟨x9, ex9, h⟩ := kb_bind h
      have fx9 := kbFr.tr (C := [61, 67]) (S := [14, 16, 17, 18, 19, 20, 21]) fx8 (kbFr.up (by decide) (by decide) (fr_f_MD_lay ex9))
      cases h
      exact fx9
    rcases kb_ite h with h | h
    · skip
      obtain ⟨x4, ex4, h⟩ := kb_bind h
      rcases kb_ite h with h | h
      · skip
        obtain ⟨x7, ex7, h⟩ := kb_bind h
        have fx7 := kbFr.tr (C := [61, 67]) (S := [14, 16, 17, 18, 19, 20, 21]) kbFr.rf (kbFr.up (by decide) (by decide) (fr_f_MD_wrong ex7))
        exact kbFr.tr fx7 (kbFr.up (by decide) (by decide) (fr_jn_MD_readPart_56 hre h))
      exact kbFr.tr kbFr.rf (kbFr.up (by decide) (by decide) (fr_jn_MD_readPart_56 hre h))
    obtain ⟨x1, ex1, h⟩ := kb_bind h
    have fx1 := kbFr.tr (C := [61, 67]) (S := [14, 16, 17, 18, 19, 20, 21]) kbFr.rf (kbFr.up (by decide) (by decide) (fr_f_MD_mark ex1))
    obtain ⟨x2, ex2, h⟩ := kb_bind h
    have fx2 := kbFr.tr (C := [61, 67]) (S := [14, 16, 17, 18, 19, 20, 21]) fx1 (kbFr.up (by decide) (by decide) (hre ex2))
    obtain ⟨x3, ex3, h⟩ := kb_bind h
    have fx3 := kbFr.tr (C := [61, 67]) (S := [14, 16, 17, 18, 19, 20, 21]) fx2 (kbFr.up (by decide) (by decide) (fr_f_MD_mark ex3))
    cases h
    exact fx3
  cases h
  exact kbFr.rf
theorem fr_jn_MD_readProduct_39 {n : Nat} {v1 : Int32} {w0 : Int32} {μ : kbM} {re : Int32 → kbM → Option kbM} (hre : ∀ {a : Int32} {μ x : kbM}, re a μ = some x → kbFr [61, 67] [14, 16, 17, 18, 19, 20, 21] μ x) {rec : kbM → Option (kbM)} (hrec : ∀ {y0 : kbM} {x : kbM}, rec y0 = some x → kbFr [61, 67] [14, 16, 17, 18, 19, 20, 21] y0 x) {x : kbM} (h : jn_MD_readProduct_39 n re rec v1 w0 μ = some x) : kbFr [61, 67] [14, 16, 17, 18, 19, 20, 21] μ x := by
  unfold jn_MD_readProduct_39 at h
  obtain ⟨x4, ex4, h⟩ := kb_bind h
  have fx4 := kbFr.tr (C := [61, 67]) (S := [14, 16, 17, 18, 19, 20, 21]) kbFr.rf (kbFr.up (by decide) (by decide) (fr_f_MD_stepOn ex4))
  obtain ⟨x5, ex5, h⟩ := kb_bind h
  have fx5 := kbFr.tr (C := [61, 67]) (S := [14, 16, 17, 18, 19, 20, 21]) fx4 (kbFr.up (by decide) (by decide) (fr_f_MD_readPart hre ex5))
  obtain ⟨x6, ex6, h⟩ := kb_bind h
  have fx6 := kbFr.tr (C := [61, 67]) (S := [14, 16, 17, 18, 19, 20, 21]) fx5 (kbFr.up (by decide) (by decide) (fr_f_MD_lay ex6))
  exact kbFr.tr fx6 (hrec h)
theorem fr_jn_MD_readProduct_23 {n : Nat} {v1 : Int32} {μ : kbM} {re : Int32 → kbM → Option kbM} (hre : ∀ {a : Int32} {μ x : kbM}, re a μ = some x → kbFr [61, 67] [14, 16, 17, 18, 19, 20, 21] μ x) {rec : kbM → Option (kbM)} (hrec : ∀ {y0 : kbM} {x : kbM}, rec y0 = some x → kbFr [61, 67] [14, 16, 17, 18, 19, 20, 21] y0 x) {x : kbM} (h : jn_MD_readProduct_23 n re rec v1 μ = some x) : kbFr [61, 67] [14, 16, 17, 18, 19, 20, 21] μ x := by
  unfold jn_MD_readProduct_23 at h
  obtain ⟨x3, ex3, h⟩ := kb_bind h
  rcases kb_ite h with h | h
  · skip
    exact kbFr.tr kbFr.rf (kbFr.up (by decide) (by decide) (fr_jn_MD_readProduct_39 hre hrec h))
  exact kbFr.tr kbFr.rf (kbFr.up (by decide) (by decide) (fr_jn_MD_readProduct_39 hre hrec h))
theorem fr_lp_MD_readProduct_5 {n : Nat} {v1 : Int32} {re : Int32 → kbM → Option kbM} (hre : ∀ {a : Int32} {μ x : kbM}, re a μ = some x → kbFr [61, 67] [14, 16, 17, 18, 19, 20, 21] μ x) {k : Nat} : ∀ {μ : kbM} {x : kbM}, lp_MD_readProduct_5 n re v1 k μ = some x → kbFr [61, 67] [14, 16, 17, 18, 19, 20, 21] μ x := by
  induction k with
  | zero => intro μ x h; cases h
  | succ k ih =>
    intro μ x h
    unfold lp_MD_readProduct_5 at h
    obtain ⟨x2, ex2, h⟩ := kb_bind h
    rcases kb_ite h with h | h
    · skip
      obtain ⟨x7, ex7, h⟩ := kb_bind h
      rcases kb_ite h with h | h
      · skip
        cases h
        exact kbFr.rf
      exact kbFr.tr kbFr.rf (kbFr.up (by decide) (by decide) (fr_jn_MD_readProduct_23 hre (fun h => ih h) h))
    exact kbFr.tr kbFr.rf (kbFr.up (by decide) (by decide) (fr_jn_MD_readProduct_23 hre (fun h => ih h) h))
theorem fr_f_MD_readProduct {n : Nat} {a1 : Int32} {μ : kbM} {re : Int32 → kbM → Option kbM} (hre : ∀ {a : Int32} {μ x : kbM}, re a μ = some x → kbFr [61, 67] [14, 16, 17, 18, 19, 20, 21] μ x) {x : kbM} (h : f_MD_readProduct n re a1 μ = some x) : kbFr [61, 67] [14, 16, 17, 18, 19, 20, 21] μ x := by
  unfold f_MD_readProduct at h
  obtain ⟨x1, ex1, h⟩ := kb_bind h
  have fx1 := kbFr.tr (C := [61, 67]) (S := [14, 16, 17, 18, 19, 20, 21]) kbFr.rf (kbFr.up (by decide) (by decide) (fr_f_MD_readPart hre ex1))
  obtain ⟨x8, ex8, h⟩ := kb_bind h
  have fx8 := kbFr.tr (C := [61, 67]) (S := [14, 16, 17, 18, 19, 20, 21]) fx1 (kbFr.up (by decide) (by decide) (fr_lp_MD_readProduct_5 hre ex8))
  cases h
  exact fx8
theorem fr_jn_MD_readSum_39 {n : Nat} {v1 : Int32} {w0 : Int32} {μ : kbM} {re : Int32 → kbM → Option kbM} (hre : ∀ {a : Int32} {μ x : kbM}, re a μ = some x → kbFr [61, 67] [14, 16, 17, 18, 19, 20, 21] μ x) {rec : kbM → Option (kbM)} (hrec : ∀ {y0 : kbM} {x : kbM}, rec y0 = some x → kbFr [61, 67] [14, 16, 17, 18, 19, 20, 21] y0 x) {x : kbM} (h : jn_MD_readSum_39 n re rec v1 w0 μ = some x) : kbFr [61, 67] [14, 16, 17, 18, 19, 20, 21] μ x := by
  unfold jn_MD_readSum_39 at h
  obtain ⟨x4, ex4, h⟩ := kb_bind h
  have fx4 := kbFr.tr (C := [61, 67]) (S := [14, 16, 17, 18, 19, 20, 21]) kbFr.rf (kbFr.up (by decide) (by decide) (fr_f_MD_stepOn ex4))
  obtain ⟨x5, ex5, h⟩ := kb_bind h
  have fx5 := kbFr.tr (C := [61, 67]) (S := [14, 16, 17, 18, 19, 20, 21]) fx4 (kbFr.up (by decide) (by decide) (fr_f_MD_readProduct hre ex5))
  obtain ⟨x6, ex6, h⟩ := kb_bind h
  have fx6 := kbFr.tr (C := [61, 67]) (S := [14, 16, 17, 18, 19, 20, 21]) fx5 (kbFr.up (by decide) (by decide) (fr_f_MD_lay ex6))
  exact kbFr.tr fx6 (hrec h)
theorem fr_jn_MD_readSum_23 {n : Nat} {v1 : Int32} {μ : kbM} {re : Int32 → kbM → Option kbM} (hre : ∀ {a : Int32} {μ x : kbM}, re a μ = some x → kbFr [61, 67] [14, 16, 17, 18, 19, 20, 21] μ x) {rec : kbM → Option (kbM)} (hrec : ∀ {y0 : kbM} {x : kbM}, rec y0 = some x → kbFr [61, 67] [14, 16, 17, 18, 19, 20, 21] y0 x) {x : kbM} (h : jn_MD_readSum_23 n re rec v1 μ = some x) : kbFr [61, 67] [14, 16, 17, 18, 19, 20, 21] μ x := by
  unfold jn_MD_readSum_23 at h
  obtain ⟨x3, ex3, h⟩ := kb_bind h
  rcases kb_ite h with h | h
  · skip
    exact kbFr.tr kbFr.rf (kbFr.up (by decide) (by decide) (fr_jn_MD_readSum_39 hre hrec h))
  exact kbFr.tr kbFr.rf (kbFr.up (by decide) (by decide) (fr_jn_MD_readSum_39 hre hrec h))
theorem fr_lp_MD_readSum_5 {n : Nat} {v1 : Int32} {re : Int32 → kbM → Option kbM} (hre : ∀ {a : Int32} {μ x : kbM}, re a μ = some x → kbFr [61, 67] [14, 16, 17, 18, 19, 20, 21] μ x) {k : Nat} : ∀ {μ : kbM} {x : kbM}, lp_MD_readSum_5 n re v1 k μ = some x → kbFr [61, 67] [14, 16, 17, 18, 19, 20, 21] μ x := by
  induction k with
  | zero => intro μ x h; cases h
  | succ k ih =>
    intro μ x h
    unfold lp_MD_readSum_5 at h
    obtain ⟨x2, ex2, h⟩ := kb_bind h
    rcases kb_ite h with h | h
    · skip
      obtain ⟨x7, ex7, h⟩ := kb_bind h
      rcases kb_ite h with h | h
      · skip
        cases h
        exact kbFr.rf
      exact kbFr.tr kbFr.rf (kbFr.up (by decide) (by decide) (fr_jn_MD_readSum_23 hre (fun h => ih h) h))
    exact kbFr.tr kbFr.rf (kbFr.up (by decide) (by decide) (fr_jn_MD_readSum_23 hre (fun h => ih h) h))
theorem fr_f_MD_readSum {n : Nat} {a1 : Int32} {μ : kbM} {re : Int32 → kbM → Option kbM} (hre : ∀ {a : Int32} {μ x : kbM}, re a μ = some x → kbFr [61, 67] [14, 16, 17, 18, 19, 20, 21] μ x) {x : kbM} (h : f_MD_readSum n re a1 μ = some x) : kbFr [61, 67] [14, 16, 17, 18, 19, 20, 21] μ x := by
  unfold f_MD_readSum at h
  obtain ⟨x1, ex1, h⟩ := kb_bind h
  have fx1 := kbFr.tr (C := [61, 67]) (S := [14, 16, 17, 18, 19, 20, 21]) kbFr.rf (kbFr.up (by decide) (by decide) (fr_f_MD_readProduct hre ex1))
  obtain ⟨x8, ex8, h⟩ := kb_bind h
  have fx8 := kbFr.tr (C := [61, 67]) (S := [14, 16, 17, 18, 19, 20, 21]) fx1 (kbFr.up (by decide) (by decide) (fr_lp_MD_readSum_5 hre ex8))
  cases h
  exact fx8
theorem fr_jn_MD_readNot_23 {n : Nat} {v1 : Int32} {v2 : Int32} {μ : kbM} {re : Int32 → kbM → Option kbM} (hre : ∀ {a : Int32} {μ x : kbM}, re a μ = some x → kbFr [61, 67] [14, 16, 17, 18, 19, 20, 21] μ x) {rec : Int32 → kbM → Option (Int32 × kbM)} (hrec : ∀ {y0 : Int32} {y1 : kbM} {x : Int32 × kbM}, rec y0 y1 = some x → kbFr [61, 67] [14, 16, 17, 18, 19, 20, 21] y1 x.2) {x : Int32 × kbM} (h : jn_MD_readNot_23 n re rec v1 v2 μ = some x) : kbFr [61, 67] [14, 16, 17, 18, 19, 20, 21] μ x.2 := by
  unfold jn_MD_readNot_23 at h
  rcases kb_ite h with h | h
  · skip
    obtain ⟨x2, ex2, h⟩ := kb_bind h
    have fx2 := kbFr.tr (C := [61, 67]) (S := [14, 16, 17, 18, 19, 20, 21]) kbFr.rf (kbFr.up (by decide) (by decide) (fr_f_MD_stepOn ex2))
    exact kbFr.tr fx2 (hrec h)
  exact kbFr.tr kbFr.rf (hrec h)
theorem fr_lp_MD_readNot_2 {n : Nat} {v1 : Int32} {re : Int32 → kbM → Option kbM} (hre : ∀ {a : Int32} {μ x : kbM}, re a μ = some x → kbFr [61, 67] [14, 16, 17, 18, 19, 20, 21] μ x) {k : Nat} : ∀ {v2 : Int32} {μ : kbM} {x : Int32 × kbM}, lp_MD_readNot_2 n re v1 k v2 μ = some x → kbFr [61, 67] [14, 16, 17, 18, 19, 20, 21] μ x.2 := by
  induction k with
  | zero => intro v2 μ x h; cases h
  | succ k ih =>
    intro v2 μ x h
    unfold lp_MD_readNot_2 at h
    obtain ⟨x1, ex1, h⟩ := kb_bind h
    rcases kb_ite h with h | h
    · skip
      cases h
      exact kbFr.rf
    rcases kb_ite h with h | h
    · skip
      obtain ⟨x3, ex3, h⟩ := kb_bind h
      have fx3 := kbFr.tr (C := [61, 67]) (S := [14, 16, 17, 18, 19, 20, 21]) kbFr.rf (kbFr.up (by decide) (by decide) (fr_f_MD_wrong ex3))
      exact kbFr.tr fx3 (kbFr.up (by decide) (by decide) (fr_jn_MD_readNot_23 hre (fun h => ih h) h))
    exact kbFr.tr kbFr.rf (kbFr.up (by decide) (by decide) (fr_jn_MD_readNot_23 hre (fun h => ih h) h))
theorem fr_lp_MD_readNot_96 {n : Nat} {v2 : Int32} {re : Int32 → kbM → Option kbM} (hre : ∀ {a : Int32} {μ x : kbM}, re a μ = some x → kbFr [61, 67] [14, 16, 17, 18, 19, 20, 21] μ x) {k : Nat} : ∀ {v3 : Int32} {μ : kbM} {x : kbM}, lp_MD_readNot_96 n re v2 k v3 μ = some x → kbFr [61, 67] [14, 16, 17, 18, 19, 20, 21] μ x := by
  induction k with
  | zero => intro v3 μ x h; cases h
  | succ k ih =>
    intro v3 μ x h
    unfold lp_MD_readNot_96 at h
    rcases kb_ite h with h | h
    · skip
      cases h
      exact kbFr.rf
    obtain ⟨x11, ex11, h⟩ := kb_bind h
    have fx11 := kbFr.tr (C := [61, 67]) (S := [14, 16, 17, 18, 19, 20, 21]) kbFr.rf (kbFr.up (by decide) (by decide) (fr_f_MD_lay ex11))
    exact kbFr.tr fx11 (ih h)
theorem fr_jn_MD_readNot_94 {n : Nat} {v2 : Int32} {μ : kbM} {re : Int32 → kbM → Option kbM} (hre : ∀ {a : Int32} {μ x : kbM}, re a μ = some x → kbFr [61, 67] [14, 16, 17, 18, 19, 20, 21] μ x) {x : kbM} (h : jn_MD_readNot_94 n re v2 μ = some x) : kbFr [61, 67] [14, 16, 17, 18, 19, 20, 21] μ x := by
  unfold jn_MD_readNot_94 at h
  obtain ⟨x12, ex12, h⟩ := kb_bind h
  have fx12 := kbFr.tr (C := [61, 67]) (S := [14, 16, 17, 18, 19, 20, 21]) kbFr.rf (kbFr.up (by decide) (by decide) (fr_lp_MD_readNot_96 hre ex12))
  cases h
  exact fx12
theorem fr_jn_MD_readNot_79 {n : Nat} {v1 : Int32} {v2 : Int32} {w0 : Int32} {μ : kbM} {re : Int32 → kbM → Option kbM} (hre : ∀ {a : Int32} {μ x : kbM}, re a μ = some x → kbFr [61, 67] [14, 16, 17, 18, 19, 20, 21] μ x) {x : kbM} (h : jn_MD_readNot_79 n re v1 v2 w0 μ = some x) : kbFr [61, 67] [14, 16, 17, 18, 19, 20, 21] μ x := by
  unfold jn_MD_readNot_79 at h
  obtain ⟨x8, ex8, h⟩ := kb_bind h
  have fx8 := kbFr.tr (C := [61, 67]) (S := [14, 16, 17, 18, 19, 20, 21]) kbFr.rf (kbFr.up (by decide) (by decide) (fr_f_MD_stepOn ex8))
  obtain ⟨x9, ex9, h⟩ := kb_bind h
  have fx9 := kbFr.tr (C := [61, 67]) (S := [14, 16, 17, 18, 19, 20, 21]) fx8 (kbFr.up (by decide) (by decide) (fr_f_MD_readSum hre ex9))
  obtain ⟨x10, ex10, h⟩ := kb_bind h
  have fx10 := kbFr.tr (C := [61, 67]) (S := [14, 16, 17, 18, 19, 20, 21]) fx9 (kbFr.up (by decide) (by decide) (fr_f_MD_lay ex10))
  exact kbFr.tr fx10 (kbFr.up (by decide) (by decide) (fr_jn_MD_readNot_94 hre h))
theorem fr_jn_MD_readNot_63 {n : Nat} {v1 : Int32} {v2 : Int32} {μ : kbM} {re : Int32 → kbM → Option kbM} (hre : ∀ {a : Int32} {μ x : kbM}, re a μ = some x → kbFr [61, 67] [14, 16, 17, 18, 19, 20, 21] μ x) {x : kbM} (h : jn_MD_readNot_63 n re v1 v2 μ = some x) : kbFr [61, 67] [14, 16, 17, 18, 19, 20, 21] μ x := by
  unfold jn_MD_readNot_63 at h
  obtain ⟨x7, ex7, h⟩ := kb_bind h
  rcases kb_ite h with h | h
  · skip
    exact kbFr.tr kbFr.rf (kbFr.up (by decide) (by decide) (fr_jn_MD_readNot_79 hre h))
  exact kbFr.tr kbFr.rf (kbFr.up (by decide) (by decide) (fr_jn_MD_readNot_79 hre h))
theorem fr_f_MD_readNot {n : Nat} {a1 : Int32} {μ : kbM} {re : Int32 → kbM → Option kbM} (hre : ∀ {a : Int32} {μ x : kbM}, re a μ = some x → kbFr [61, 67] [14, 16, 17, 18, 19, 20, 21] μ x) {x : kbM} (h : f_MD_readNot n re a1 μ = some x) : kbFr [61, 67] [14, 16, 17, 18, 19, 20, 21] μ x := by
  unfold f_MD_readNot at h
  obtain ⟨x4, ex4, h⟩ := kb_bind h
  have fx4 := kbFr.tr (C := [61, 67]) (S := [14, 16, 17, 18, 19, 20, 21]) kbFr.rf (kbFr.up (by decide) (by decide) (fr_lp_MD_readNot_2 hre ex4))
  obtain ⟨x5, ex5, h⟩ := kb_bind h
  have fx5 := kbFr.tr (C := [61, 67]) (S := [14, 16, 17, 18, 19, 20, 21]) fx4 (kbFr.up (by decide) (by decide) (fr_f_MD_readSum hre ex5))
  obtain ⟨x6, ex6, h⟩ := kb_bind h
  rcases kb_ite h with h | h
  · skip
    obtain ⟨x13, ex13, h⟩ := kb_bind h
    rcases kb_ite h with h | h
    · skip
      exact kbFr.tr fx5 (kbFr.up (by decide) (by decide) (fr_jn_MD_readNot_94 hre h))
    exact kbFr.tr fx5 (kbFr.up (by decide) (by decide) (fr_jn_MD_readNot_63 hre h))
  exact kbFr.tr fx5 (kbFr.up (by decide) (by decide) (fr_jn_MD_readNot_63 hre h))
theorem fr_lp_MD_readAnd_5 {n : Nat} {v1 : Int32} {re : Int32 → kbM → Option kbM} (hre : ∀ {a : Int32} {μ x : kbM}, re a μ = some x → kbFr [61, 67] [14, 16, 17, 18, 19, 20, 21] μ x) {k : Nat} : ∀ {μ : kbM} {x : kbM}, lp_MD_readAnd_5 n re v1 k μ = some x → kbFr [61, 67] [14, 16, 17, 18, 19, 20, 21] μ x := by
  induction k with
  | zero => intro μ x h; cases h
  | succ k ih =>
    intro μ x h
    unfold lp_MD_readAnd_5 at h
    obtain ⟨x2, ex2, h⟩ := kb_bind h
    rcases kb_ite h with h | h
    · skip
      cases h
      exact kbFr.rf
    obtain ⟨x3, ex3, h⟩ := kb_bind h
    have fx3 := kbFr.tr (C := [61, 67]) (S := [14, 16, 17, 18, 19, 20, 21]) kbFr.rf (kbFr.up (by decide) (by decide) (fr_f_MD_stepOn ex3))
    obtain ⟨x4, ex4, h⟩ := kb_bind h
    have fx4 := kbFr.tr (C := [61, 67]) (S := [14, 16, 17, 18, 19, 20, 21]) fx3 (kbFr.up (by decide) (by decide) (fr_f_MD_readNot hre ex4))
    obtain ⟨x5, ex5, h⟩ := kb_bind h
    have fx5 := kbFr.tr (C := [61, 67]) (S := [14, 16, 17, 18, 19, 20, 21]) fx4 (kbFr.up (by decide) (by decide) (fr_f_MD_lay ex5))
    exact kbFr.tr fx5 (ih h)
theorem fr_f_MD_readAnd {n : Nat} {a1 : Int32} {μ : kbM} {re : Int32 → kbM → Option kbM} (hre : ∀ {a : Int32} {μ x : kbM}, re a μ = some x → kbFr [61, 67] [14, 16, 17, 18, 19, 20, 21] μ x) {x : kbM} (h : f_MD_readAnd n re a1 μ = some x) : kbFr [61, 67] [14, 16, 17, 18, 19, 20, 21] μ x := by
  unfold f_MD_readAnd at h
  obtain ⟨x1, ex1, h⟩ := kb_bind h
  have fx1 := kbFr.tr (C := [61, 67]) (S := [14, 16, 17, 18, 19, 20, 21]) kbFr.rf (kbFr.up (by decide) (by decide) (fr_f_MD_readNot hre ex1))
  obtain ⟨x6, ex6, h⟩ := kb_bind h
  have fx6 := kbFr.tr (C := [61, 67]) (S := [14, 16, 17, 18, 19, 20, 21]) fx1 (kbFr.up (by decide) (by decide) (fr_lp_MD_readAnd_5 hre ex6))
  cases h
  exact fx6
theorem fr_lp_MD_readExpression_67 {n : Nat} {v1 : Int32} {re : Int32 → kbM → Option kbM} (hre : ∀ {a : Int32} {μ x : kbM}, re a μ = some x → kbFr [61, 67] [14, 16, 17, 18, 19, 20, 21] μ x) {k : Nat} : ∀ {μ : kbM} {x : kbM}, lp_MD_readExpression_67 n re v1 k μ = some x → kbFr [61, 67] [14, 16, 17, 18, 19, 20, 21] μ x := by
  induction k with
  | zero => intro μ x h; cases h
  | succ k ih =>
    intro μ x h
    unfold lp_MD_readExpression_67 at h
    obtain ⟨x2, ex2, h⟩ := kb_bind h
    rcases kb_ite h with h | h
    · skip
      cases h
      exact kbFr.rf
    obtain ⟨x3, ex3, h⟩ := kb_bind h
    have fx3 := kbFr.tr (C := [61, 67]) (S := [14, 16, 17, 18, 19, 20, 21]) kbFr.rf (kbFr.up (by decide) (by decide) (fr_f_MD_stepOn ex3))
    obtain ⟨x4, ex4, h⟩ := kb_bind h
    have fx4 := kbFr.tr (C := [61, 67]) (S := [14, 16, 17, 18, 19, 20, 21]) fx3 (kbFr.up (by decide) (by decide) (fr_f_MD_readAnd hre ex4))
    obtain ⟨x5, ex5, h⟩ := kb_bind h
    have fx5 := kbFr.tr (C := [61, 67]) (S := [14, 16, 17, 18, 19, 20, 21]) fx4 (kbFr.up (by decide) (by decide) (fr_f_MD_lay ex5))
    exact kbFr.tr fx5 (ih h)
theorem fr_jn_MD_readExpression_62 {n : Nat} {v1 : Int32} {μ : kbM} {re : Int32 → kbM → Option kbM} (hre : ∀ {a : Int32} {μ x : kbM}, re a μ = some x → kbFr [61, 67] [14, 16, 17, 18, 19, 20, 21] μ x) {x : kbM} (h : jn_MD_readExpression_62 n re v1 μ = some x) : kbFr [61, 67] [14, 16, 17, 18, 19, 20, 21] μ x := by
  unfold jn_MD_readExpression_62 at h
  obtain ⟨x1, ex1, h⟩ := kb_bind h
  have fx1 := kbFr.tr (C := [61, 67]) (S := [14, 16, 17, 18, 19, 20, 21]) kbFr.rf (kbFr.up (by decide) (by decide) (fr_f_MD_readAnd hre ex1))
  obtain ⟨x6, ex6, h⟩ := kb_bind h
  have fx6 := kbFr.tr (C := [61, 67]) (S := [14, 16, 17, 18, 19, 20, 21]) fx1 (kbFr.up (by decide) (by decide) (fr_lp_MD_readExpression_67 hre ex6))
  cases h
  exact fx6
theorem fr_jn_MD_readExpression_38 {n : Nat} {v1 : Int32} {w0 : Int32} {μ : kbM} {re : Int32 → kbM → Option kbM} (hre : ∀ {a : Int32} {μ x : kbM}, re a μ = some x → kbFr [61, 67] [14, 16, 17, 18, 19, 20, 21] μ x) {x : kbM} (h : jn_MD_readExpression_38 n re v1 w0 μ = some x) : kbFr [61, 67] [14, 16, 17, 18, 19, 20, 21] μ x := by
  unfold jn_MD_readExpression_38 at h
  rcases kb_ite h with h | h
  · skip
    obtain ⟨x8, ex8, h⟩ := kb_bind h
    have fx8 := kbFr.tr (C := [61, 67]) (S := [14, 16, 17, 18, 19, 20, 21]) kbFr.rf (kbFr.up (by decide) (by decide) (fr_f_MD_wrong ex8))
    exact kbFr.tr fx8 (kbFr.up (by decide) (by decide) (fr_jn_MD_readExpression_62 hre h))
  rcases kb_ite h with h | h
  · skip
    obtain ⟨x7, ex7, h⟩ := kb_bind h
    have fx7 := kbFr.tr (C := [61, 67]) (S := [14, 16, 17, 18, 19, 20, 21]) kbFr.rf (kbFr.up (by decide) (by decide) (fr_f_MD_wrong ex7))
    exact kbFr.tr fx7 (kbFr.up (by decide) (by decide) (fr_jn_MD_readExpression_62 hre h))
  exact kbFr.tr kbFr.rf (kbFr.up (by decide) (by decide) (fr_jn_MD_readExpression_62 hre h))
theorem fr_jn_MD_readExpression_33 {n : Nat} {v1 : Int32} {μ : kbM} {re : Int32 → kbM → Option kbM} (hre : ∀ {a : Int32} {μ x : kbM}, re a μ = some x → kbFr [61, 67] [14, 16, 17, 18, 19, 20, 21] μ x) {x : kbM} (h : jn_MD_readExpression_33 n re v1 μ = some x) : kbFr [61, 67] [14, 16, 17, 18, 19, 20, 21] μ x := by
  unfold jn_MD_readExpression_33 at h
  exact kbFr.tr kbFr.rf (kbFr.up (by decide) (by decide) (fr_jn_MD_readExpression_38 hre h))
theorem fr_f_MD_readExpression {n : Nat} {a1 : Int32} {μ : kbM} {re : Int32 → kbM → Option kbM} (hre : ∀ {a : Int32} {μ x : kbM}, re a μ = some x → kbFr [61, 67] [14, 16, 17, 18, 19, 20, 21] μ x) {x : kbM} (h : f_MD_readExpression n re a1 μ = some x) : kbFr [61, 67] [14, 16, 17, 18, 19, 20, 21] μ x := by
  unfold f_MD_readExpression at h
  rcases kb_ite h with h | h
  · skip
    rcases kb_ite h with h | h
    · skip
      exact kbFr.tr kbFr.rf (kbFr.up (by decide) (by decide) (fr_jn_MD_readExpression_33 hre h))
    rcases kb_ite h with h | h
    · skip
      exact kbFr.tr kbFr.rf (kbFr.up (by decide) (by decide) (fr_jn_MD_readExpression_33 hre h))
    obtain ⟨x9, ex9, h⟩ := kb_bind h
    rcases kb_ite h with h | h
    · skip
      exact kbFr.tr kbFr.rf (kbFr.up (by decide) (by decide) (fr_jn_MD_readExpression_38 hre h))
    exact kbFr.tr kbFr.rf (kbFr.up (by decide) (by decide) (fr_jn_MD_readExpression_33 hre h))
  cases h
  exact kbFr.rf
theorem fr_F_MD_readExpression {n : Nat} : ∀ {k : Nat} {a : Int32} {μ x : kbM}, F_MD_readExpression n k a μ = some x → kbFr [61, 67] [14, 16, 17, 18, 19, 20, 21] μ x := by
  intro k
  induction k with
  | zero => intro a μ x h; cases h
  | succ k ih => intro a μ x h; exact fr_f_MD_readExpression (fun h => ih h) h
theorem fr_jn_MD_readLine_93 {n : Nat} {v1 : Int32} {μ : kbM} {x : Int32 × kbM} (h : jn_MD_readLine_93 n v1 μ = some x) : kbFr [] [14, 16, 17, 18, 19, 20, 21] μ x.2 := by
  unfold jn_MD_readLine_93 at h
  obtain ⟨x5, ex5, h⟩ := kb_bind h
  have fx5 := kbFr.tr (C := []) (S := [14, 16, 17, 18, 19, 20, 21]) kbFr.rf (kbFr.up (by decide) (by decide) (fr_f_MD_mark ex5))
  cases h
  exact fx5
theorem fr_jn_MD_readLine_49 {n : Nat} {μ : kbM} {x : Int32 × kbM} (h : jn_MD_readLine_49 n μ = some x) : kbFr [61, 67] [14, 16, 17, 18, 19, 20, 21] μ x.2 := by
  unfold jn_MD_readLine_49 at h
  obtain ⟨x8, ex8, h⟩ := kb_bind h
  have fx8 := kbFr.tr (C := [61, 67]) (S := [14, 16, 17, 18, 19, 20, 21]) kbFr.rf (kbFr.up (by decide) (by decide) (fr_F_MD_readExpression ex8))
  obtain ⟨x9, ex9, h⟩ := kb_bind h
  have fx9 := kbFr.tr (C := [61, 67]) (S := [14, 16, 17, 18, 19, 20, 21]) fx8 (kbFr.up (by decide) (by decide) (fr_f_MD_mark ex9))
  cases h
  exact fx9
theorem fr_jn_MD_readLine_38 {n : Nat} {μ : kbM} {x : Int32 × kbM} (h : jn_MD_readLine_38 n μ = some x) : kbFr [61, 67] [14, 16, 17, 18, 19, 20, 21] μ x.2 := by
  unfold jn_MD_readLine_38 at h
  rcases kb_ite h with h | h
  · skip
    obtain ⟨x10, ex10, h⟩ := kb_bind h
    have fx10 := kbFr.tr (C := [61, 67]) (S := [14, 16, 17, 18, 19, 20, 21]) kbFr.rf (kbFr.up (by decide) (by decide) (fr_f_MD_stepOn ex10))
    exact kbFr.tr fx10 (kbFr.up (by decide) (by decide) (fr_jn_MD_readLine_49 h))
  exact kbFr.tr kbFr.rf (kbFr.up (by decide) (by decide) (fr_jn_MD_readLine_49 h))
theorem fr_f_MD_readLine {n : Nat} {a1 : Int32} {μ : kbM} {x : Int32 × kbM} (h : f_MD_readLine n a1 μ = some x) : kbFr [61, 62, 63, 64, 65, 66, 67] [14, 16, 17, 18, 19, 20, 21] μ x.2 := by
  unfold f_MD_readLine at h
  obtain ⟨x1, ex1, h⟩ := kb_bind h
  obtain ⟨x2, ex2, h⟩ := kb_bind h
  obtain ⟨x3, ex3, h⟩ := kb_bind h
  rcases kb_ite h with h | h
  · skip
    rcases kb_ite h with h | h
    · skip
      rcases kb_ite h with h | h
      · skip
        obtain ⟨x4, ex4, h⟩ := kb_bind h
        have fx4 := kbFr.tr (C := [61, 62, 63, 64, 65, 66, 67]) (S := [14, 16, 17, 18, 19, 20, 21]) kbFr.rf (kbFr.up (by decide) (by decide) (fr_f_MD_wrong ex4))
        exact kbFr.tr fx4 (kbFr.up (by decide) (by decide) (fr_jn_MD_readLine_93 h))
      obtain ⟨x6, ex6, h⟩ := kb_bind h
      have fx6 := kbFr.tr (C := [61, 62, 63, 64, 65, 66, 67]) (S := [14, 16, 17, 18, 19, 20, 21]) kbFr.rf (kbFr.up (by decide) (by decide) (fr_f_MD_readDoor ex6))
      exact kbFr.tr fx6 (kbFr.up (by decide) (by decide) (fr_jn_MD_readLine_93 h))
    obtain ⟨x7, ex7, h⟩ := kb_bind h
    have fx7 := kbFr.tr (C := [61, 62, 63, 64, 65, 66, 67]) (S := [14, 16, 17, 18, 19, 20, 21]) kbFr.rf (kbFr.up (by decide) (by decide) (fr_f_MD_readWord ex7))
    exact kbFr.tr fx7 (kbFr.up (by decide) (by decide) (fr_jn_MD_readLine_93 h))
  rcases kb_ite h with h | h
  · skip
    obtain ⟨x11, ex11, h⟩ := kb_bind h
    have fx11 := kbFr.tr (C := [61, 62, 63, 64, 65, 66, 67]) (S := [14, 16, 17, 18, 19, 20, 21]) kbFr.rf (kbFr.up (by decide) (by decide) (fr_f_MD_wrong ex11))
    exact kbFr.tr fx11 (kbFr.up (by decide) (by decide) (fr_jn_MD_readLine_38 h))
  exact kbFr.tr kbFr.rf (kbFr.up (by decide) (by decide) (fr_jn_MD_readLine_38 h))
theorem fr_lp_MD_takeHalf_61_2 {n : Nat} {k : Nat} : ∀ {v1 : Int32} {μ : kbM} {x : kbM}, lp_MD_takeHalf_61_2 n k v1 μ = some x → kbFr [61] [] μ x := by
  induction k with
  | zero => intro v1 μ x h; cases h
  | succ k ih =>
    intro v1 μ x h
    unfold lp_MD_takeHalf_61_2 at h
    rcases kb_ite h with h | h
    · skip
      cases h
      exact kbFr.rf
    replace h := (kbIf_some h).2
    replace h := (kbIf_some h).2
    exact kbFr.tr (kbFr.w kbFr.rf (by decide)) (ih h)
theorem fr_f_MD_takeHalf_61 {n : Nat} {μ : kbM} {x : kbM} (h : f_MD_takeHalf_61 n μ = some x) : kbFr [61] [] μ x := by
  unfold f_MD_takeHalf_61 at h
  obtain ⟨x1, ex1, h⟩ := kb_bind h
  have fx1 := kbFr.tr (C := [61]) (S := []) kbFr.rf (kbFr.up (by decide) (by decide) (fr_lp_MD_takeHalf_61_2 ex1))
  cases h
  exact fx1
theorem fr_lp_MD_takeHalf_62_2 {n : Nat} {k : Nat} : ∀ {v1 : Int32} {μ : kbM} {x : kbM}, lp_MD_takeHalf_62_2 n k v1 μ = some x → kbFr [62] [] μ x := by
  induction k with
  | zero => intro v1 μ x h; cases h
  | succ k ih =>
    intro v1 μ x h
    unfold lp_MD_takeHalf_62_2 at h
    rcases kb_ite h with h | h
    · skip
      cases h
      exact kbFr.rf
    replace h := (kbIf_some h).2
    replace h := (kbIf_some h).2
    exact kbFr.tr (kbFr.w kbFr.rf (by decide)) (ih h)
theorem fr_f_MD_takeHalf_62 {n : Nat} {μ : kbM} {x : kbM} (h : f_MD_takeHalf_62 n μ = some x) : kbFr [62] [] μ x := by
  unfold f_MD_takeHalf_62 at h
  obtain ⟨x1, ex1, h⟩ := kb_bind h
  have fx1 := kbFr.tr (C := [62]) (S := []) kbFr.rf (kbFr.up (by decide) (by decide) (fr_lp_MD_takeHalf_62_2 ex1))
  cases h
  exact fx1
theorem fr_lp_MD_takeHalf_63_2 {n : Nat} {k : Nat} : ∀ {v1 : Int32} {μ : kbM} {x : kbM}, lp_MD_takeHalf_63_2 n k v1 μ = some x → kbFr [63] [] μ x := by
  induction k with
  | zero => intro v1 μ x h; cases h
  | succ k ih =>
    intro v1 μ x h
    unfold lp_MD_takeHalf_63_2 at h
    rcases kb_ite h with h | h
    · skip
      cases h
      exact kbFr.rf
    replace h := (kbIf_some h).2
    replace h := (kbIf_some h).2
    exact kbFr.tr (kbFr.w kbFr.rf (by decide)) (ih h)
theorem fr_f_MD_takeHalf_63 {n : Nat} {μ : kbM} {x : kbM} (h : f_MD_takeHalf_63 n μ = some x) : kbFr [63] [] μ x := by
  unfold f_MD_takeHalf_63 at h
  obtain ⟨x1, ex1, h⟩ := kb_bind h
  have fx1 := kbFr.tr (C := [63]) (S := []) kbFr.rf (kbFr.up (by decide) (by decide) (fr_lp_MD_takeHalf_63_2 ex1))
  cases h
  exact fx1
theorem fr_lp_MD_takeHalf_64_2 {n : Nat} {k : Nat} : ∀ {v1 : Int32} {μ : kbM} {x : kbM}, lp_MD_takeHalf_64_2 n k v1 μ = some x → kbFr [64] [] μ x := by
  induction k with
  | zero => intro v1 μ x h; cases h
  | succ k ih =>
    intro v1 μ x h
    unfold lp_MD_takeHalf_64_2 at h
    rcases kb_ite h with h | h
    · skip
      cases h
      exact kbFr.rf
    replace h := (kbIf_some h).2
    replace h := (kbIf_some h).2
    exact kbFr.tr (kbFr.w kbFr.rf (by decide)) (ih h)
theorem fr_f_MD_takeHalf_64 {n : Nat} {μ : kbM} {x : kbM} (h : f_MD_takeHalf_64 n μ = some x) : kbFr [64] [] μ x := by
  unfold f_MD_takeHalf_64 at h
  obtain ⟨x1, ex1, h⟩ := kb_bind h
  have fx1 := kbFr.tr (C := [64]) (S := []) kbFr.rf (kbFr.up (by decide) (by decide) (fr_lp_MD_takeHalf_64_2 ex1))
  cases h
  exact fx1
theorem fr_lp_MD_takeHalf_65_2 {n : Nat} {k : Nat} : ∀ {v1 : Int32} {μ : kbM} {x : kbM}, lp_MD_takeHalf_65_2 n k v1 μ = some x → kbFr [65] [] μ x := by
  induction k with
  | zero => intro v1 μ x h; cases h
  | succ k ih =>
    intro v1 μ x h
    unfold lp_MD_takeHalf_65_2 at h
    rcases kb_ite h with h | h
    · skip
      cases h
      exact kbFr.rf
    replace h := (kbIf_some h).2
    replace h := (kbIf_some h).2
    exact kbFr.tr (kbFr.w kbFr.rf (by decide)) (ih h)
theorem fr_f_MD_takeHalf_65 {n : Nat} {μ : kbM} {x : kbM} (h : f_MD_takeHalf_65 n μ = some x) : kbFr [65] [] μ x := by
  unfold f_MD_takeHalf_65 at h
  obtain ⟨x1, ex1, h⟩ := kb_bind h
  have fx1 := kbFr.tr (C := [65]) (S := []) kbFr.rf (kbFr.up (by decide) (by decide) (fr_lp_MD_takeHalf_65_2 ex1))
  cases h
  exact fx1
theorem fr_lp_MD_takeHalf_66_2 {n : Nat} {k : Nat} : ∀ {v1 : Int32} {μ : kbM} {x : kbM}, lp_MD_takeHalf_66_2 n k v1 μ = some x → kbFr [66] [] μ x := by
  induction k with
  | zero => intro v1 μ x h; cases h
  | succ k ih =>
    intro v1 μ x h
    unfold lp_MD_takeHalf_66_2 at h
    rcases kb_ite h with h | h
    · skip
      cases h
      exact kbFr.rf
    replace h := (kbIf_some h).2
    replace h := (kbIf_some h).2
    exact kbFr.tr (kbFr.w kbFr.rf (by decide)) (ih h)
theorem fr_f_MD_takeHalf_66 {n : Nat} {μ : kbM} {x : kbM} (h : f_MD_takeHalf_66 n μ = some x) : kbFr [66] [] μ x := by
  unfold f_MD_takeHalf_66 at h
  obtain ⟨x1, ex1, h⟩ := kb_bind h
  have fx1 := kbFr.tr (C := [66]) (S := []) kbFr.rf (kbFr.up (by decide) (by decide) (fr_lp_MD_takeHalf_66_2 ex1))
  cases h
  exact fx1
theorem fr_lp_MD_takeHalf_67_2 {n : Nat} {k : Nat} : ∀ {v1 : Int32} {μ : kbM} {x : kbM}, lp_MD_takeHalf_67_2 n k v1 μ = some x → kbFr [67] [] μ x := by
  induction k with
  | zero => intro v1 μ x h; cases h
  | succ k ih =>
    intro v1 μ x h
    unfold lp_MD_takeHalf_67_2 at h
    rcases kb_ite h with h | h
    · skip
      cases h
      exact kbFr.rf
    replace h := (kbIf_some h).2
    replace h := (kbIf_some h).2
    exact kbFr.tr (kbFr.w kbFr.rf (by decide)) (ih h)
theorem fr_f_MD_takeHalf_67 {n : Nat} {μ : kbM} {x : kbM} (h : f_MD_takeHalf_67 n μ = some x) : kbFr [67] [] μ x := by
  unfold f_MD_takeHalf_67 at h
  obtain ⟨x1, ex1, h⟩ := kb_bind h
  have fx1 := kbFr.tr (C := [67]) (S := []) kbFr.rf (kbFr.up (by decide) (by decide) (fr_lp_MD_takeHalf_67_2 ex1))
  cases h
  exact fx1
theorem fr_jn_MD_takeOver_143 {n : Nat} {v1 : Int32} {w1 : Int32} {w2 : Int32} {μ : kbM} {rec : Int32 → kbM → Option (kbM)} (hrec : ∀ {y0 : Int32} {y1 : kbM} {x : kbM}, rec y0 y1 = some x → kbFr [70, 71, 72] [] y1 x) {x : kbM} (h : jn_MD_takeOver_143 n rec v1 w1 w2 μ = some x) : kbFr [70, 71, 72] [] μ x := by
  unfold jn_MD_takeOver_143 at h
  replace h := (kbIf_some h).2
  exact kbFr.tr (kbFr.w kbFr.rf (by decide)) (hrec h)
theorem fr_jn_MD_takeOver_119 {n : Nat} {v1 : Int32} {w1 : Int32} {w2 : Int32} {μ : kbM} {rec : Int32 → kbM → Option (kbM)} (hrec : ∀ {y0 : Int32} {y1 : kbM} {x : kbM}, rec y0 y1 = some x → kbFr [70, 71, 72] [] y1 x) {x : kbM} (h : jn_MD_takeOver_119 n rec v1 w1 w2 μ = some x) : kbFr [70, 71, 72] [] μ x := by
  unfold jn_MD_takeOver_119 at h
  replace h := (kbIf_some h).2
  rcases kb_ite h with h | h
  · skip
    exact kbFr.tr (kbFr.w kbFr.rf (by decide)) (kbFr.up (by decide) (by decide) (fr_jn_MD_takeOver_143 hrec h))
  replace h := (kbIf_some h).2
  exact kbFr.tr (kbFr.w kbFr.rf (by decide)) (kbFr.up (by decide) (by decide) (fr_jn_MD_takeOver_143 hrec h))
theorem fr_jn_MD_takeOver_95 {n : Nat} {v1 : Int32} {w1 : Int32} {w2 : Int32} {μ : kbM} {rec : Int32 → kbM → Option (kbM)} (hrec : ∀ {y0 : Int32} {y1 : kbM} {x : kbM}, rec y0 y1 = some x → kbFr [70, 71, 72] [] y1 x) {x : kbM} (h : jn_MD_takeOver_95 n rec v1 w1 w2 μ = some x) : kbFr [70, 71, 72] [] μ x := by
  unfold jn_MD_takeOver_95 at h
  replace h := (kbIf_some h).2
  rcases kb_ite h with h | h
  · skip
    exact kbFr.tr (kbFr.w kbFr.rf (by decide)) (kbFr.up (by decide) (by decide) (fr_jn_MD_takeOver_119 hrec h))
  replace h := (kbIf_some h).2
  exact kbFr.tr (kbFr.w kbFr.rf (by decide)) (kbFr.up (by decide) (by decide) (fr_jn_MD_takeOver_119 hrec h))
theorem fr_lp_MD_takeOver_66 {n : Nat} {k : Nat} : ∀ {v1 : Int32} {μ : kbM} {x : kbM}, lp_MD_takeOver_66 n k v1 μ = some x → kbFr [70, 71, 72] [] μ x := by
  induction k with
  | zero => intro v1 μ x h; cases h
  | succ k ih =>
    intro v1 μ x h
    unfold lp_MD_takeOver_66 at h
    rcases kb_ite h with h | h
    · skip
      cases h
      exact kbFr.rf
    rcases kb_ite h with h | h
    · skip
      exact kbFr.tr kbFr.rf (kbFr.up (by decide) (by decide) (fr_jn_MD_takeOver_95 (fun h => ih h) h))
    replace h := (kbIf_some h).2
    exact kbFr.tr kbFr.rf (kbFr.up (by decide) (by decide) (fr_jn_MD_takeOver_95 (fun h => ih h) h))
theorem fr_f_MD_takeOver {n : Nat} {μ : kbM} {x : kbM} (h : f_MD_takeOver n μ = some x) : kbFr [61, 62, 63, 64, 65, 66, 67, 70, 71, 72] [27, 28, 29, 30, 52] μ x := by
  unfold f_MD_takeOver at h
  obtain ⟨x1, ex1, h⟩ := kb_bind h
  have fx1 := kbFr.tr (C := [61, 62, 63, 64, 65, 66, 67, 70, 71, 72]) (S := [27, 28, 29, 30, 52]) kbFr.rf (kbFr.up (by decide) (by decide) (fr_f_MD_takeHalf_61 ex1))
  obtain ⟨x2, ex2, h⟩ := kb_bind h
  have fx2 := kbFr.tr (C := [61, 62, 63, 64, 65, 66, 67, 70, 71, 72]) (S := [27, 28, 29, 30, 52]) fx1 (kbFr.up (by decide) (by decide) (fr_f_MD_takeHalf_62 ex2))
  obtain ⟨x3, ex3, h⟩ := kb_bind h
  have fx3 := kbFr.tr (C := [61, 62, 63, 64, 65, 66, 67, 70, 71, 72]) (S := [27, 28, 29, 30, 52]) fx2 (kbFr.up (by decide) (by decide) (fr_f_MD_takeHalf_63 ex3))
  obtain ⟨x4, ex4, h⟩ := kb_bind h
  have fx4 := kbFr.tr (C := [61, 62, 63, 64, 65, 66, 67, 70, 71, 72]) (S := [27, 28, 29, 30, 52]) fx3 (kbFr.up (by decide) (by decide) (fr_f_MD_takeHalf_64 ex4))
  obtain ⟨x5, ex5, h⟩ := kb_bind h
  have fx5 := kbFr.tr (C := [61, 62, 63, 64, 65, 66, 67, 70, 71, 72]) (S := [27, 28, 29, 30, 52]) fx4 (kbFr.up (by decide) (by decide) (fr_f_MD_takeHalf_65 ex5))
  obtain ⟨x6, ex6, h⟩ := kb_bind h
  have fx6 := kbFr.tr (C := [61, 62, 63, 64, 65, 66, 67, 70, 71, 72]) (S := [27, 28, 29, 30, 52]) fx5 (kbFr.up (by decide) (by decide) (fr_f_MD_takeHalf_66 ex6))
  obtain ⟨x7, ex7, h⟩ := kb_bind h
  have fx7 := kbFr.tr (C := [61, 62, 63, 64, 65, 66, 67, 70, 71, 72]) (S := [27, 28, 29, 30, 52]) fx6 (kbFr.up (by decide) (by decide) (fr_f_MD_takeHalf_67 ex7))
  obtain ⟨x8, ex8, h⟩ := kb_bind h
  have fx8 := kbFr.tr (C := [61, 62, 63, 64, 65, 66, 67, 70, 71, 72]) (S := [27, 28, 29, 30, 52]) (kbFr.w57 (kbFr.w57 fx7 (by decide)) (by decide)) (kbFr.up (by decide) (by decide) (fr_lp_MD_takeOver_66 ex8))
  cases h
  exact (kbFr.w57 (kbFr.w57 (kbFr.w57 fx8 (by decide)) (by decide)) (by decide))
theorem fr_jn_MD_book_17 {n : Nat} {μ : kbM} {x : Int32 × kbM} (h : jn_MD_book_17 n μ = some x) : kbFr [] [3] μ x.2 := by
  unfold jn_MD_book_17 at h
  obtain ⟨x1, ex1, h⟩ := kb_bind h
  have fx1 := kbFr.tr (C := []) (S := [3]) kbFr.rf (kbFr.up (by decide) (by decide) (fr_f_MD_fail ex1))
  cases h
  exact fx1
theorem fr_lp_MD_book_50 {n : Nat} {k : Nat} : ∀ {v2 : Int32} {μ : kbM} {x : kbM}, lp_MD_book_50 n k v2 μ = some x → kbFr [61] [] μ x := by
  induction k with
  | zero => intro v2 μ x h; cases h
  | succ k ih =>
    intro v2 μ x h
    unfold lp_MD_book_50 at h
    rcases kb_ite h with h | h
    · skip
      cases h
      exact kbFr.rf
    replace h := (kbIf_some h).2
    exact kbFr.tr (kbFr.w kbFr.rf (by decide)) (ih h)
theorem fr_lp_MD_book_76 {n : Nat} {k : Nat} : ∀ {v2 : Int32} {μ : kbM} {x : kbM}, lp_MD_book_76 n k v2 μ = some x → kbFr [61, 62, 63, 64, 65, 66, 67] [14, 16, 17, 18, 19, 20, 21] μ x := by
  induction k with
  | zero => intro v2 μ x h; cases h
  | succ k ih =>
    intro v2 μ x h
    unfold lp_MD_book_76 at h
    rcases kb_ite h with h | h
    · skip
      rcases kb_ite h with h | h
      · skip
        cases h
        exact kbFr.rf
      obtain ⟨x4, ex4, h⟩ := kb_bind h
      have fx4 := kbFr.tr (C := [61, 62, 63, 64, 65, 66, 67]) (S := [14, 16, 17, 18, 19, 20, 21]) kbFr.rf (kbFr.up (by decide) (by decide) (fr_f_MD_readLine ex4))
      exact kbFr.tr fx4 (ih h)
    cases h
    exact kbFr.rf
theorem fr_jn_MD_book_99 {n : Nat} {μ : kbM} {x : Int32 × kbM} (h : jn_MD_book_99 n μ = some x) : kbFr [61, 62, 63, 64, 65, 66, 67, 68, 70, 71, 72] [22, 27, 28, 29, 30, 52] μ x.2 := by
  unfold jn_MD_book_99 at h
  rcases kb_ite h with h | h
  · skip
    obtain ⟨x6, ex6, h⟩ := kb_bind h
    have fx6 := kbFr.tr (C := [61, 62, 63, 64, 65, 66, 67, 68, 70, 71, 72]) (S := [22, 27, 28, 29, 30, 52]) kbFr.rf (kbFr.up (by decide) (by decide) (fr_f_MD_takeOver ex6))
    cases h
    exact fx6
  cases h
  exact (kbFr.w (kbFr.w57 kbFr.rf (by decide)) (by decide))
theorem fr_f_MD_book {n : Nat} {a1 : Int32} {μ : kbM} {x : Int32 × kbM} (h : f_MD_book n a1 μ = some x) : kbFr [61, 62, 63, 64, 65, 66, 67, 68, 70, 71, 72] [3, 13, 14, 15, 16, 17, 18, 19, 20, 21, 22, 27, 28, 29, 30, 52] μ x.2 := by
  unfold f_MD_book at h
  rcases kb_ite h with h | h
  · skip
    exact kbFr.tr (kbFr.w57 kbFr.rf (by decide)) (kbFr.up (by decide) (by decide) (fr_jn_MD_book_17 h))
  rcases kb_ite h with h | h
  · skip
    obtain ⟨x2, ex2, h⟩ := kb_bind h
    have fx2 := kbFr.tr (C := [61, 62, 63, 64, 65, 66, 67, 68, 70, 71, 72]) (S := [3, 13, 14, 15, 16, 17, 18, 19, 20, 21, 22, 27, 28, 29, 30, 52]) (kbFr.w57 (kbFr.w57 (kbFr.w57 (kbFr.w57 (kbFr.w57 (kbFr.w57 kbFr.rf (by decide)) (by decide)) (by decide)) (by decide)) (by decide)) (by decide)) (kbFr.up (by decide) (by decide) (fr_lp_MD_book_50 ex2))
    obtain ⟨x3, ex3, h⟩ := kb_bind h
    have fx3 := kbFr.tr (C := [61, 62, 63, 64, 65, 66, 67, 68, 70, 71, 72]) (S := [3, 13, 14, 15, 16, 17, 18, 19, 20, 21, 22, 27, 28, 29, 30, 52]) fx2 (kbFr.up (by decide) (by decide) (fr_f_MD_stepOn ex3))
    obtain ⟨x5, ex5, h⟩ := kb_bind h
    have fx5 := kbFr.tr (C := [61, 62, 63, 64, 65, 66, 67, 68, 70, 71, 72]) (S := [3, 13, 14, 15, 16, 17, 18, 19, 20, 21, 22, 27, 28, 29, 30, 52]) fx3 (kbFr.up (by decide) (by decide) (fr_lp_MD_book_76 ex5))
    exact kbFr.tr fx5 (kbFr.up (by decide) (by decide) (fr_jn_MD_book_99 h))
  exact kbFr.tr (kbFr.w57 kbFr.rf (by decide)) (kbFr.up (by decide) (by decide) (fr_jn_MD_book_17 h))
theorem fr_f_MD_fault {μ : kbM} {x : Int32 × kbM} (h : f_MD_fault μ = some x) : kbFr [] [3] μ x.2 := by
  unfold f_MD_fault at h
  cases h
  exact (kbFr.w57 kbFr.rf (by decide))
theorem fr_f_MD_count {n : Nat} {a1 : Int32} {μ : kbM} {x : Int32 × kbM} (h : f_MD_count n a1 μ = some x) : kbFr [] [3] μ x.2 := by
  unfold f_MD_count at h
  rcases kb_ite h with h | h
  · skip
    cases h
    exact (kbFr.w57 kbFr.rf (by decide))
  rcases kb_ite h with h | h
  · skip
    cases h
    exact (kbFr.w57 kbFr.rf (by decide))
  rcases kb_ite h with h | h
  · skip
    cases h
    exact (kbFr.w57 kbFr.rf (by decide))
  rcases kb_ite h with h | h
  · skip
    obtain ⟨x2, ex2, h⟩ := kb_bind h
    cases h
    exact (kbFr.w57 kbFr.rf (by decide))
  rcases kb_ite h with h | h
  · skip
    obtain ⟨x4, ex4, h⟩ := kb_bind h
    cases h
    exact (kbFr.w57 kbFr.rf (by decide))
  rcases kb_ite h with h | h
  · skip
    cases h
    exact (kbFr.w57 kbFr.rf (by decide))
  rcases kb_ite h with h | h
  · skip
    cases h
    exact (kbFr.w57 kbFr.rf (by decide))
  rcases kb_ite h with h | h
  · skip
    cases h
    exact (kbFr.w57 kbFr.rf (by decide))
  rcases kb_ite h with h | h
  · skip
    replace h := (kbIf_some h).2
    cases h
    exact (kbFr.w57 kbFr.rf (by decide))
  rcases kb_ite h with h | h
  · skip
    replace h := (kbIf_some h).2
    cases h
    exact (kbFr.w57 kbFr.rf (by decide))
  rcases kb_ite h with h | h
  · skip
    replace h := (kbIf_some h).2
    cases h
    exact (kbFr.w57 kbFr.rf (by decide))
  obtain ⟨x1, ex1, h⟩ := kb_bind h
  have fx1 := kbFr.tr (C := []) (S := [3]) (kbFr.w57 kbFr.rf (by decide)) (kbFr.up (by decide) (by decide) (fr_f_MD_fail ex1))
  cases h
  exact fx1
theorem fr_jn_MD_word_25 {n : Nat} {μ : kbM} {x : Int32 × kbM} (h : jn_MD_word_25 n μ = some x) : kbFr [] [3] μ x.2 := by
  unfold jn_MD_word_25 at h
  obtain ⟨x2, ex2, h⟩ := kb_bind h
  have fx2 := kbFr.tr (C := []) (S := [3]) kbFr.rf (kbFr.up (by decide) (by decide) (fr_f_MD_fail ex2))
  cases h
  exact fx2
theorem fr_jn_MD_word_142 {n : Nat} {w0 : Int32} {μ : kbM} {x : Int32 × kbM} (h : jn_MD_word_142 n w0 μ = some x) : kbFr [] [] μ x.2 := by
  unfold jn_MD_word_142 at h
  cases h
  exact kbFr.rf
theorem fr_f_MD_word {n : Nat} {a1 : Int32} {a2 : Int32} {μ : kbM} {x : Int32 × kbM} (h : f_MD_word n a1 a2 μ = some x) : kbFr [] [3] μ x.2 := by
  unfold f_MD_word at h
  obtain ⟨x1, ex1, h⟩ := kb_bind h
  rcases kb_ite h with h | h
  · skip
    exact kbFr.tr (kbFr.w57 kbFr.rf (by decide)) (kbFr.up (by decide) (by decide) (fr_jn_MD_word_25 h))
  obtain ⟨x3, ex3, h⟩ := kb_bind h
  rcases kb_ite h with h | h
  · skip
    exact kbFr.tr (kbFr.w57 kbFr.rf (by decide)) (kbFr.up (by decide) (by decide) (fr_jn_MD_word_25 h))
  obtain ⟨x5, ex5, h⟩ := kb_bind h
  rcases kb_ite h with h | h
  · skip
    replace h := (kbIf_some h).2
    exact kbFr.tr (kbFr.w57 kbFr.rf (by decide)) (kbFr.up (by decide) (by decide) (fr_jn_MD_word_142 h))
  rcases kb_ite h with h | h
  · skip
    replace h := (kbIf_some h).2
    obtain ⟨x6, ex6, h⟩ := kb_bind h
    exact kbFr.tr (kbFr.w57 kbFr.rf (by decide)) (kbFr.up (by decide) (by decide) (fr_jn_MD_word_142 h))
  rcases kb_ite h with h | h
  · skip
    replace h := (kbIf_some h).2
    exact kbFr.tr (kbFr.w57 kbFr.rf (by decide)) (kbFr.up (by decide) (by decide) (fr_jn_MD_word_142 h))
  rcases kb_ite h with h | h
  · skip
    replace h := (kbIf_some h).2
    exact kbFr.tr (kbFr.w57 kbFr.rf (by decide)) (kbFr.up (by decide) (by decide) (fr_jn_MD_word_142 h))
  exact kbFr.tr (kbFr.w57 kbFr.rf (by decide)) (kbFr.up (by decide) (by decide) (fr_jn_MD_word_142 h))
theorem fr_jn_MD_door_25 {n : Nat} {μ : kbM} {x : Int32 × kbM} (h : jn_MD_door_25 n μ = some x) : kbFr [] [3] μ x.2 := by
  unfold jn_MD_door_25 at h
  obtain ⟨x2, ex2, h⟩ := kb_bind h
  have fx2 := kbFr.tr (C := []) (S := [3]) kbFr.rf (kbFr.up (by decide) (by decide) (fr_f_MD_fail ex2))
  cases h
  exact fx2
theorem fr_jn_MD_door_92 {n : Nat} {w0 : Int32} {μ : kbM} {x : Int32 × kbM} (h : jn_MD_door_92 n w0 μ = some x) : kbFr [] [] μ x.2 := by
  unfold jn_MD_door_92 at h
  cases h
  exact kbFr.rf
theorem fr_f_MD_door {n : Nat} {a1 : Int32} {a2 : Int32} {μ : kbM} {x : Int32 × kbM} (h : f_MD_door n a1 a2 μ = some x) : kbFr [] [3] μ x.2 := by
  unfold f_MD_door at h
  obtain ⟨x1, ex1, h⟩ := kb_bind h
  rcases kb_ite h with h | h
  · skip
    exact kbFr.tr (kbFr.w57 kbFr.rf (by decide)) (kbFr.up (by decide) (by decide) (fr_jn_MD_door_25 h))
  obtain ⟨x3, ex3, h⟩ := kb_bind h
  rcases kb_ite h with h | h
  · skip
    exact kbFr.tr (kbFr.w57 kbFr.rf (by decide)) (kbFr.up (by decide) (by decide) (fr_jn_MD_door_25 h))
  rcases kb_ite h with h | h
  · skip
    replace h := (kbIf_some h).2
    exact kbFr.tr (kbFr.w57 kbFr.rf (by decide)) (kbFr.up (by decide) (by decide) (fr_jn_MD_door_92 h))
  rcases kb_ite h with h | h
  · skip
    replace h := (kbIf_some h).2
    exact kbFr.tr (kbFr.w57 kbFr.rf (by decide)) (kbFr.up (by decide) (by decide) (fr_jn_MD_door_92 h))
  rcases kb_ite h with h | h
  · skip
    exact kbFr.tr (kbFr.w57 kbFr.rf (by decide)) (kbFr.up (by decide) (by decide) (fr_jn_MD_door_92 h))
  rcases kb_ite h with h | h
  · skip
    obtain ⟨x5, ex5, h⟩ := kb_bind h
    exact kbFr.tr (kbFr.w57 kbFr.rf (by decide)) (kbFr.up (by decide) (by decide) (fr_jn_MD_door_92 h))
  obtain ⟨x4, ex4, h⟩ := kb_bind h
  exact kbFr.tr (kbFr.w57 kbFr.rf (by decide)) (kbFr.up (by decide) (by decide) (fr_jn_MD_door_92 h))
theorem fr_jn_MD_hears_40 {n : Nat} {w0 : Int32} {μ : kbM} {x : Int32 × kbM} (h : jn_MD_hears_40 n w0 μ = some x) : kbFr [] [] μ x.2 := by
  unfold jn_MD_hears_40 at h
  cases h
  exact kbFr.rf
theorem fr_f_MD_hears {n : Nat} {a1 : Int32} {a2 : Int32} {μ : kbM} {x : Int32 × kbM} (h : f_MD_hears n a1 a2 μ = some x) : kbFr [] [3] μ x.2 := by
  unfold f_MD_hears at h
  obtain ⟨x1, ex1, h⟩ := kb_bind h
  rcases kb_ite h with h | h
  · skip
    obtain ⟨x5, ex5, h⟩ := kb_bind h
    have fx5 := kbFr.tr (C := []) (S := [3]) (kbFr.w57 kbFr.rf (by decide)) (kbFr.up (by decide) (by decide) (fr_f_MD_fail ex5))
    cases h
    exact fx5
  obtain ⟨x2, ex2, h⟩ := kb_bind h
  rcases kb_ite h with h | h
  · skip
    obtain ⟨x3, ex3, h⟩ := kb_bind h
    have fx3 := kbFr.tr (C := []) (S := [3]) (kbFr.w57 kbFr.rf (by decide)) (kbFr.up (by decide) (by decide) (fr_f_MD_fail ex3))
    exact kbFr.tr fx3 (kbFr.up (by decide) (by decide) (fr_jn_MD_hears_40 h))
  obtain ⟨x4, ex4, h⟩ := kb_bind h
  exact kbFr.tr (kbFr.w57 kbFr.rf (by decide)) (kbFr.up (by decide) (by decide) (fr_jn_MD_hears_40 h))
theorem fr_lp_MD_tellSounds_17 {n : Nat} {k : Nat} : ∀ {v2 : Int32} {v3 : Int32} {μ : kbM} {x : kbM}, lp_MD_tellSounds_17 n k v2 v3 μ = some x → kbFr [76] [] μ x := by
  induction k with
  | zero => intro v2 v3 μ x h; cases h
  | succ k ih =>
    intro v2 v3 μ x h
    unfold lp_MD_tellSounds_17 at h
    rcases kb_ite h with h | h
    · skip
      cases h
      exact kbFr.rf
    replace h := (kbIf_some h).2
    exact kbFr.tr (kbFr.w kbFr.rf (by decide)) (ih h)
theorem fr_lp_MD_tellSounds_83 {n : Nat} {v3 : Int32} {k : Nat} : ∀ {v4 : Int32} {v5 : Int32} {μ : kbM} {x : kbM}, lp_MD_tellSounds_83 n v3 k v4 v5 μ = some x → kbFr [78] [] μ x := by
  induction k with
  | zero => intro v4 v5 μ x h; cases h
  | succ k ih =>
    intro v4 v5 μ x h
    unfold lp_MD_tellSounds_83 at h
    rcases kb_ite h with h | h
    · skip
      cases h
      exact kbFr.rf
    replace h := (kbIf_some h).2
    exact kbFr.tr (kbFr.w kbFr.rf (by decide)) (ih h)
theorem fr_lp_MD_tellSounds_42 {n : Nat} {k : Nat} : ∀ {v3 : Int32} {μ : kbM} {x : kbM}, lp_MD_tellSounds_42 n k v3 μ = some x → kbFr [78, 79] [] μ x := by
  induction k with
  | zero => intro v3 μ x h; cases h
  | succ k ih =>
    intro v3 μ x h
    unfold lp_MD_tellSounds_42 at h
    rcases kb_ite h with h | h
    · skip
      cases h
      exact kbFr.rf
    replace h := (kbIf_some h).2
    obtain ⟨x3, ex3, h⟩ := kb_bind h
    replace h := (kbIf_some h).2
    replace h := (kbIf_some h).2
    replace h := (kbIf_some h).2
    obtain ⟨x4, ex4, h⟩ := kb_bind h
    have fx4 := kbFr.tr (C := [78, 79]) (S := []) (kbFr.w kbFr.rf (by decide)) (kbFr.up (by decide) (by decide) (fr_lp_MD_tellSounds_83 ex4))
    exact kbFr.tr fx4 (ih h)
theorem fr_f_MD_tellSounds {n : Nat} {a1 : Int32} {μ : kbM} {x : kbM} (h : f_MD_tellSounds n a1 μ = some x) : kbFr [76, 78, 79] [38] μ x := by
  unfold f_MD_tellSounds at h
  obtain ⟨x1, ex1, h⟩ := kb_bind h
  obtain ⟨x2, ex2, h⟩ := kb_bind h
  have fx2 := kbFr.tr (C := [76, 78, 79]) (S := [38]) (kbFr.w57 kbFr.rf (by decide)) (kbFr.up (by decide) (by decide) (fr_lp_MD_tellSounds_17 ex2))
  obtain ⟨x5, ex5, h⟩ := kb_bind h
  have fx5 := kbFr.tr (C := [76, 78, 79]) (S := [38]) fx2 (kbFr.up (by decide) (by decide) (fr_lp_MD_tellSounds_42 ex5))
  cases h
  exact fx5
theorem fr_jn_MD_valueNow_117 {n : Nat} {v1 : Int32} {v2 : Int32} {μ : kbM} {rec : Int32 → Int32 → kbM → Option (kbM)} (hrec : ∀ {y0 : Int32} {y1 : Int32} {y2 : kbM} {x : kbM}, rec y0 y1 y2 = some x → kbFr [75] [] y2 x) {x : kbM} (h : jn_MD_valueNow_117 n rec v1 v2 μ = some x) : kbFr [75] [] μ x := by
  unfold jn_MD_valueNow_117 at h
  exact kbFr.tr kbFr.rf (hrec h)
theorem fr_jn_MD_valueNow_84 {n : Nat} {v1 : Int32} {v2 : Int32} {w1 : Int32} {w2 : Int32} {μ : kbM} {rec : Int32 → Int32 → kbM → Option (kbM)} (hrec : ∀ {y0 : Int32} {y1 : Int32} {y2 : kbM} {x : kbM}, rec y0 y1 y2 = some x → kbFr [75] [] y2 x) {x : kbM} (h : jn_MD_valueNow_84 n rec v1 v2 w1 w2 μ = some x) : kbFr [75] [] μ x := by
  unfold jn_MD_valueNow_84 at h
  replace h := (kbIf_some h).2
  exact kbFr.tr (kbFr.w kbFr.rf (by decide)) (kbFr.up (by decide) (by decide) (fr_jn_MD_valueNow_117 hrec h))
theorem fr_jn_MD_valueNow_48 {n : Nat} {v1 : Int32} {v2 : Int32} {w1 : Int32} {w2 : Int32} {μ : kbM} {rec : Int32 → Int32 → kbM → Option (kbM)} (hrec : ∀ {y0 : Int32} {y1 : Int32} {y2 : kbM} {x : kbM}, rec y0 y1 y2 = some x → kbFr [75] [] y2 x) {x : kbM} (h : jn_MD_valueNow_48 n rec v1 v2 w1 w2 μ = some x) : kbFr [75] [] μ x := by
  unfold jn_MD_valueNow_48 at h
  replace h := (kbIf_some h).2
  exact kbFr.tr (kbFr.w kbFr.rf (by decide)) (kbFr.up (by decide) (by decide) (fr_jn_MD_valueNow_117 hrec h))
theorem fr_lp_MD_valueNow_4 {n : Nat} {k : Nat} : ∀ {v1 : Int32} {v2 : Int32} {μ : kbM} {x : kbM}, lp_MD_valueNow_4 n k v1 v2 μ = some x → kbFr [75] [] μ x := by
  induction k with
  | zero => intro v1 v2 μ x h; cases h
  | succ k ih =>
    intro v1 v2 μ x h
    unfold lp_MD_valueNow_4 at h
    rcases kb_ite h with h | h
    · skip
      cases h
      exact kbFr.rf
    replace h := (kbIf_some h).2
    rcases kb_ite h with h | h
    · skip
      rcases kb_ite h with h | h
      · skip
        replace h := (kbIf_some h).2
        rcases kb_ite h with h | h
        · skip
          exact kbFr.tr kbFr.rf (kbFr.up (by decide) (by decide) (fr_jn_MD_valueNow_84 (fun h => ih h) h))
        exact kbFr.tr kbFr.rf (kbFr.up (by decide) (by decide) (fr_jn_MD_valueNow_84 (fun h => ih h) h))
      replace h := (kbIf_some h).2
      replace h := (kbIf_some h).2
      obtain ⟨x1, ex1, h⟩ := kb_bind h
      replace h := (kbIf_some h).2
      exact kbFr.tr (kbFr.w kbFr.rf (by decide)) (kbFr.up (by decide) (by decide) (fr_jn_MD_valueNow_117 (fun h => ih h) h))
    rcases kb_ite h with h | h
    · skip
      replace h := (kbIf_some h).2
      exact kbFr.tr kbFr.rf (kbFr.up (by decide) (by decide) (fr_jn_MD_valueNow_48 (fun h => ih h) h))
    exact kbFr.tr kbFr.rf (kbFr.up (by decide) (by decide) (fr_jn_MD_valueNow_48 (fun h => ih h) h))
theorem fr_f_MD_valueNow {n : Nat} {μ : kbM} {x : Int32 × kbM} (h : f_MD_valueNow n μ = some x) : kbFr [75] [] μ x.2 := by
  unfold f_MD_valueNow at h
  obtain ⟨x2, ex2, h⟩ := kb_bind h
  have fx2 := kbFr.tr (C := [75]) (S := []) kbFr.rf (kbFr.up (by decide) (by decide) (fr_lp_MD_valueNow_4 ex2))
  cases h
  exact fx2
theorem fr_jn_MD_joins_14 {n : Nat} {μ : kbM} {x : Int32 × kbM} (h : jn_MD_joins_14 n μ = some x) : kbFr [] [] μ x.2 := by
  unfold jn_MD_joins_14 at h
  cases h
  exact kbFr.rf
theorem fr_jn_MD_joins_107 {n : Nat} {w0 : Int32} {μ : kbM} {x : Int32 × kbM} (h : jn_MD_joins_107 n w0 μ = some x) : kbFr [] [] μ x.2 := by
  unfold jn_MD_joins_107 at h
  replace h := (kbIf_some h).2
  cases h
  exact kbFr.rf
theorem fr_jn_MD_joins_94 {n : Nat} {w1 : Int32} {w2 : Int32} {μ : kbM} {x : Int32 × kbM} (h : jn_MD_joins_94 n w1 w2 μ = some x) : kbFr [74, 75] [] μ x.2 := by
  unfold jn_MD_joins_94 at h
  replace h := (kbIf_some h).2
  obtain ⟨x2, ex2, h⟩ := kb_bind h
  have fx2 := kbFr.tr (C := [74, 75]) (S := []) (kbFr.w kbFr.rf (by decide)) (kbFr.up (by decide) (by decide) (fr_f_MD_valueNow ex2))
  rcases kb_ite h with h | h
  · skip
    exact kbFr.tr fx2 (kbFr.up (by decide) (by decide) (fr_jn_MD_joins_107 h))
  exact kbFr.tr fx2 (kbFr.up (by decide) (by decide) (fr_jn_MD_joins_107 h))
theorem fr_f_MD_joins {n : Nat} {a1 : Int32} {a2 : Int32} {μ : kbM} {x : Int32 × kbM} (h : f_MD_joins n a1 a2 μ = some x) : kbFr [74, 75] [] μ x.2 := by
  unfold f_MD_joins at h
  rcases kb_ite h with h | h
  · skip
    exact kbFr.tr kbFr.rf (kbFr.up (by decide) (by decide) (fr_jn_MD_joins_14 h))
  rcases kb_ite h with h | h
  · skip
    exact kbFr.tr kbFr.rf (kbFr.up (by decide) (by decide) (fr_jn_MD_joins_14 h))
  replace h := (kbIf_some h).2
  replace h := (kbIf_some h).2
  replace h := (kbIf_some h).2
  replace h := (kbIf_some h).2
  replace h := (kbIf_some h).2
  obtain ⟨x1, ex1, h⟩ := kb_bind h
  rcases kb_ite h with h | h
  · skip
    exact kbFr.tr (kbFr.w (kbFr.w (kbFr.w (kbFr.w (kbFr.w kbFr.rf (by decide)) (by decide)) (by decide)) (by decide)) (by decide)) (kbFr.up (by decide) (by decide) (fr_jn_MD_joins_94 h))
  exact kbFr.tr (kbFr.w (kbFr.w (kbFr.w (kbFr.w (kbFr.w kbFr.rf (by decide)) (by decide)) (by decide)) (by decide)) (by decide)) (kbFr.up (by decide) (by decide) (fr_jn_MD_joins_94 h))
theorem fr_jn_MD_tellReadings_190 {n : Nat} {v2 : Int32} {v3 : Int32} {v4 : Int32} {v5 : Int32} {μ : kbM} {rec : Int32 → kbM → Option (kbM)} (hrec : ∀ {y0 : Int32} {y1 : kbM} {x : kbM}, rec y0 y1 = some x → kbFr [74, 75, 77, 80] [] y1 x) {x : kbM} (h : jn_MD_tellReadings_190 n rec v2 v3 v4 v5 μ = some x) : kbFr [74, 75, 77, 80] [] μ x := by
  unfold jn_MD_tellReadings_190 at h
  exact kbFr.tr kbFr.rf (hrec h)
theorem fr_jn_MD_tellReadings_119 {n : Nat} {v2 : Int32} {v3 : Int32} {v4 : Int32} {v5 : Int32} {w1 : Int32} {μ : kbM} {rec : Int32 → kbM → Option (kbM)} (hrec : ∀ {y0 : Int32} {y1 : kbM} {x : kbM}, rec y0 y1 = some x → kbFr [74, 75, 77, 80] [] y1 x) {x : kbM} (h : jn_MD_tellReadings_119 n rec v2 v3 v4 v5 w1 μ = some x) : kbFr [74, 75, 77, 80] [] μ x := by
  unfold jn_MD_tellReadings_119 at h
  obtain ⟨x3, ex3, h⟩ := kb_bind h
  have fx3 := kbFr.tr (C := [74, 75, 77, 80]) (S := []) kbFr.rf (kbFr.up (by decide) (by decide) (fr_f_MD_joins ex3))
  rcases kb_ite h with h | h
  · skip
    exact kbFr.tr fx3 (kbFr.up (by decide) (by decide) (fr_jn_MD_tellReadings_190 hrec h))
  replace h := (kbIf_some h).2
  replace h := (kbIf_some h).2
  replace h := (kbIf_some h).2
  replace h := (kbIf_some h).2
  replace h := (kbIf_some h).2
  replace h := (kbIf_some h).2
  replace h := (kbIf_some h).2
  exact kbFr.tr (kbFr.w (kbFr.x fx3 (by decide)) (by decide)) (kbFr.up (by decide) (by decide) (fr_jn_MD_tellReadings_190 hrec h))
theorem fr_jn_MD_tellReadings_97 {n : Nat} {v2 : Int32} {v3 : Int32} {v4 : Int32} {v5 : Int32} {μ : kbM} {rec : Int32 → kbM → Option (kbM)} (hrec : ∀ {y0 : Int32} {y1 : kbM} {x : kbM}, rec y0 y1 = some x → kbFr [74, 75, 77, 80] [] y1 x) {x : kbM} (h : jn_MD_tellReadings_97 n rec v2 v3 v4 v5 μ = some x) : kbFr [74, 75, 77, 80] [] μ x := by
  unfold jn_MD_tellReadings_97 at h
  obtain ⟨x2, ex2, h⟩ := kb_bind h
  rcases kb_ite h with h | h
  · skip
    exact kbFr.tr kbFr.rf (kbFr.up (by decide) (by decide) (fr_jn_MD_tellReadings_190 hrec h))
  rcases kb_ite h with h | h
  · skip
    exact kbFr.tr kbFr.rf (kbFr.up (by decide) (by decide) (fr_jn_MD_tellReadings_119 hrec h))
  exact kbFr.tr kbFr.rf (kbFr.up (by decide) (by decide) (fr_jn_MD_tellReadings_119 hrec h))
theorem fr_lp_MD_tellReadings_74 {n : Nat} {v2 : Int32} {v3 : Int32} {v4 : Int32} {k : Nat} : ∀ {v5 : Int32} {μ : kbM} {x : kbM}, lp_MD_tellReadings_74 n v2 v3 v4 k v5 μ = some x → kbFr [74, 75, 77, 80] [] μ x := by
  induction k with
  | zero => intro v5 μ x h; cases h
  | succ k ih =>
    intro v5 μ x h
    unfold lp_MD_tellReadings_74 at h
    rcases kb_ite h with h | h
    · skip
      cases h
      exact kbFr.rf
    rcases kb_ite h with h | h
    · skip
      exact kbFr.tr kbFr.rf (kbFr.up (by decide) (by decide) (fr_jn_MD_tellReadings_97 (fun h => ih h) h))
    rcases kb_ite h with h | h
    · skip
      cases h
      exact kbFr.rf
    exact kbFr.tr kbFr.rf (kbFr.up (by decide) (by decide) (fr_jn_MD_tellReadings_97 (fun h => ih h) h))
theorem fr_jn_MD_tellReadings_196 {n : Nat} {v2 : Int32} {v3 : Int32} {μ : kbM} {rec : Int32 → kbM → Option (kbM)} (hrec : ∀ {y0 : Int32} {y1 : kbM} {x : kbM}, rec y0 y1 = some x → kbFr [74, 75, 77, 80] [] y1 x) {x : kbM} (h : jn_MD_tellReadings_196 n rec v2 v3 μ = some x) : kbFr [74, 75, 77, 80] [] μ x := by
  unfold jn_MD_tellReadings_196 at h
  exact kbFr.tr kbFr.rf (hrec h)
theorem fr_jn_MD_tellReadings_70 {n : Nat} {v2 : Int32} {v3 : Int32} {v4 : Int32} {w1 : Int32} {w2 : Int32} {μ : kbM} {rec : Int32 → kbM → Option (kbM)} (hrec : ∀ {y0 : Int32} {y1 : kbM} {x : kbM}, rec y0 y1 = some x → kbFr [74, 75, 77, 80] [] y1 x) {x : kbM} (h : jn_MD_tellReadings_70 n rec v2 v3 v4 w1 w2 μ = some x) : kbFr [74, 75, 77, 80] [] μ x := by
  unfold jn_MD_tellReadings_70 at h
  replace h := (kbIf_some h).2
  obtain ⟨x4, ex4, h⟩ := kb_bind h
  have fx4 := kbFr.tr (C := [74, 75, 77, 80]) (S := []) (kbFr.w kbFr.rf (by decide)) (kbFr.up (by decide) (by decide) (fr_lp_MD_tellReadings_74 ex4))
  exact kbFr.tr fx4 (kbFr.up (by decide) (by decide) (fr_jn_MD_tellReadings_196 hrec h))
theorem fr_jn_MD_tellReadings_49 {n : Nat} {v2 : Int32} {v3 : Int32} {v4 : Int32} {w1 : Int32} {w2 : Int64} {μ : kbM} {rec : Int32 → kbM → Option (kbM)} (hrec : ∀ {y0 : Int32} {y1 : kbM} {x : kbM}, rec y0 y1 = some x → kbFr [74, 75, 77, 80] [] y1 x) {x : kbM} (h : jn_MD_tellReadings_49 n rec v2 v3 v4 w1 w2 μ = some x) : kbFr [74, 75, 77, 80] [] μ x := by
  unfold jn_MD_tellReadings_49 at h
  replace h := (kbIf_some h).2
  rcases kb_ite h with h | h
  · skip
    exact kbFr.tr (kbFr.x kbFr.rf (by decide)) (kbFr.up (by decide) (by decide) (fr_jn_MD_tellReadings_70 hrec h))
  exact kbFr.tr (kbFr.x kbFr.rf (by decide)) (kbFr.up (by decide) (by decide) (fr_jn_MD_tellReadings_70 hrec h))
theorem fr_lp_MD_tellReadings_16 {n : Nat} {v2 : Int32} {k : Nat} : ∀ {v3 : Int32} {μ : kbM} {x : kbM}, lp_MD_tellReadings_16 n v2 k v3 μ = some x → kbFr [74, 75, 77, 80] [] μ x := by
  induction k with
  | zero => intro v3 μ x h; cases h
  | succ k ih =>
    intro v3 μ x h
    unfold lp_MD_tellReadings_16 at h
    rcases kb_ite h with h | h
    · skip
      cases h
      exact kbFr.rf
    rcases kb_ite h with h | h
    · skip
      exact kbFr.tr kbFr.rf (kbFr.up (by decide) (by decide) (fr_jn_MD_tellReadings_49 (fun h => ih h) h))
    exact kbFr.tr kbFr.rf (kbFr.up (by decide) (by decide) (fr_jn_MD_tellReadings_49 (fun h => ih h) h))
theorem fr_lp_MD_tellReadings_10 {n : Nat} {k : Nat} : ∀ {v2 : Int32} {μ : kbM} {x : kbM}, lp_MD_tellReadings_10 n k v2 μ = some x → kbFr [74, 75, 77, 80] [] μ x := by
  induction k with
  | zero => intro v2 μ x h; cases h
  | succ k ih =>
    intro v2 μ x h
    unfold lp_MD_tellReadings_10 at h
    rcases kb_ite h with h | h
    · skip
      cases h
      exact kbFr.rf
    obtain ⟨x5, ex5, h⟩ := kb_bind h
    have fx5 := kbFr.tr (C := [74, 75, 77, 80]) (S := []) kbFr.rf (kbFr.up (by decide) (by decide) (fr_lp_MD_tellReadings_16 ex5))
    exact kbFr.tr fx5 (ih h)
theorem fr_f_MD_tellReadings {n : Nat} {a1 : Int32} {μ : kbM} {x : kbM} (h : f_MD_tellReadings n a1 μ = some x) : kbFr [74, 75, 76, 77, 78, 79, 80] [38] μ x := by
  unfold f_MD_tellReadings at h
  obtain ⟨x1, ex1, h⟩ := kb_bind h
  have fx1 := kbFr.tr (C := [74, 75, 76, 77, 78, 79, 80]) (S := [38]) kbFr.rf (kbFr.up (by decide) (by decide) (fr_f_MD_tellSounds ex1))
  obtain ⟨x6, ex6, h⟩ := kb_bind h
  have fx6 := kbFr.tr (C := [74, 75, 76, 77, 78, 79, 80]) (S := [38]) fx1 (kbFr.up (by decide) (by decide) (fr_lp_MD_tellReadings_10 ex6))
  cases h
  exact fx6
theorem fr_jn_MD_fewest_32 {n : Nat} {w0 : Int32} {μ : kbM} {x : Int32 × kbM} (h : jn_MD_fewest_32 n w0 μ = some x) : kbFr [] [] μ x.2 := by
  unfold jn_MD_fewest_32 at h
  cases h
  exact kbFr.rf
theorem fr_jn_MD_fewest_21 {n : Nat} {μ : kbM} {x : Int32 × kbM} (h : jn_MD_fewest_21 n μ = some x) : kbFr [] [] μ x.2 := by
  unfold jn_MD_fewest_21 at h
  exact kbFr.tr kbFr.rf (kbFr.up (by decide) (by decide) (fr_jn_MD_fewest_32 h))
theorem fr_f_MD_fewest {n : Nat} {a1 : Int32} {μ : kbM} {x : Int32 × kbM} (h : f_MD_fewest n a1 μ = some x) : kbFr [74, 75, 76, 77, 78, 79, 80] [38] μ x.2 := by
  unfold f_MD_fewest at h
  obtain ⟨x1, ex1, h⟩ := kb_bind h
  have fx1 := kbFr.tr (C := [74, 75, 76, 77, 78, 79, 80]) (S := [38]) kbFr.rf (kbFr.up (by decide) (by decide) (fr_f_MD_tellReadings ex1))
  rcases kb_ite h with h | h
  · skip
    exact kbFr.tr fx1 (kbFr.up (by decide) (by decide) (fr_jn_MD_fewest_21 h))
  rcases kb_ite h with h | h
  · skip
    exact kbFr.tr fx1 (kbFr.up (by decide) (by decide) (fr_jn_MD_fewest_32 h))
  exact kbFr.tr fx1 (kbFr.up (by decide) (by decide) (fr_jn_MD_fewest_21 h))
theorem fr_jn_MD_read_14 {n : Nat} {μ : kbM} {x : Int64 × kbM} (h : jn_MD_read_14 n μ = some x) : kbFr [] [3] μ x.2 := by
  unfold jn_MD_read_14 at h
  obtain ⟨x1, ex1, h⟩ := kb_bind h
  have fx1 := kbFr.tr (C := []) (S := [3]) kbFr.rf (kbFr.up (by decide) (by decide) (fr_f_MD_fail ex1))
  cases h
  exact fx1
theorem fr_jn_MD_read_65 {n : Nat} {w0 : Int64} {μ : kbM} {x : Int64 × kbM} (h : jn_MD_read_65 n w0 μ = some x) : kbFr [] [] μ x.2 := by
  unfold jn_MD_read_65 at h
  cases h
  exact kbFr.rf
theorem fr_f_MD_read {n : Nat} {a1 : Int32} {a2 : Int32} {μ : kbM} {x : Int64 × kbM} (h : f_MD_read n a1 a2 μ = some x) : kbFr [74, 75, 76, 77, 78, 79, 80] [3, 38] μ x.2 := by
  unfold f_MD_read at h
  rcases kb_ite h with h | h
  · skip
    exact kbFr.tr (kbFr.w57 kbFr.rf (by decide)) (kbFr.up (by decide) (by decide) (fr_jn_MD_read_14 h))
  rcases kb_ite h with h | h
  · skip
    obtain ⟨x2, ex2, h⟩ := kb_bind h
    rcases kb_ite h with h | h
    · skip
      obtain ⟨x4, ex4, h⟩ := kb_bind h
      have fx4 := kbFr.tr (C := [74, 75, 76, 77, 78, 79, 80]) (S := [3, 38]) (kbFr.w57 kbFr.rf (by decide)) (kbFr.up (by decide) (by decide) (fr_f_MD_fail ex4))
      cases h
      exact fx4
    obtain ⟨x3, ex3, h⟩ := kb_bind h
    have fx3 := kbFr.tr (C := [74, 75, 76, 77, 78, 79, 80]) (S := [3, 38]) (kbFr.w57 kbFr.rf (by decide)) (kbFr.up (by decide) (by decide) (fr_f_MD_fewest ex3))
    rcases kb_ite h with h | h
    · skip
      exact kbFr.tr fx3 (kbFr.up (by decide) (by decide) (fr_jn_MD_read_65 h))
    rcases kb_ite h with h | h
    · skip
      exact kbFr.tr fx3 (kbFr.up (by decide) (by decide) (fr_jn_MD_read_65 h))
    exact kbFr.tr fx3 (kbFr.up (by decide) (by decide) (fr_jn_MD_read_65 h))
  exact kbFr.tr (kbFr.w57 kbFr.rf (by decide)) (kbFr.up (by decide) (by decide) (fr_jn_MD_read_14 h))
theorem fr_jn_MD_reading_135 {n : Nat} {v2 : Int32} {v3 : Int32} {v4 : Int32} {v5 : Int32} {v6 : Int32} {v7 : Int32} {v8 : Int32} {μ : kbM} {rec : Int32 → Int32 → kbM → Option (Int32 × kbM)} (hrec : ∀ {y0 : Int32} {y1 : Int32} {y2 : kbM} {x : Int32 × kbM}, rec y0 y1 y2 = some x → kbFr [74, 75] [] y2 x.2) {x : Int32 × kbM} (h : jn_MD_reading_135 n rec v2 v3 v4 v5 v6 v7 v8 μ = some x) : kbFr [74, 75] [] μ x.2 := by
  unfold jn_MD_reading_135 at h
  exact kbFr.tr kbFr.rf (hrec h)
theorem fr_lp_MD_reading_64 {n : Nat} {v2 : Int32} {v3 : Int32} {v4 : Int32} {v5 : Int32} {v6 : Int32} {k : Nat} : ∀ {v7 : Int32} {v8 : Int32} {μ : kbM} {x : Int32 × kbM}, lp_MD_reading_64 n v2 v3 v4 v5 v6 k v7 v8 μ = some x → kbFr [74, 75] [] μ x.2 := by
  induction k with
  | zero => intro v7 v8 μ x h; cases h
  | succ k ih =>
    intro v7 v8 μ x h
    unfold lp_MD_reading_64 at h
    rcases kb_ite h with h | h
    · skip
      cases h
      exact kbFr.rf
    rcases kb_ite h with h | h
    · skip
      obtain ⟨x4, ex4, h⟩ := kb_bind h
      rcases kb_ite h with h | h
      · skip
        exact kbFr.tr kbFr.rf (kbFr.up (by decide) (by decide) (fr_jn_MD_reading_135 (fun h => ih h) h))
      obtain ⟨x5, ex5, h⟩ := kb_bind h
      have fx5 := kbFr.tr (C := [74, 75]) (S := []) kbFr.rf (kbFr.up (by decide) (by decide) (fr_f_MD_joins ex5))
      rcases kb_ite h with h | h
      · skip
        exact kbFr.tr fx5 (kbFr.up (by decide) (by decide) (fr_jn_MD_reading_135 (fun h => ih h) h))
      replace h := (kbIf_some h).2
      replace h := (kbIf_some h).2
      rcases kb_ite h with h | h
      · skip
        exact kbFr.tr fx5 (kbFr.up (by decide) (by decide) (fr_jn_MD_reading_135 (fun h => ih h) h))
      exact kbFr.tr fx5 (kbFr.up (by decide) (by decide) (fr_jn_MD_reading_135 (fun h => ih h) h))
    cases h
    exact kbFr.rf
theorem fr_jn_MD_reading_141 {n : Nat} {v2 : Int32} {v3 : Int32} {v4 : Int32} {v6 : Int32} {v7 : Int32} {μ : kbM} {rec : Int32 → Int32 → Int32 → kbM → Option (Int32 × kbM)} (hrec : ∀ {y0 : Int32} {y1 : Int32} {y2 : Int32} {y3 : kbM} {x : Int32 × kbM}, rec y0 y1 y2 y3 = some x → kbFr [74, 75] [] y3 x.2) {x : Int32 × kbM} (h : jn_MD_reading_141 n rec v2 v3 v4 v6 v7 μ = some x) : kbFr [74, 75] [] μ x.2 := by
  unfold jn_MD_reading_141 at h
  replace h := (kbIf_some h).2
  exact kbFr.tr kbFr.rf (hrec h)
theorem fr_lp_MD_reading_52 {n : Nat} {v2 : Int32} {v3 : Int32} {k : Nat} : ∀ {v4 : Int32} {v5 : Int32} {v6 : Int32} {μ : kbM} {x : Int32 × kbM}, lp_MD_reading_52 n v2 v3 k v4 v5 v6 μ = some x → kbFr [74, 75] [] μ x.2 := by
  induction k with
  | zero => intro v4 v5 v6 μ x h; cases h
  | succ k ih =>
    intro v4 v5 v6 μ x h
    unfold lp_MD_reading_52 at h
    rcases kb_ite h with h | h
    · skip
      cases h
      exact kbFr.rf
    obtain ⟨x6, ex6, h⟩ := kb_bind h
    have fx6 := kbFr.tr (C := [74, 75]) (S := []) kbFr.rf (kbFr.up (by decide) (by decide) (fr_lp_MD_reading_64 ex6))
    exact kbFr.tr fx6 (kbFr.up (by decide) (by decide) (fr_jn_MD_reading_141 (fun h => ih h) h))
theorem fr_f_MD_reading {n : Nat} {a1 : Int32} {a2 : Int32} {μ : kbM} {x : Int32 × kbM} (h : f_MD_reading n a1 a2 μ = some x) : kbFr [74, 75, 76, 77, 78, 79, 80] [3, 38] μ x.2 := by
  unfold f_MD_reading at h
  obtain ⟨x1, ex1, h⟩ := kb_bind h
  rcases kb_ite h with h | h
  · skip
    obtain ⟨x9, ex9, h⟩ := kb_bind h
    have fx9 := kbFr.tr (C := [74, 75, 76, 77, 78, 79, 80]) (S := [3, 38]) (kbFr.w57 kbFr.rf (by decide)) (kbFr.up (by decide) (by decide) (fr_f_MD_fail ex9))
    cases h
    exact fx9
  obtain ⟨x2, ex2, h⟩ := kb_bind h
  have fx2 := kbFr.tr (C := [74, 75, 76, 77, 78, 79, 80]) (S := [3, 38]) (kbFr.w57 kbFr.rf (by decide)) (kbFr.up (by decide) (by decide) (fr_f_MD_fewest ex2))
  obtain ⟨x3, ex3, h⟩ := kb_bind h
  rcases kb_ite h with h | h
  · skip
    obtain ⟨x8, ex8, h⟩ := kb_bind h
    have fx8 := kbFr.tr (C := [74, 75, 76, 77, 78, 79, 80]) (S := [3, 38]) fx2 (kbFr.up (by decide) (by decide) (fr_f_MD_fail ex8))
    cases h
    exact fx8
  obtain ⟨x7, ex7, h⟩ := kb_bind h
  have fx7 := kbFr.tr (C := [74, 75, 76, 77, 78, 79, 80]) (S := [3, 38]) fx2 (kbFr.up (by decide) (by decide) (fr_lp_MD_reading_52 ex7))
  cases h
  exact fx7
theorem fr_lp_MD_tellRow_82_12 {n : Nat} {v2 : Int32} {k : Nat} : ∀ {v3 : Int32} {v4 : Int32} {μ : kbM} {x : kbM}, lp_MD_tellRow_82_12 n v2 k v3 v4 μ = some x → kbFr [82] [] μ x := by
  induction k with
  | zero => intro v3 v4 μ x h; cases h
  | succ k ih =>
    intro v3 v4 μ x h
    unfold lp_MD_tellRow_82_12 at h
    rcases kb_ite h with h | h
    · skip
      cases h
      exact kbFr.rf
    replace h := (kbIf_some h).2
    exact kbFr.tr (kbFr.w kbFr.rf (by decide)) (ih h)
theorem fr_f_MD_tellRow_82 {n : Nat} {a0 : Int32} {μ : kbM} {x : Int32 × kbM} (h : f_MD_tellRow_82 n a0 μ = some x) : kbFr [82] [] μ x.2 := by
  unfold f_MD_tellRow_82 at h
  obtain ⟨x1, ex1, h⟩ := kb_bind h
  obtain ⟨x2, ex2, h⟩ := kb_bind h
  have fx2 := kbFr.tr (C := [82]) (S := []) kbFr.rf (kbFr.up (by decide) (by decide) (fr_lp_MD_tellRow_82_12 ex2))
  cases h
  exact fx2
theorem fr_lp_MD_tellRow_83_12 {n : Nat} {v2 : Int32} {k : Nat} : ∀ {v3 : Int32} {v4 : Int32} {μ : kbM} {x : kbM}, lp_MD_tellRow_83_12 n v2 k v3 v4 μ = some x → kbFr [83] [] μ x := by
  induction k with
  | zero => intro v3 v4 μ x h; cases h
  | succ k ih =>
    intro v3 v4 μ x h
    unfold lp_MD_tellRow_83_12 at h
    rcases kb_ite h with h | h
    · skip
      cases h
      exact kbFr.rf
    replace h := (kbIf_some h).2
    exact kbFr.tr (kbFr.w kbFr.rf (by decide)) (ih h)
theorem fr_f_MD_tellRow_83 {n : Nat} {a0 : Int32} {μ : kbM} {x : Int32 × kbM} (h : f_MD_tellRow_83 n a0 μ = some x) : kbFr [83] [] μ x.2 := by
  unfold f_MD_tellRow_83 at h
  obtain ⟨x1, ex1, h⟩ := kb_bind h
  obtain ⟨x2, ex2, h⟩ := kb_bind h
  have fx2 := kbFr.tr (C := [83]) (S := []) kbFr.rf (kbFr.up (by decide) (by decide) (fr_lp_MD_tellRow_83_12 ex2))
  cases h
  exact fx2
theorem fr_jn_MD_apartBy_160 {n : Nat} {v3 : Int32} {v4 : Int32} {v5 : Int32} {v6 : Int32} {v7 : Int32} {μ : kbM} {rec : Int32 → kbM → Option (kbM)} (hrec : ∀ {y0 : Int32} {y1 : kbM} {x : kbM}, rec y0 y1 = some x → kbFr [81] [] y1 x) {x : kbM} (h : jn_MD_apartBy_160 n rec v3 v4 v5 v6 v7 μ = some x) : kbFr [81] [] μ x := by
  unfold jn_MD_apartBy_160 at h
  replace h := (kbIf_some h).2
  exact kbFr.tr (kbFr.w kbFr.rf (by decide)) (hrec h)
theorem fr_jn_MD_apartBy_154 {n : Nat} {v3 : Int32} {v4 : Int32} {v5 : Int32} {v6 : Int32} {w0 : Int32} {w1 : Int32} {w2 : Int32} {μ : kbM} {rec : Int32 → kbM → Option (kbM)} (hrec : ∀ {y0 : Int32} {y1 : kbM} {x : kbM}, rec y0 y1 = some x → kbFr [81] [] y1 x) {x : kbM} (h : jn_MD_apartBy_154 n rec v3 v4 v5 v6 w0 w1 w2 μ = some x) : kbFr [81] [] μ x := by
  unfold jn_MD_apartBy_154 at h
  exact kbFr.tr kbFr.rf (kbFr.up (by decide) (by decide) (fr_jn_MD_apartBy_160 hrec h))
theorem fr_jn_MD_apartBy_60 {n : Nat} {v3 : Int32} {v4 : Int32} {v5 : Int32} {v6 : Int32} {w0 : Int32} {μ : kbM} {rec : Int32 → kbM → Option (kbM)} (hrec : ∀ {y0 : Int32} {y1 : kbM} {x : kbM}, rec y0 y1 = some x → kbFr [81] [] y1 x) {x : kbM} (h : jn_MD_apartBy_60 n rec v3 v4 v5 v6 w0 μ = some x) : kbFr [81] [] μ x := by
  unfold jn_MD_apartBy_60 at h
  rcases kb_ite h with h | h
  · skip
    exact kbFr.tr kbFr.rf (kbFr.up (by decide) (by decide) (fr_jn_MD_apartBy_160 hrec h))
  rcases kb_ite h with h | h
  · skip
    exact kbFr.tr kbFr.rf (kbFr.up (by decide) (by decide) (fr_jn_MD_apartBy_160 hrec h))
  replace h := (kbIf_some h).2
  replace h := (kbIf_some h).2
  replace h := (kbIf_some h).2
  replace h := (kbIf_some h).2
  replace h := (kbIf_some h).2
  rcases kb_ite h with h | h
  · skip
    exact kbFr.tr kbFr.rf (kbFr.up (by decide) (by decide) (fr_jn_MD_apartBy_154 hrec h))
  exact kbFr.tr kbFr.rf (kbFr.up (by decide) (by decide) (fr_jn_MD_apartBy_154 hrec h))
theorem fr_lp_MD_apartBy_31 {n : Nat} {v3 : Int32} {v4 : Int32} {v5 : Int32} {k : Nat} : ∀ {v6 : Int32} {μ : kbM} {x : kbM}, lp_MD_apartBy_31 n v3 v4 v5 k v6 μ = some x → kbFr [81] [] μ x := by
  induction k with
  | zero => intro v6 μ x h; cases h
  | succ k ih =>
    intro v6 μ x h
    unfold lp_MD_apartBy_31 at h
    rcases kb_ite h with h | h
    · skip
      cases h
      exact kbFr.rf
    rcases kb_ite h with h | h
    · skip
      exact kbFr.tr kbFr.rf (kbFr.up (by decide) (by decide) (fr_jn_MD_apartBy_60 (fun h => ih h) h))
    rcases kb_ite h with h | h
    · skip
      exact kbFr.tr kbFr.rf (kbFr.up (by decide) (by decide) (fr_jn_MD_apartBy_60 (fun h => ih h) h))
    exact kbFr.tr kbFr.rf (kbFr.up (by decide) (by decide) (fr_jn_MD_apartBy_60 (fun h => ih h) h))
theorem fr_lp_MD_apartBy_22 {n : Nat} {v3 : Int32} {v4 : Int32} {k : Nat} : ∀ {v5 : Int32} {μ : kbM} {x : kbM}, lp_MD_apartBy_22 n v3 v4 k v5 μ = some x → kbFr [81] [] μ x := by
  induction k with
  | zero => intro v5 μ x h; cases h
  | succ k ih =>
    intro v5 μ x h
    unfold lp_MD_apartBy_22 at h
    rcases kb_ite h with h | h
    · skip
      cases h
      exact kbFr.rf
    obtain ⟨x3, ex3, h⟩ := kb_bind h
    have fx3 := kbFr.tr (C := [81]) (S := []) kbFr.rf (kbFr.up (by decide) (by decide) (fr_lp_MD_apartBy_31 ex3))
    exact kbFr.tr fx3 (ih h)
theorem fr_f_MD_apartBy {n : Nat} {a1 : Int32} {a2 : Int32} {μ : kbM} {x : Int32 × kbM} (h : f_MD_apartBy n a1 a2 μ = some x) : kbFr [81, 82, 83] [] μ x.2 := by
  unfold f_MD_apartBy at h
  obtain ⟨x1, ex1, h⟩ := kb_bind h
  have fx1 := kbFr.tr (C := [81, 82, 83]) (S := []) kbFr.rf (kbFr.up (by decide) (by decide) (fr_f_MD_tellRow_82 ex1))
  obtain ⟨x2, ex2, h⟩ := kb_bind h
  have fx2 := kbFr.tr (C := [81, 82, 83]) (S := []) fx1 (kbFr.up (by decide) (by decide) (fr_f_MD_tellRow_83 ex2))
  obtain ⟨x4, ex4, h⟩ := kb_bind h
  have fx4 := kbFr.tr (C := [81, 82, 83]) (S := []) fx2 (kbFr.up (by decide) (by decide) (fr_lp_MD_apartBy_22 ex4))
  replace h := (kbIf_some h).2
  cases h
  exact fx4
theorem fr_jn_MD_apart_33 {n : Nat} {w0 : Int32} {μ : kbM} {x : Int32 × kbM} (h : jn_MD_apart_33 n w0 μ = some x) : kbFr [] [] μ x.2 := by
  unfold jn_MD_apart_33 at h
  cases h
  exact kbFr.rf
theorem fr_jn_MD_apart_28 {n : Nat} {μ : kbM} {x : Int32 × kbM} (h : jn_MD_apart_28 n μ = some x) : kbFr [] [3] μ x.2 := by
  unfold jn_MD_apart_28 at h
  obtain ⟨x2, ex2, h⟩ := kb_bind h
  have fx2 := kbFr.tr (C := []) (S := [3]) kbFr.rf (kbFr.up (by decide) (by decide) (fr_f_MD_fail ex2))
  exact kbFr.tr fx2 (kbFr.up (by decide) (by decide) (fr_jn_MD_apart_33 h))
theorem fr_f_MD_apart {n : Nat} {a1 : Int32} {a2 : Int32} {μ : kbM} {x : Int32 × kbM} (h : f_MD_apart n a1 a2 μ = some x) : kbFr [81, 82, 83] [3] μ x.2 := by
  unfold f_MD_apart at h
  obtain ⟨x1, ex1, h⟩ := kb_bind h
  rcases kb_ite h with h | h
  · skip
    exact kbFr.tr (kbFr.w57 kbFr.rf (by decide)) (kbFr.up (by decide) (by decide) (fr_jn_MD_apart_28 h))
  obtain ⟨x3, ex3, h⟩ := kb_bind h
  rcases kb_ite h with h | h
  · skip
    exact kbFr.tr (kbFr.w57 kbFr.rf (by decide)) (kbFr.up (by decide) (by decide) (fr_jn_MD_apart_28 h))
  obtain ⟨x4, ex4, h⟩ := kb_bind h
  have fx4 := kbFr.tr (C := [81, 82, 83]) (S := [3]) (kbFr.w57 kbFr.rf (by decide)) (kbFr.up (by decide) (by decide) (fr_f_MD_apartBy ex4))
  exact kbFr.tr fx4 (kbFr.up (by decide) (by decide) (fr_jn_MD_apart_33 h))
theorem fr_jn_MD_nearestTo_46 {n : Nat} {v1 : Int32} {v2 : Int32} {v3 : Int32} {v4 : Int32} {μ : kbM} {rec : Int32 → Int32 → Int32 → kbM → Option (Int32 × kbM)} (hrec : ∀ {y0 : Int32} {y1 : Int32} {y2 : Int32} {y3 : kbM} {x : Int32 × kbM}, rec y0 y1 y2 y3 = some x → kbFr [81, 82, 83] [] y3 x.2) {x : Int32 × kbM} (h : jn_MD_nearestTo_46 n rec v1 v2 v3 v4 μ = some x) : kbFr [81, 82, 83] [] μ x.2 := by
  unfold jn_MD_nearestTo_46 at h
  exact kbFr.tr kbFr.rf (hrec h)
theorem fr_lp_MD_nearestTo_8 {n : Nat} {v1 : Int32} {k : Nat} : ∀ {v2 : Int32} {v3 : Int32} {v4 : Int32} {μ : kbM} {x : Int32 × kbM}, lp_MD_nearestTo_8 n v1 k v2 v3 v4 μ = some x → kbFr [81, 82, 83] [] μ x.2 := by
  induction k with
  | zero => intro v2 v3 v4 μ x h; cases h
  | succ k ih =>
    intro v2 v3 v4 μ x h
    unfold lp_MD_nearestTo_8 at h
    rcases kb_ite h with h | h
    · skip
      cases h
      exact kbFr.rf
    replace h := (kbIf_some h).2
    obtain ⟨x1, ex1, h⟩ := kb_bind h
    have fx1 := kbFr.tr (C := [81, 82, 83]) (S := []) kbFr.rf (kbFr.up (by decide) (by decide) (fr_f_MD_apartBy ex1))
    rcases kb_ite h with h | h
    · skip
      exact kbFr.tr fx1 (kbFr.up (by decide) (by decide) (fr_jn_MD_nearestTo_46 (fun h => ih h) h))
    exact kbFr.tr fx1 (kbFr.up (by decide) (by decide) (fr_jn_MD_nearestTo_46 (fun h => ih h) h))
theorem fr_f_MD_nearestTo {n : Nat} {a1 : Int32} {μ : kbM} {x : Int32 × kbM} (h : f_MD_nearestTo n a1 μ = some x) : kbFr [81, 82, 83] [] μ x.2 := by
  unfold f_MD_nearestTo at h
  obtain ⟨x2, ex2, h⟩ := kb_bind h
  have fx2 := kbFr.tr (C := [81, 82, 83]) (S := []) kbFr.rf (kbFr.up (by decide) (by decide) (fr_lp_MD_nearestTo_8 ex2))
  cases h
  exact fx2
theorem fr_jn_MD_nearest_14 {n : Nat} {μ : kbM} {x : Int32 × kbM} (h : jn_MD_nearest_14 n μ = some x) : kbFr [] [3] μ x.2 := by
  unfold jn_MD_nearest_14 at h
  obtain ⟨x1, ex1, h⟩ := kb_bind h
  have fx1 := kbFr.tr (C := []) (S := [3]) kbFr.rf (kbFr.up (by decide) (by decide) (fr_f_MD_fail ex1))
  cases h
  exact fx1
theorem fr_jn_MD_nearest_63 {n : Nat} {w0 : Int32} {μ : kbM} {x : Int32 × kbM} (h : jn_MD_nearest_63 n w0 μ = some x) : kbFr [] [] μ x.2 := by
  unfold jn_MD_nearest_63 at h
  cases h
  exact kbFr.rf
theorem fr_jn_MD_nearest_48 {n : Nat} {v3 : Int32} {μ : kbM} {x : Int32 × kbM} (h : jn_MD_nearest_48 n v3 μ = some x) : kbFr [] [] μ x.2 := by
  unfold jn_MD_nearest_48 at h
  exact kbFr.tr kbFr.rf (kbFr.up (by decide) (by decide) (fr_jn_MD_nearest_63 h))
theorem fr_f_MD_nearest {n : Nat} {a1 : Int32} {a2 : Int32} {μ : kbM} {x : Int32 × kbM} (h : f_MD_nearest n a1 a2 μ = some x) : kbFr [81, 82, 83] [3] μ x.2 := by
  unfold f_MD_nearest at h
  rcases kb_ite h with h | h
  · skip
    exact kbFr.tr (kbFr.w57 kbFr.rf (by decide)) (kbFr.up (by decide) (by decide) (fr_jn_MD_nearest_14 h))
  rcases kb_ite h with h | h
  · skip
    obtain ⟨x2, ex2, h⟩ := kb_bind h
    rcases kb_ite h with h | h
    · skip
      obtain ⟨x5, ex5, h⟩ := kb_bind h
      have fx5 := kbFr.tr (C := [81, 82, 83]) (S := [3]) (kbFr.w57 kbFr.rf (by decide)) (kbFr.up (by decide) (by decide) (fr_f_MD_fail ex5))
      cases h
      exact fx5
    obtain ⟨x3, ex3, h⟩ := kb_bind h
    have fx3 := kbFr.tr (C := [81, 82, 83]) (S := [3]) (kbFr.w57 kbFr.rf (by decide)) (kbFr.up (by decide) (by decide) (fr_f_MD_nearestTo ex3))
    rcases kb_ite h with h | h
    · skip
      exact kbFr.tr fx3 (kbFr.up (by decide) (by decide) (fr_jn_MD_nearest_48 h))
    rcases kb_ite h with h | h
    · skip
      exact kbFr.tr fx3 (kbFr.up (by decide) (by decide) (fr_jn_MD_nearest_48 h))
    replace h := (kbIf_some h).2
    obtain ⟨x4, ex4, h⟩ := kb_bind h
    have fx4 := kbFr.tr (C := [81, 82, 83]) (S := [3]) fx3 (kbFr.up (by decide) (by decide) (fr_f_MD_apartBy ex4))
    exact kbFr.tr fx4 (kbFr.up (by decide) (by decide) (fr_jn_MD_nearest_63 h))
  exact kbFr.tr (kbFr.w57 kbFr.rf (by decide)) (kbFr.up (by decide) (by decide) (fr_jn_MD_nearest_14 h))
theorem fr_f_MD_refuse {a1 : Int32} {μ : kbM} {x : Int32 × kbM} (h : f_MD_refuse a1 μ = some x) : kbFr [68] [] μ x.2 := by
  unfold f_MD_refuse at h
  replace h := (kbIf_some h).2
  replace h := (kbIf_some h).2
  cases h
  exact (kbFr.w kbFr.rf (by decide))
theorem fr_lp_MD_pack_73_18 {n : Nat} {v2 : Int32} {k : Nat} : ∀ {v3 : Int32} {μ : kbM} {x : kbM}, lp_MD_pack_73_18 n v2 k v3 μ = some x → kbFr [73] [] μ x := by
  induction k with
  | zero => intro v3 μ x h; cases h
  | succ k ih =>
    intro v3 μ x h
    unfold lp_MD_pack_73_18 at h
    rcases kb_ite h with h | h
    · skip
      cases h
      exact kbFr.rf
    replace h := (kbIf_some h).2
    replace h := (kbIf_some h).2
    replace h := (kbIf_some h).2
    replace h := (kbIf_some h).2
    replace h := (kbIf_some h).2
    replace h := (kbIf_some h).2
    exact kbFr.tr (kbFr.w (kbFr.w (kbFr.w kbFr.rf (by decide)) (by decide)) (by decide)) (ih h)
theorem fr_f_MD_pack_73 {n : Nat} {a2 : Int32} {μ : kbM} {x : kbM} (h : f_MD_pack_73 n a2 μ = some x) : kbFr [73] [] μ x := by
  unfold f_MD_pack_73 at h
  replace h := (kbIf_some h).2
  replace h := (kbIf_some h).2
  obtain ⟨x1, ex1, h⟩ := kb_bind h
  have fx1 := kbFr.tr (C := [73]) (S := []) (kbFr.w (kbFr.w kbFr.rf (by decide)) (by decide)) (kbFr.up (by decide) (by decide) (fr_lp_MD_pack_73_18 ex1))
  cases h
  exact fx1
theorem fr_jn_MD_keep_52 {n : Nat} {μ : kbM} {x : kbM} (h : jn_MD_keep_52 n μ = some x) : kbFr [73] [29] μ x := by
  unfold jn_MD_keep_52 at h
  obtain ⟨x1, ex1, h⟩ := kb_bind h
  have fx1 := kbFr.tr (C := [73]) (S := [29]) kbFr.rf (kbFr.up (by decide) (by decide) (fr_f_MD_pack_73 ex1))
  cases h
  exact (kbFr.w57 fx1 (by decide))
theorem fr_lp_MD_keep_12 {n : Nat} {k : Nat} : ∀ {v1 : Int32} {μ : kbM} {x : kbM}, lp_MD_keep_12 n k v1 μ = some x → kbFr [73] [] μ x := by
  induction k with
  | zero => intro v1 μ x h; cases h
  | succ k ih =>
    intro v1 μ x h
    unfold lp_MD_keep_12 at h
    rcases kb_ite h with h | h
    · skip
      cases h
      exact kbFr.rf
    replace h := (kbIf_some h).2
    replace h := (kbIf_some h).2
    exact kbFr.tr (kbFr.w kbFr.rf (by decide)) (ih h)
theorem fr_f_MD_keep {n : Nat} {μ : kbM} {x : kbM} (h : f_MD_keep n μ = some x) : kbFr [73] [29] μ x := by
  unfold f_MD_keep at h
  rcases kb_ite h with h | h
  · skip
    obtain ⟨x2, ex2, h⟩ := kb_bind h
    have fx2 := kbFr.tr (C := [73]) (S := [29]) kbFr.rf (kbFr.up (by decide) (by decide) (fr_lp_MD_keep_12 ex2))
    exact kbFr.tr (kbFr.w57 fx2 (by decide)) (kbFr.up (by decide) (by decide) (fr_jn_MD_keep_52 h))
  exact kbFr.tr kbFr.rf (kbFr.up (by decide) (by decide) (fr_jn_MD_keep_52 h))
theorem fr_jn_MD_take_67 {n : Nat} {μ : kbM} {x : Int32 × kbM} (h : jn_MD_take_67 n μ = some x) : kbFr [68] [] μ x.2 := by
  unfold jn_MD_take_67 at h
  obtain ⟨x1, ex1, h⟩ := kb_bind h
  have fx1 := kbFr.tr (C := [68]) (S := []) kbFr.rf (kbFr.up (by decide) (by decide) (fr_f_MD_refuse ex1))
  cases h
  exact fx1
theorem fr_f_MD_take {n : Nat} {a1 : Int32} {a2 : Int32} {a3 : Int32} {μ : kbM} {x : Int32 × kbM} (h : f_MD_take n a1 a2 a3 μ = some x) : kbFr [68, 70, 71, 72, 73] [3, 27, 29] μ x.2 := by
  unfold f_MD_take at h
  rcases kb_ite h with h | h
  · skip
    exact kbFr.tr (kbFr.w57 kbFr.rf (by decide)) (kbFr.up (by decide) (by decide) (fr_jn_MD_take_67 h))
  obtain ⟨x2, ex2, h⟩ := kb_bind h
  rcases kb_ite h with h | h
  · skip
    exact kbFr.tr (kbFr.w57 kbFr.rf (by decide)) (kbFr.up (by decide) (by decide) (fr_jn_MD_take_67 h))
  rcases kb_ite h with h | h
  · skip
    exact kbFr.tr (kbFr.w57 kbFr.rf (by decide)) (kbFr.up (by decide) (by decide) (fr_jn_MD_take_67 h))
  obtain ⟨x3, ex3, h⟩ := kb_bind h
  rcases kb_ite h with h | h
  · skip
    exact kbFr.tr (kbFr.w57 kbFr.rf (by decide)) (kbFr.up (by decide) (by decide) (fr_jn_MD_take_67 h))
  obtain ⟨x4, ex4, h⟩ := kb_bind h
  rcases kb_ite h with h | h
  · skip
    obtain ⟨x5, ex5, h⟩ := kb_bind h
    rcases kb_ite h with h | h
    · skip
      exact kbFr.tr (kbFr.w57 kbFr.rf (by decide)) (kbFr.up (by decide) (by decide) (fr_jn_MD_take_67 h))
    obtain ⟨x6, ex6, h⟩ := kb_bind h
    rcases kb_ite h with h | h
    · skip
      exact kbFr.tr (kbFr.w57 kbFr.rf (by decide)) (kbFr.up (by decide) (by decide) (fr_jn_MD_take_67 h))
    obtain ⟨x7, ex7, h⟩ := kb_bind h
    have fx7 := kbFr.tr (C := [68, 70, 71, 72, 73]) (S := [3, 27, 29]) (kbFr.w57 kbFr.rf (by decide)) (kbFr.up (by decide) (by decide) (fr_f_MD_keep ex7))
    replace h := (kbIf_some h).2
    replace h := (kbIf_some h).2
    replace h := (kbIf_some h).2
    cases h
    exact (kbFr.w57 (kbFr.w (kbFr.w (kbFr.w fx7 (by decide)) (by decide)) (by decide)) (by decide))
  exact kbFr.tr (kbFr.w57 kbFr.rf (by decide)) (kbFr.up (by decide) (by decide) (fr_jn_MD_take_67 h))
theorem fr_lp_MD_die_42 {n : Nat} {v2 : Int32} {k : Nat} : ∀ {v3 : Int32} {μ : kbM} {x : kbM}, lp_MD_die_42 n v2 k v3 μ = some x → kbFr [70, 71, 72] [] μ x := by
  induction k with
  | zero => intro v3 μ x h; cases h
  | succ k ih =>
    intro v3 μ x h
    unfold lp_MD_die_42 at h
    rcases kb_ite h with h | h
    · skip
      cases h
      exact kbFr.rf
    replace h := (kbIf_some h).2
    replace h := (kbIf_some h).2
    replace h := (kbIf_some h).2
    replace h := (kbIf_some h).2
    replace h := (kbIf_some h).2
    replace h := (kbIf_some h).2
    exact kbFr.tr (kbFr.w (kbFr.w (kbFr.w kbFr.rf (by decide)) (by decide)) (by decide)) (ih h)
theorem fr_f_MD_die {n : Nat} {a1 : Int32} {μ : kbM} {x : Int32 × kbM} (h : f_MD_die n a1 μ = some x) : kbFr [70, 71, 72, 73] [3, 27, 29] μ x.2 := by
  unfold f_MD_die at h
  obtain ⟨x1, ex1, h⟩ := kb_bind h
  rcases kb_ite h with h | h
  · skip
    obtain ⟨x4, ex4, h⟩ := kb_bind h
    have fx4 := kbFr.tr (C := [70, 71, 72, 73]) (S := [3, 27, 29]) (kbFr.w57 kbFr.rf (by decide)) (kbFr.up (by decide) (by decide) (fr_f_MD_fail ex4))
    cases h
    exact fx4
  obtain ⟨x2, ex2, h⟩ := kb_bind h
  have fx2 := kbFr.tr (C := [70, 71, 72, 73]) (S := [3, 27, 29]) (kbFr.w57 kbFr.rf (by decide)) (kbFr.up (by decide) (by decide) (fr_f_MD_keep ex2))
  replace h := (kbIf_some h).2
  obtain ⟨x3, ex3, h⟩ := kb_bind h
  have fx3 := kbFr.tr (C := [70, 71, 72, 73]) (S := [3, 27, 29]) (kbFr.w57 fx2 (by decide)) (kbFr.up (by decide) (by decide) (fr_lp_MD_die_42 ex3))
  cases h
  exact fx3
theorem fr_f_MD_worth {n : Nat} {a1 : Int32} {a2 : Int32} {μ : kbM} {x : Int32 × kbM} (h : f_MD_worth n a1 a2 μ = some x) : kbFr [68, 72, 73] [3, 29] μ x.2 := by
  unfold f_MD_worth at h
  obtain ⟨x1, ex1, h⟩ := kb_bind h
  rcases kb_ite h with h | h
  · skip
    obtain ⟨x5, ex5, h⟩ := kb_bind h
    have fx5 := kbFr.tr (C := [68, 72, 73]) (S := [3, 29]) (kbFr.w57 kbFr.rf (by decide)) (kbFr.up (by decide) (by decide) (fr_f_MD_fail ex5))
    cases h
    exact fx5
  obtain ⟨x2, ex2, h⟩ := kb_bind h
  rcases kb_ite h with h | h
  · skip
    obtain ⟨x4, ex4, h⟩ := kb_bind h
    have fx4 := kbFr.tr (C := [68, 72, 73]) (S := [3, 29]) (kbFr.w57 kbFr.rf (by decide)) (kbFr.up (by decide) (by decide) (fr_f_MD_refuse ex4))
    cases h
    exact fx4
  obtain ⟨x3, ex3, h⟩ := kb_bind h
  have fx3 := kbFr.tr (C := [68, 72, 73]) (S := [3, 29]) (kbFr.w57 kbFr.rf (by decide)) (kbFr.up (by decide) (by decide) (fr_f_MD_keep ex3))
  replace h := (kbIf_some h).2
  replace h := (kbIf_some h).2
  cases h
  exact (kbFr.w fx3 (by decide))
theorem fr_f_MD_part {n : Nat} {a1 : Int32} {a2 : Int32} {μ : kbM} {x : Int32 × kbM} (h : f_MD_part n a1 a2 μ = some x) : kbFr [68, 71, 73] [3, 29] μ x.2 := by
  unfold f_MD_part at h
  obtain ⟨x1, ex1, h⟩ := kb_bind h
  rcases kb_ite h with h | h
  · skip
    obtain ⟨x5, ex5, h⟩ := kb_bind h
    have fx5 := kbFr.tr (C := [68, 71, 73]) (S := [3, 29]) (kbFr.w57 kbFr.rf (by decide)) (kbFr.up (by decide) (by decide) (fr_f_MD_fail ex5))
    cases h
    exact fx5
  obtain ⟨x2, ex2, h⟩ := kb_bind h
  rcases kb_ite h with h | h
  · skip
    obtain ⟨x4, ex4, h⟩ := kb_bind h
    have fx4 := kbFr.tr (C := [68, 71, 73]) (S := [3, 29]) (kbFr.w57 kbFr.rf (by decide)) (kbFr.up (by decide) (by decide) (fr_f_MD_refuse ex4))
    cases h
    exact fx4
  obtain ⟨x3, ex3, h⟩ := kb_bind h
  have fx3 := kbFr.tr (C := [68, 71, 73]) (S := [3, 29]) (kbFr.w57 kbFr.rf (by decide)) (kbFr.up (by decide) (by decide) (fr_f_MD_keep ex3))
  replace h := (kbIf_some h).2
  replace h := (kbIf_some h).2
  cases h
  exact (kbFr.w fx3 (by decide))
theorem fr_f_MD_rain {n : Nat} {a1 : Int32} {a2 : Int32} {μ : kbM} {x : Int32 × kbM} (h : f_MD_rain n a1 a2 μ = some x) : kbFr [68, 73] [3, 28, 29] μ x.2 := by
  unfold f_MD_rain at h
  obtain ⟨x1, ex1, h⟩ := kb_bind h
  rcases kb_ite h with h | h
  · skip
    cases h
    exact (kbFr.w57 (kbFr.w57 kbFr.rf (by decide)) (by decide))
  obtain ⟨x2, ex2, h⟩ := kb_bind h
  rcases kb_ite h with h | h
  · skip
    cases h
    exact (kbFr.w (kbFr.w57 kbFr.rf (by decide)) (by decide))
  obtain ⟨x3, ex3, h⟩ := kb_bind h
  have fx3 := kbFr.tr (C := [68, 73]) (S := [3, 28, 29]) (kbFr.w57 kbFr.rf (by decide)) (kbFr.up (by decide) (by decide) (fr_f_MD_keep ex3))
  cases h
  exact (kbFr.w57 fx3 (by decide))
theorem fr_lp_MD_unpack_73_18 {n : Nat} {v2 : Int32} {k : Nat} : ∀ {v3 : Int32} {μ : kbM} {x : kbM}, lp_MD_unpack_73_18 n v2 k v3 μ = some x → kbFr [70, 71, 72] [] μ x := by
  induction k with
  | zero => intro v3 μ x h; cases h
  | succ k ih =>
    intro v3 μ x h
    unfold lp_MD_unpack_73_18 at h
    rcases kb_ite h with h | h
    · skip
      cases h
      exact kbFr.rf
    replace h := (kbIf_some h).2
    replace h := (kbIf_some h).2
    replace h := (kbIf_some h).2
    replace h := (kbIf_some h).2
    replace h := (kbIf_some h).2
    replace h := (kbIf_some h).2
    exact kbFr.tr (kbFr.w (kbFr.w (kbFr.w kbFr.rf (by decide)) (by decide)) (by decide)) (ih h)
theorem fr_f_MD_unpack_73 {n : Nat} {a2 : Int32} {μ : kbM} {x : kbM} (h : f_MD_unpack_73 n a2 μ = some x) : kbFr [70, 71, 72] [27, 28] μ x := by
  unfold f_MD_unpack_73 at h
  replace h := (kbIf_some h).2
  replace h := (kbIf_some h).2
  obtain ⟨x1, ex1, h⟩ := kb_bind h
  have fx1 := kbFr.tr (C := [70, 71, 72]) (S := [27, 28]) (kbFr.w57 (kbFr.w57 kbFr.rf (by decide)) (by decide)) (kbFr.up (by decide) (by decide) (fr_lp_MD_unpack_73_18 ex1))
  cases h
  exact fx1
theorem fr_f_MD_undo {n : Nat} {μ : kbM} {x : Int32 × kbM} (h : f_MD_undo n μ = some x) : kbFr [70, 71, 72] [3, 27, 28, 29] μ x.2 := by
  unfold f_MD_undo at h
  rcases kb_ite h with h | h
  · skip
    cases h
    exact (kbFr.w57 kbFr.rf (by decide))
  obtain ⟨x1, ex1, h⟩ := kb_bind h
  have fx1 := kbFr.tr (C := [70, 71, 72]) (S := [3, 27, 28, 29]) (kbFr.w57 (kbFr.w57 kbFr.rf (by decide)) (by decide)) (kbFr.up (by decide) (by decide) (fr_f_MD_unpack_73 ex1))
  cases h
  exact fx1
theorem fr_jn_MD_sayMore_163 {n : Nat} {v1 : Int32} {v2 : Int32} {v3 : Int32} {v4 : Int32} {v5 : Int32} {μ : kbM} {rec : Int32 → Int32 → kbM → Option (Int32 × kbM)} (hrec : ∀ {y0 : Int32} {y1 : Int32} {y2 : kbM} {x : Int32 × kbM}, rec y0 y1 y2 = some x → kbFr [74, 75, 84] [] y2 x.2) {x : Int32 × kbM} (h : jn_MD_sayMore_163 n rec v1 v2 v3 v4 v5 μ = some x) : kbFr [74, 75, 84] [] μ x.2 := by
  unfold jn_MD_sayMore_163 at h
  exact kbFr.tr kbFr.rf (hrec h)
theorem fr_lp_MD_sayMore_95 {n : Nat} {v2 : Int32} {v3 : Int32} {v4 : Int32} {k : Nat} : ∀ {v1 : Int32} {v5 : Int32} {μ : kbM} {x : Int32 × kbM}, lp_MD_sayMore_95 n v2 v3 v4 k v1 v5 μ = some x → kbFr [74, 75, 84] [] μ x.2 := by
  induction k with
  | zero => intro v1 v5 μ x h; cases h
  | succ k ih =>
    intro v1 v5 μ x h
    unfold lp_MD_sayMore_95 at h
    rcases kb_ite h with h | h
    · skip
      cases h
      exact kbFr.rf
    replace h := (kbIf_some h).2
    rcases kb_ite h with h | h
    · skip
      rcases kb_ite h with h | h
      · skip
        cases h
        exact kbFr.rf
      replace h := (kbIf_some h).2
      rcases kb_ite h with h | h
      · skip
        exact kbFr.tr kbFr.rf (kbFr.up (by decide) (by decide) (fr_jn_MD_sayMore_163 (fun h => ih h) h))
      obtain ⟨x1, ex1, h⟩ := kb_bind h
      have fx1 := kbFr.tr (C := [74, 75, 84]) (S := []) kbFr.rf (kbFr.up (by decide) (by decide) (fr_f_MD_joins ex1))
      rcases kb_ite h with h | h
      · skip
        exact kbFr.tr fx1 (kbFr.up (by decide) (by decide) (fr_jn_MD_sayMore_163 (fun h => ih h) h))
      replace h := (kbIf_some h).2
      exact kbFr.tr (kbFr.w fx1 (by decide)) (kbFr.up (by decide) (by decide) (fr_jn_MD_sayMore_163 (fun h => ih h) h))
    cases h
    exact kbFr.rf
theorem fr_jn_MD_sayMore_169 {n : Nat} {v1 : Int32} {v2 : Int32} {v3 : Int32} {μ : kbM} {rec : Int32 → Int32 → kbM → Option (Int32 × kbM)} (hrec : ∀ {y0 : Int32} {y1 : Int32} {y2 : kbM} {x : Int32 × kbM}, rec y0 y1 y2 = some x → kbFr [74, 75, 84] [] y2 x.2) {x : Int32 × kbM} (h : jn_MD_sayMore_169 n rec v1 v2 v3 μ = some x) : kbFr [74, 75, 84] [] μ x.2 := by
  unfold jn_MD_sayMore_169 at h
  exact kbFr.tr kbFr.rf (hrec h)
theorem fr_jn_MD_sayMore_92 {n : Nat} {v1 : Int32} {v2 : Int32} {v3 : Int32} {v4 : Int32} {μ : kbM} {rec : Int32 → Int32 → kbM → Option (Int32 × kbM)} (hrec : ∀ {y0 : Int32} {y1 : Int32} {y2 : kbM} {x : Int32 × kbM}, rec y0 y1 y2 = some x → kbFr [74, 75, 84] [] y2 x.2) {x : Int32 × kbM} (h : jn_MD_sayMore_92 n rec v1 v2 v3 v4 μ = some x) : kbFr [74, 75, 84] [] μ x.2 := by
  unfold jn_MD_sayMore_92 at h
  obtain ⟨x2, ex2, h⟩ := kb_bind h
  have fx2 := kbFr.tr (C := [74, 75, 84]) (S := []) kbFr.rf (kbFr.up (by decide) (by decide) (fr_lp_MD_sayMore_95 ex2))
  exact kbFr.tr fx2 (kbFr.up (by decide) (by decide) (fr_jn_MD_sayMore_169 hrec h))
theorem fr_lp_MD_sayMore_20 {n : Nat} {v2 : Int32} {k : Nat} : ∀ {v1 : Int32} {v3 : Int32} {μ : kbM} {x : Int32 × kbM}, lp_MD_sayMore_20 n v2 k v1 v3 μ = some x → kbFr [74, 75, 84] [] μ x.2 := by
  induction k with
  | zero => intro v1 v3 μ x h; cases h
  | succ k ih =>
    intro v1 v3 μ x h
    unfold lp_MD_sayMore_20 at h
    replace h := (kbIf_some h).2
    rcases kb_ite h with h | h
    · skip
      cases h
      exact kbFr.rf
    replace h := (kbIf_some h).2
    replace h := (kbIf_some h).2
    rcases kb_ite h with h | h
    · skip
      exact kbFr.tr kbFr.rf (kbFr.up (by decide) (by decide) (fr_jn_MD_sayMore_92 (fun h => ih h) h))
    replace h := (kbIf_some h).2
    rcases kb_ite h with h | h
    · skip
      exact kbFr.tr kbFr.rf (kbFr.up (by decide) (by decide) (fr_jn_MD_sayMore_92 (fun h => ih h) h))
    replace h := (kbIf_some h).2
    exact kbFr.tr (kbFr.w kbFr.rf (by decide)) (kbFr.up (by decide) (by decide) (fr_jn_MD_sayMore_92 (fun h => ih h) h))
theorem fr_lp_MD_sayMore_10 {n : Nat} {k : Nat} : ∀ {v1 : Int32} {v2 : Int32} {μ : kbM} {x : Int32 × kbM}, lp_MD_sayMore_10 n k v1 v2 μ = some x → kbFr [74, 75, 84] [] μ x.2 := by
  induction k with
  | zero => intro v1 v2 μ x h; cases h
  | succ k ih =>
    intro v1 v2 μ x h
    unfold lp_MD_sayMore_10 at h
    rcases kb_ite h with h | h
    · skip
      cases h
      exact kbFr.rf
    obtain ⟨x3, ex3, h⟩ := kb_bind h
    have fx3 := kbFr.tr (C := [74, 75, 84]) (S := []) kbFr.rf (kbFr.up (by decide) (by decide) (fr_lp_MD_sayMore_20 ex3))
    exact kbFr.tr fx3 (ih h)
theorem fr_lp_MD_sayMore_2 {n : Nat} {k : Nat} : ∀ {v1 : Int32} {μ : kbM} {x : kbM}, lp_MD_sayMore_2 n k v1 μ = some x → kbFr [74, 75, 84] [] μ x := by
  induction k with
  | zero => intro v1 μ x h; cases h
  | succ k ih =>
    intro v1 μ x h
    unfold lp_MD_sayMore_2 at h
    rcases kb_ite h with h | h
    · skip
      cases h
      exact kbFr.rf
    obtain ⟨x4, ex4, h⟩ := kb_bind h
    have fx4 := kbFr.tr (C := [74, 75, 84]) (S := []) kbFr.rf (kbFr.up (by decide) (by decide) (fr_lp_MD_sayMore_10 ex4))
    exact kbFr.tr fx4 (ih h)
theorem fr_f_MD_sayMore {n : Nat} {μ : kbM} {x : kbM} (h : f_MD_sayMore n μ = some x) : kbFr [74, 75, 84] [] μ x := by
  unfold f_MD_sayMore at h
  obtain ⟨x5, ex5, h⟩ := kb_bind h
  have fx5 := kbFr.tr (C := [74, 75, 84]) (S := []) kbFr.rf (kbFr.up (by decide) (by decide) (fr_lp_MD_sayMore_2 ex5))
  cases h
  exact fx5
theorem fr_lp_MD_hearOne_2 {n : Nat} {v1 : Int32} {k : Nat} : ∀ {v2 : Int32} {μ : kbM} {x : kbM}, lp_MD_hearOne_2 n v1 k v2 μ = some x → kbFr [85] [] μ x := by
  induction k with
  | zero => intro v2 μ x h; cases h
  | succ k ih =>
    intro v2 μ x h
    unfold lp_MD_hearOne_2 at h
    rcases kb_ite h with h | h
    · skip
      cases h
      exact kbFr.rf
    replace h := (kbIf_some h).2
    replace h := (kbIf_some h).2
    exact kbFr.tr (kbFr.w kbFr.rf (by decide)) (ih h)
theorem fr_jn_MD_hearOne_102 {n : Nat} {v1 : Int32} {v2 : Int32} {v3 : Int32} {w1 : Int32} {w2 : Int32} {w3 : Int32} {w4 : Int32} {μ : kbM} {rec : Int32 → kbM → Option (kbM)} (hrec : ∀ {y0 : Int32} {y1 : kbM} {x : kbM}, rec y0 y1 = some x → kbFr [85] [] y1 x) {x : kbM} (h : jn_MD_hearOne_102 n rec v1 v2 v3 w1 w2 w3 w4 μ = some x) : kbFr [85] [] μ x := by
  unfold jn_MD_hearOne_102 at h
  replace h := (kbIf_some h).2
  exact kbFr.tr (kbFr.w kbFr.rf (by decide)) (hrec h)
theorem fr_lp_MD_hearOne_40 {n : Nat} {v1 : Int32} {v2 : Int32} {k : Nat} : ∀ {v3 : Int32} {μ : kbM} {x : kbM}, lp_MD_hearOne_40 n v1 v2 k v3 μ = some x → kbFr [85] [] μ x := by
  induction k with
  | zero => intro v3 μ x h; cases h
  | succ k ih =>
    intro v3 μ x h
    unfold lp_MD_hearOne_40 at h
    replace h := (kbIf_some h).2
    rcases kb_ite h with h | h
    · skip
      cases h
      exact kbFr.rf
    replace h := (kbIf_some h).2
    replace h := (kbIf_some h).2
    replace h := (kbIf_some h).2
    rcases kb_ite h with h | h
    · skip
      exact kbFr.tr kbFr.rf (kbFr.up (by decide) (by decide) (fr_jn_MD_hearOne_102 (fun h => ih h) h))
    exact kbFr.tr kbFr.rf (kbFr.up (by decide) (by decide) (fr_jn_MD_hearOne_102 (fun h => ih h) h))
theorem fr_lp_MD_hearOne_30 {n : Nat} {v1 : Int32} {k : Nat} : ∀ {v2 : Int32} {μ : kbM} {x : kbM}, lp_MD_hearOne_30 n v1 k v2 μ = some x → kbFr [85] [] μ x := by
  induction k with
  | zero => intro v2 μ x h; cases h
  | succ k ih =>
    intro v2 μ x h
    unfold lp_MD_hearOne_30 at h
    rcases kb_ite h with h | h
    · skip
      cases h
      exact kbFr.rf
    obtain ⟨x2, ex2, h⟩ := kb_bind h
    have fx2 := kbFr.tr (C := [85]) (S := []) kbFr.rf (kbFr.up (by decide) (by decide) (fr_lp_MD_hearOne_40 ex2))
    exact kbFr.tr fx2 (ih h)
theorem fr_lp_MD_hearOne_121 {n : Nat} {k : Nat} : ∀ {v2 : Int32} {μ : kbM} {x : kbM}, lp_MD_hearOne_121 n k v2 μ = some x → kbFr [84] [] μ x := by
  induction k with
  | zero => intro v2 μ x h; cases h
  | succ k ih =>
    intro v2 μ x h
    unfold lp_MD_hearOne_121 at h
    rcases kb_ite h with h | h
    · skip
      cases h
      exact kbFr.rf
    replace h := (kbIf_some h).2
    replace h := (kbIf_some h).2
    exact kbFr.tr (kbFr.w kbFr.rf (by decide)) (ih h)
theorem fr_f_MD_hearOne {n : Nat} {a1 : Int32} {μ : kbM} {x : kbM} (h : f_MD_hearOne n a1 μ = some x) : kbFr [84, 85] [] μ x := by
  unfold f_MD_hearOne at h
  obtain ⟨x1, ex1, h⟩ := kb_bind h
  have fx1 := kbFr.tr (C := [84, 85]) (S := []) kbFr.rf (kbFr.up (by decide) (by decide) (fr_lp_MD_hearOne_2 ex1))
  obtain ⟨x3, ex3, h⟩ := kb_bind h
  have fx3 := kbFr.tr (C := [84, 85]) (S := []) fx1 (kbFr.up (by decide) (by decide) (fr_lp_MD_hearOne_30 ex3))
  obtain ⟨x4, ex4, h⟩ := kb_bind h
  have fx4 := kbFr.tr (C := [84, 85]) (S := []) fx3 (kbFr.up (by decide) (by decide) (fr_lp_MD_hearOne_121 ex4))
  cases h
  exact fx4
theorem fr_lp_MD_mend_25 {n : Nat} {k : Nat} : ∀ {v2 : Int32} {μ : kbM} {x : kbM}, lp_MD_mend_25 n k v2 μ = some x → kbFr [84] [] μ x := by
  induction k with
  | zero => intro v2 μ x h; cases h
  | succ k ih =>
    intro v2 μ x h
    unfold lp_MD_mend_25 at h
    rcases kb_ite h with h | h
    · skip
      cases h
      exact kbFr.rf
    replace h := (kbIf_some h).2
    exact kbFr.tr (kbFr.w kbFr.rf (by decide)) (ih h)
theorem fr_lp_MD_mend_47 {n : Nat} {k : Nat} : ∀ {v2 : Int32} {μ : kbM} {x : kbM}, lp_MD_mend_47 n k v2 μ = some x → kbFr [84] [] μ x := by
  induction k with
  | zero => intro v2 μ x h; cases h
  | succ k ih =>
    intro v2 μ x h
    unfold lp_MD_mend_47 at h
    rcases kb_ite h with h | h
    · skip
      cases h
      exact kbFr.rf
    replace h := (kbIf_some h).2
    exact kbFr.tr (kbFr.w kbFr.rf (by decide)) (ih h)
theorem fr_lp_MD_mend_77 {n : Nat} {k : Nat} : ∀ {v2 : Int32} {μ : kbM} {x : kbM}, lp_MD_mend_77 n k v2 μ = some x → kbFr [74, 75, 84, 85] [] μ x := by
  induction k with
  | zero => intro v2 μ x h; cases h
  | succ k ih =>
    intro v2 μ x h
    unfold lp_MD_mend_77 at h
    rcases kb_ite h with h | h
    · skip
      cases h
      exact kbFr.rf
    replace h := (kbIf_some h).2
    obtain ⟨x6, ex6, h⟩ := kb_bind h
    have fx6 := kbFr.tr (C := [74, 75, 84, 85]) (S := []) kbFr.rf (kbFr.up (by decide) (by decide) (fr_f_MD_hearOne ex6))
    obtain ⟨x7, ex7, h⟩ := kb_bind h
    have fx7 := kbFr.tr (C := [74, 75, 84, 85]) (S := []) fx6 (kbFr.up (by decide) (by decide) (fr_f_MD_sayMore ex7))
    exact kbFr.tr fx7 (ih h)
theorem fr_jn_MD_mend_156 {n : Nat} {w0 : Int32} {μ : kbM} {x : Int32 × kbM} (h : jn_MD_mend_156 n w0 μ = some x) : kbFr [] [] μ x.2 := by
  unfold jn_MD_mend_156 at h
  cases h
  exact kbFr.rf
theorem fr_f_MD_mend {n : Nat} {a1 : Int32} {μ : kbM} {x : Int32 × kbM} (h : f_MD_mend n a1 μ = some x) : kbFr [74, 75, 76, 78, 79, 84, 85] [3, 38] μ x.2 := by
  unfold f_MD_mend at h
  obtain ⟨x1, ex1, h⟩ := kb_bind h
  rcases kb_ite h with h | h
  · skip
    obtain ⟨x10, ex10, h⟩ := kb_bind h
    have fx10 := kbFr.tr (C := [74, 75, 76, 78, 79, 84, 85]) (S := [3, 38]) (kbFr.w57 kbFr.rf (by decide)) (kbFr.up (by decide) (by decide) (fr_f_MD_fail ex10))
    cases h
    exact fx10
  obtain ⟨x2, ex2, h⟩ := kb_bind h
  have fx2 := kbFr.tr (C := [74, 75, 76, 78, 79, 84, 85]) (S := [3, 38]) (kbFr.w57 kbFr.rf (by decide)) (kbFr.up (by decide) (by decide) (fr_f_MD_tellSounds ex2))
  obtain ⟨x3, ex3, h⟩ := kb_bind h
  have fx3 := kbFr.tr (C := [74, 75, 76, 78, 79, 84, 85]) (S := [3, 38]) fx2 (kbFr.up (by decide) (by decide) (fr_lp_MD_mend_25 ex3))
  obtain ⟨x4, ex4, h⟩ := kb_bind h
  have fx4 := kbFr.tr (C := [74, 75, 76, 78, 79, 84, 85]) (S := [3, 38]) fx3 (kbFr.up (by decide) (by decide) (fr_lp_MD_mend_47 ex4))
  obtain ⟨x5, ex5, h⟩ := kb_bind h
  have fx5 := kbFr.tr (C := [74, 75, 76, 78, 79, 84, 85]) (S := [3, 38]) fx4 (kbFr.up (by decide) (by decide) (fr_f_MD_sayMore ex5))
  obtain ⟨x8, ex8, h⟩ := kb_bind h
  have fx8 := kbFr.tr (C := [74, 75, 76, 78, 79, 84, 85]) (S := [3, 38]) fx5 (kbFr.up (by decide) (by decide) (fr_lp_MD_mend_77 ex8))
  obtain ⟨x9, ex9, h⟩ := kb_bind h
  rcases kb_ite h with h | h
  · skip
    exact kbFr.tr fx8 (kbFr.up (by decide) (by decide) (fr_jn_MD_mend_156 h))
  exact kbFr.tr fx8 (kbFr.up (by decide) (by decide) (fr_jn_MD_mend_156 h))
theorem fr_f_MD_isTail {a1 : Int32} {a2 : Int32} {μ : kbM} {x : Int32 × kbM} (h : f_MD_isTail a1 a2 μ = some x) : kbFr [86] [45] μ x.2 := by
  unfold f_MD_isTail at h
  rcases kb_ite h with h | h
  · skip
    cases h
    exact (kbFr.w57 kbFr.rf (by decide))
  replace h := (kbIf_some h).2
  rcases kb_ite h with h | h
  · skip
    replace h := (kbIf_some h).2
    cases h
    exact (kbFr.w kbFr.rf (by decide))
  cases h
  exact kbFr.rf
theorem fr_jn_MD_goOn_88 {n : Nat} {v1 : Int32} {v2 : Int32} {v3 : Int32} {v4 : Int32} {μ : kbM} {rec : Int32 → Int32 → kbM → Option (Int32 × kbM)} (hrec : ∀ {y0 : Int32} {y1 : Int32} {y2 : kbM} {x : Int32 × kbM}, rec y0 y1 y2 = some x → kbFr [86] [45] y2 x.2) {x : Int32 × kbM} (h : jn_MD_goOn_88 n rec v1 v2 v3 v4 μ = some x) : kbFr [86] [45] μ x.2 := by
  unfold jn_MD_goOn_88 at h
  exact kbFr.tr kbFr.rf (hrec h)
theorem fr_lp_MD_goOn_12 {n : Nat} {v1 : Int32} {v2 : Int32} {k : Nat} : ∀ {v3 : Int32} {v4 : Int32} {μ : kbM} {x : Int32 × kbM}, lp_MD_goOn_12 n v1 v2 k v3 v4 μ = some x → kbFr [86] [45] μ x.2 := by
  induction k with
  | zero => intro v3 v4 μ x h; cases h
  | succ k ih =>
    intro v3 v4 μ x h
    unfold lp_MD_goOn_12 at h
    rcases kb_ite h with h | h
    · skip
      cases h
      exact kbFr.rf
    replace h := (kbIf_some h).2
    obtain ⟨x1, ex1, h⟩ := kb_bind h
    rcases kb_ite h with h | h
    · skip
      replace h := (kbIf_some h).2
      obtain ⟨x2, ex2, h⟩ := kb_bind h
      rcases kb_ite h with h | h
      · skip
        exact kbFr.tr kbFr.rf (kbFr.up (by decide) (by decide) (fr_jn_MD_goOn_88 (fun h => ih h) h))
      obtain ⟨x3, ex3, h⟩ := kb_bind h
      obtain ⟨x4, ex4, h⟩ := kb_bind h
      have fx4 := kbFr.tr (C := [86]) (S := [45]) kbFr.rf (kbFr.up (by decide) (by decide) (fr_f_MD_isTail ex4))
      exact kbFr.tr fx4 (kbFr.up (by decide) (by decide) (fr_jn_MD_goOn_88 (fun h => ih h) h))
    obtain ⟨x5, ex5, h⟩ := kb_bind h
    have fx5 := kbFr.tr (C := [86]) (S := [45]) kbFr.rf (kbFr.up (by decide) (by decide) (fr_f_MD_isTail ex5))
    exact kbFr.tr fx5 (kbFr.up (by decide) (by decide) (fr_jn_MD_goOn_88 (fun h => ih h) h))
theorem fr_f_MD_goOn {n : Nat} {a1 : Int32} {μ : kbM} {x : Int32 × kbM} (h : f_MD_goOn n a1 μ = some x) : kbFr [86] [45] μ x.2 := by
  unfold f_MD_goOn at h
  replace h := (kbIf_some h).2
  obtain ⟨x6, ex6, h⟩ := kb_bind h
  have fx6 := kbFr.tr (C := [86]) (S := [45]) kbFr.rf (kbFr.up (by decide) (by decide) (fr_lp_MD_goOn_12 ex6))
  replace h := (kbIf_some h).2
  cases h
  exact fx6
theorem fr_lp_MD_twoWays_13 {n : Nat} {k : Nat} : ∀ {v1 : Int32} {μ : kbM} {x : kbM}, lp_MD_twoWays_13 n k v1 μ = some x → kbFr [86] [] μ x := by
  induction k with
  | zero => intro v1 μ x h; cases h
  | succ k ih =>
    intro v1 μ x h
    unfold lp_MD_twoWays_13 at h
    rcases kb_ite h with h | h
    · skip
      cases h
      exact kbFr.rf
    replace h := (kbIf_some h).2
    exact kbFr.tr (kbFr.w kbFr.rf (by decide)) (ih h)
theorem fr_jn_MD_twoWays_99 {n : Nat} {v1 : Int32} {v2 : Int32} {μ : kbM} {rec : Int32 → kbM → Option (kbM)} (hrec : ∀ {y0 : Int32} {y1 : kbM} {x : kbM}, rec y0 y1 = some x → kbFr [86] [45] y1 x) {x : kbM} (h : jn_MD_twoWays_99 n rec v1 v2 μ = some x) : kbFr [86] [45] μ x := by
  unfold jn_MD_twoWays_99 at h
  exact kbFr.tr kbFr.rf (hrec h)
theorem fr_jn_MD_twoWays_78 {n : Nat} {v1 : Int32} {v2 : Int32} {w0 : Int32} {μ : kbM} {rec : Int32 → kbM → Option (kbM)} (hrec : ∀ {y0 : Int32} {y1 : kbM} {x : kbM}, rec y0 y1 = some x → kbFr [86] [45] y1 x) {x : kbM} (h : jn_MD_twoWays_78 n rec v1 v2 w0 μ = some x) : kbFr [86] [45] μ x := by
  unfold jn_MD_twoWays_78 at h
  rcases kb_ite h with h | h
  · skip
    exact kbFr.tr kbFr.rf (kbFr.up (by decide) (by decide) (fr_jn_MD_twoWays_99 hrec h))
  replace h := (kbIf_some h).2
  obtain ⟨x3, ex3, h⟩ := kb_bind h
  obtain ⟨x4, ex4, h⟩ := kb_bind h
  have fx4 := kbFr.tr (C := [86]) (S := [45]) kbFr.rf (kbFr.up (by decide) (by decide) (fr_f_MD_isTail ex4))
  exact kbFr.tr fx4 (kbFr.up (by decide) (by decide) (fr_jn_MD_twoWays_99 hrec h))
theorem fr_lp_MD_twoWays_46 {n : Nat} {v1 : Int32} {k : Nat} : ∀ {v2 : Int32} {μ : kbM} {x : kbM}, lp_MD_twoWays_46 n v1 k v2 μ = some x → kbFr [86] [45] μ x := by
  induction k with
  | zero => intro v2 μ x h; cases h
  | succ k ih =>
    intro v2 μ x h
    unfold lp_MD_twoWays_46 at h
    rcases kb_ite h with h | h
    · skip
      cases h
      exact kbFr.rf
    rcases kb_ite h with h | h
    · skip
      exact kbFr.tr kbFr.rf (kbFr.up (by decide) (by decide) (fr_jn_MD_twoWays_78 (fun h => ih h) h))
    replace h := (kbIf_some h).2
    replace h := (kbIf_some h).2
    obtain ⟨x2, ex2, h⟩ := kb_bind h
    exact kbFr.tr kbFr.rf (kbFr.up (by decide) (by decide) (fr_jn_MD_twoWays_78 (fun h => ih h) h))
theorem fr_lp_MD_twoWays_36 {n : Nat} {k : Nat} : ∀ {v1 : Int32} {μ : kbM} {x : kbM}, lp_MD_twoWays_36 n k v1 μ = some x → kbFr [86] [45] μ x := by
  induction k with
  | zero => intro v1 μ x h; cases h
  | succ k ih =>
    intro v1 μ x h
    unfold lp_MD_twoWays_36 at h
    rcases kb_ite h with h | h
    · skip
      cases h
      exact kbFr.rf
    obtain ⟨x5, ex5, h⟩ := kb_bind h
    have fx5 := kbFr.tr (C := [86]) (S := [45]) kbFr.rf (kbFr.up (by decide) (by decide) (fr_lp_MD_twoWays_46 ex5))
    exact kbFr.tr fx5 (ih h)
theorem fr_jn_MD_twoWays_160 {n : Nat} {v1 : Int32} {v2 : Int32} {μ : kbM} {rec : Int32 → Int32 → kbM → Option (Int32 × kbM)} (hrec : ∀ {y0 : Int32} {y1 : Int32} {y2 : kbM} {x : Int32 × kbM}, rec y0 y1 y2 = some x → kbFr [86] [45] y2 x.2) {x : Int32 × kbM} (h : jn_MD_twoWays_160 n rec v1 v2 μ = some x) : kbFr [86] [45] μ x.2 := by
  unfold jn_MD_twoWays_160 at h
  exact kbFr.tr kbFr.rf (hrec h)
theorem fr_lp_MD_twoWays_121 {n : Nat} {k : Nat} : ∀ {v1 : Int32} {v2 : Int32} {μ : kbM} {x : Int32 × kbM}, lp_MD_twoWays_121 n k v1 v2 μ = some x → kbFr [86] [45] μ x.2 := by
  induction k with
  | zero => intro v1 v2 μ x h; cases h
  | succ k ih =>
    intro v1 v2 μ x h
    unfold lp_MD_twoWays_121 at h
    rcases kb_ite h with h | h
    · skip
      cases h
      exact kbFr.rf
    replace h := (kbIf_some h).2
    rcases kb_ite h with h | h
    · skip
      exact kbFr.tr kbFr.rf (kbFr.up (by decide) (by decide) (fr_jn_MD_twoWays_160 (fun h => ih h) h))
    replace h := (kbIf_some h).2
    rcases kb_ite h with h | h
    · skip
      exact kbFr.tr kbFr.rf (kbFr.up (by decide) (by decide) (fr_jn_MD_twoWays_160 (fun h => ih h) h))
    obtain ⟨x7, ex7, h⟩ := kb_bind h
    have fx7 := kbFr.tr (C := [86]) (S := [45]) kbFr.rf (kbFr.up (by decide) (by decide) (fr_f_MD_goOn ex7))
    exact kbFr.tr fx7 (kbFr.up (by decide) (by decide) (fr_jn_MD_twoWays_160 (fun h => ih h) h))
theorem fr_lp_MD_twoWays_113 {n : Nat} {k : Nat} : ∀ {v1 : Int32} {μ : kbM} {x : kbM}, lp_MD_twoWays_113 n k v1 μ = some x → kbFr [86] [45] μ x := by
  induction k with
  | zero => intro v1 μ x h; cases h
  | succ k ih =>
    intro v1 μ x h
    unfold lp_MD_twoWays_113 at h
    rcases kb_ite h with h | h
    · skip
      cases h
      exact kbFr.rf
    obtain ⟨x8, ex8, h⟩ := kb_bind h
    have fx8 := kbFr.tr (C := [86]) (S := [45]) kbFr.rf (kbFr.up (by decide) (by decide) (fr_lp_MD_twoWays_121 ex8))
    exact kbFr.tr fx8 (ih h)
theorem fr_jn_MD_twoWays_186 {n : Nat} {w0 : Int32} {μ : kbM} {x : Int32 × kbM} (h : jn_MD_twoWays_186 n w0 μ = some x) : kbFr [] [] μ x.2 := by
  unfold jn_MD_twoWays_186 at h
  cases h
  exact kbFr.rf
theorem fr_f_MD_twoWays {n : Nat} {μ : kbM} {x : Int32 × kbM} (h : f_MD_twoWays n μ = some x) : kbFr [86] [3, 45] μ x.2 := by
  unfold f_MD_twoWays at h
  obtain ⟨x1, ex1, h⟩ := kb_bind h
  have fx1 := kbFr.tr (C := [86]) (S := [3, 45]) (kbFr.w57 (kbFr.w57 kbFr.rf (by decide)) (by decide)) (kbFr.up (by decide) (by decide) (fr_lp_MD_twoWays_13 ex1))
  obtain ⟨x6, ex6, h⟩ := kb_bind h
  have fx6 := kbFr.tr (C := [86]) (S := [3, 45]) fx1 (kbFr.up (by decide) (by decide) (fr_lp_MD_twoWays_36 ex6))
  obtain ⟨x9, ex9, h⟩ := kb_bind h
  have fx9 := kbFr.tr (C := [86]) (S := [3, 45]) fx6 (kbFr.up (by decide) (by decide) (fr_lp_MD_twoWays_113 ex9))
  rcases kb_ite h with h | h
  · skip
    exact kbFr.tr fx9 (kbFr.up (by decide) (by decide) (fr_jn_MD_twoWays_186 h))
  exact kbFr.tr fx9 (kbFr.up (by decide) (by decide) (fr_jn_MD_twoWays_186 h))
theorem fr_f_MD_prefixes {n : Nat} {μ : kbM} {x : Int32 × kbM} (h : f_MD_prefixes n μ = some x) : kbFr [] [3] μ x.2 := by
  unfold f_MD_prefixes at h
  obtain ⟨x3, ex3, h⟩ := kb_bind h
  cases h
  exact (kbFr.w57 kbFr.rf (by decide))
theorem fr_f_MD_tellApart {n : Nat} {μ : kbM} {x : Int32 × kbM} (h : f_MD_tellApart n μ = some x) : kbFr [] [3] μ x.2 := by
  unfold f_MD_tellApart at h
  obtain ⟨x4, ex4, h⟩ := kb_bind h
  cases h
  exact (kbFr.w57 kbFr.rf (by decide))
theorem fr_jn_MD_newWord_59 {n : Nat} {v1 : Int32} {v2 : Int32} {μ : kbM} {rec : Int32 → Option ((Int32 × kbM) ⊕ (Unit))} (hrec : ∀ {y0 : Int32} {x : (Int32 × kbM) ⊕ (Unit)}, rec y0 = some x → Sum.elim (fun z => kbFr [] [] μ z.2) (fun _ => True) x) {x : (Int32 × kbM) ⊕ (Unit)} (h : jn_MD_newWord_59 n rec v1 v2 μ = some x) : Sum.elim (fun z => kbFr [] [] μ z.2) (fun _ => True) x := by
  unfold jn_MD_newWord_59 at h
  exact (hrec h)
theorem fr_lp_MD_newWord_33 {n : Nat} {v1 : Int32} {μ : kbM} {k : Nat} : ∀ {v2 : Int32} {x : (Int32 × kbM) ⊕ (Unit)}, lp_MD_newWord_33 n v1 μ k v2 = some x → Sum.elim (fun z => kbFr [] [] μ z.2) (fun _ => True) x := by
  induction k with
  | zero => intro v2 x h; cases h
  | succ k ih =>
    intro v2 x h
    unfold lp_MD_newWord_33 at h
    obtain ⟨x2, ex2, h⟩ := kb_bind h
    rcases kb_ite h with h | h
    · skip
      cases h
      exact trivial
    obtain ⟨x3, ex3, h⟩ := kb_bind h
    rcases kb_ite h with h | h
    · skip
      have q := (fr_jn_MD_newWord_59 (fun h => ih h) h)
      cases x with
      | inl z => exact kbFr.tr kbFr.rf (kbFr.up (by decide) (by decide) q)
      | inr z => exact trivial
    obtain ⟨x4, ex4, h⟩ := kb_bind h
    rcases kb_ite h with h | h
    · skip
      have q := (fr_jn_MD_newWord_59 (fun h => ih h) h)
      cases x with
      | inl z => exact kbFr.tr kbFr.rf (kbFr.up (by decide) (by decide) q)
      | inr z => exact trivial
    cases h
    exact kbFr.rf
theorem fr_f_MD_newWord {n : Nat} {a1 : Int32} {μ : kbM} {x : Int32 × kbM} (h : f_MD_newWord n a1 μ = some x) : kbFr [] [3] μ x.2 := by
  unfold f_MD_newWord at h
  obtain ⟨x1, ex1, h⟩ := kb_bind h
  rcases kb_ite h with h | h
  · skip
    obtain ⟨x7, ex7, h⟩ := kb_bind h
    have fx7 := kbFr.tr (C := []) (S := [3]) (kbFr.w57 kbFr.rf (by decide)) (kbFr.up (by decide) (by decide) (fr_f_MD_fail ex7))
    cases h
    exact fx7
  rcases kb_orS h with ⟨r6, er6, h⟩ | ⟨x5, ex5, h⟩
  · skip
    have fr6 := kbFr.tr (C := []) (S := [3]) (kbFr.w57 kbFr.rf (by decide)) (kbFr.up (by decide) (by decide) (fr_lp_MD_newWord_33 er6))
    cases h
    exact fr6
  cases h
  exact (kbFr.w57 kbFr.rf (by decide))
theorem fr_jn_MD_span_45 {n : Nat} {w0 : Int32} {μ : kbM} {x : Int32 × kbM} (h : jn_MD_span_45 n w0 μ = some x) : kbFr [] [] μ x.2 := by
  unfold jn_MD_span_45 at h
  cases h
  exact kbFr.rf
theorem fr_jn_MD_span_40 {n : Nat} {μ : kbM} {x : Int32 × kbM} (h : jn_MD_span_40 n μ = some x) : kbFr [] [3] μ x.2 := by
  unfold jn_MD_span_40 at h
  obtain ⟨x2, ex2, h⟩ := kb_bind h
  have fx2 := kbFr.tr (C := []) (S := [3]) kbFr.rf (kbFr.up (by decide) (by decide) (fr_f_MD_fail ex2))
  exact kbFr.tr fx2 (kbFr.up (by decide) (by decide) (fr_jn_MD_span_45 h))
theorem fr_f_MD_span {n : Nat} {a1 : Int32} {a2 : Int32} {μ : kbM} {x : Int32 × kbM} (h : f_MD_span n a1 a2 μ = some x) : kbFr [81, 82, 83] [3] μ x.2 := by
  unfold f_MD_span at h
  obtain ⟨x1, ex1, h⟩ := kb_bind h
  rcases kb_ite h with h | h
  · skip
    exact kbFr.tr (kbFr.w57 kbFr.rf (by decide)) (kbFr.up (by decide) (by decide) (fr_jn_MD_span_40 h))
  obtain ⟨x3, ex3, h⟩ := kb_bind h
  rcases kb_ite h with h | h
  · skip
    exact kbFr.tr (kbFr.w57 kbFr.rf (by decide)) (kbFr.up (by decide) (by decide) (fr_jn_MD_span_40 h))
  replace h := (kbIf_some h).2
  replace h := (kbIf_some h).2
  obtain ⟨x4, ex4, h⟩ := kb_bind h
  have fx4 := kbFr.tr (C := [81, 82, 83]) (S := [3]) (kbFr.w57 kbFr.rf (by decide)) (kbFr.up (by decide) (by decide) (fr_f_MD_apartBy ex4))
  exact kbFr.tr fx4 (kbFr.up (by decide) (by decide) (fr_jn_MD_span_45 h))
theorem fr_jn_MD_closest_14 {n : Nat} {μ : kbM} {x : Int32 × kbM} (h : jn_MD_closest_14 n μ = some x) : kbFr [] [3] μ x.2 := by
  unfold jn_MD_closest_14 at h
  obtain ⟨x1, ex1, h⟩ := kb_bind h
  have fx1 := kbFr.tr (C := []) (S := [3]) kbFr.rf (kbFr.up (by decide) (by decide) (fr_f_MD_fail ex1))
  cases h
  exact fx1
theorem fr_jn_MD_closest_93 {n : Nat} {v1 : Int32} {v2 : Int32} {v3 : Int32} {v4 : Int32} {v5 : Int32} {μ : kbM} {rec : Int32 → Int32 → Int32 → kbM → Option (Int32 × Int32 × kbM)} (hrec : ∀ {y0 : Int32} {y1 : Int32} {y2 : Int32} {y3 : kbM} {x : Int32 × Int32 × kbM}, rec y0 y1 y2 y3 = some x → kbFr [81, 82, 83] [] y3 x.2.2) {x : Int32 × Int32 × kbM} (h : jn_MD_closest_93 n rec v1 v2 v3 v4 v5 μ = some x) : kbFr [81, 82, 83] [] μ x.2.2 := by
  unfold jn_MD_closest_93 at h
  exact kbFr.tr kbFr.rf (hrec h)
theorem fr_lp_MD_closest_43 {n : Nat} {v1 : Int32} {v4 : Int32} {k : Nat} : ∀ {v2 : Int32} {v3 : Int32} {v5 : Int32} {μ : kbM} {x : Int32 × Int32 × kbM}, lp_MD_closest_43 n v1 v4 k v2 v3 v5 μ = some x → kbFr [81, 82, 83] [] μ x.2.2 := by
  induction k with
  | zero => intro v2 v3 v5 μ x h; cases h
  | succ k ih =>
    intro v2 v3 v5 μ x h
    unfold lp_MD_closest_43 at h
    rcases kb_ite h with h | h
    · skip
      cases h
      exact kbFr.rf
    replace h := (kbIf_some h).2
    replace h := (kbIf_some h).2
    obtain ⟨x2, ex2, h⟩ := kb_bind h
    have fx2 := kbFr.tr (C := [81, 82, 83]) (S := []) kbFr.rf (kbFr.up (by decide) (by decide) (fr_f_MD_apartBy ex2))
    rcases kb_ite h with h | h
    · skip
      exact kbFr.tr fx2 (kbFr.up (by decide) (by decide) (fr_jn_MD_closest_93 (fun h => ih h) h))
    exact kbFr.tr fx2 (kbFr.up (by decide) (by decide) (fr_jn_MD_closest_93 (fun h => ih h) h))
theorem fr_lp_MD_closest_28 {n : Nat} {v1 : Int32} {k : Nat} : ∀ {v2 : Int32} {v3 : Int32} {v4 : Int32} {μ : kbM} {x : Int32 × Int32 × kbM}, lp_MD_closest_28 n v1 k v2 v3 v4 μ = some x → kbFr [81, 82, 83] [] μ x.2.2 := by
  induction k with
  | zero => intro v2 v3 v4 μ x h; cases h
  | succ k ih =>
    intro v2 v3 v4 μ x h
    unfold lp_MD_closest_28 at h
    rcases kb_ite h with h | h
    · skip
      cases h
      exact kbFr.rf
    obtain ⟨x3, ex3, h⟩ := kb_bind h
    have fx3 := kbFr.tr (C := [81, 82, 83]) (S := []) kbFr.rf (kbFr.up (by decide) (by decide) (fr_lp_MD_closest_43 ex3))
    exact kbFr.tr fx3 (ih h)
theorem fr_jn_MD_closest_120 {n : Nat} {w0 : Int32} {μ : kbM} {x : Int32 × kbM} (h : jn_MD_closest_120 n w0 μ = some x) : kbFr [] [] μ x.2 := by
  unfold jn_MD_closest_120 at h
  cases h
  exact kbFr.rf
theorem fr_jn_MD_closest_115 {n : Nat} {v2 : Int32} {μ : kbM} {x : Int32 × kbM} (h : jn_MD_closest_115 n v2 μ = some x) : kbFr [] [] μ x.2 := by
  unfold jn_MD_closest_115 at h
  exact kbFr.tr kbFr.rf (kbFr.up (by decide) (by decide) (fr_jn_MD_closest_120 h))
theorem fr_f_MD_closest {n : Nat} {a1 : Int32} {μ : kbM} {x : Int32 × kbM} (h : f_MD_closest n a1 μ = some x) : kbFr [81, 82, 83] [3] μ x.2 := by
  unfold f_MD_closest at h
  rcases kb_ite h with h | h
  · skip
    exact kbFr.tr (kbFr.w57 kbFr.rf (by decide)) (kbFr.up (by decide) (by decide) (fr_jn_MD_closest_14 h))
  rcases kb_ite h with h | h
  · skip
    obtain ⟨x4, ex4, h⟩ := kb_bind h
    have fx4 := kbFr.tr (C := [81, 82, 83]) (S := [3]) (kbFr.w57 kbFr.rf (by decide)) (kbFr.up (by decide) (by decide) (fr_lp_MD_closest_28 ex4))
    rcases kb_ite h with h | h
    · skip
      exact kbFr.tr fx4 (kbFr.up (by decide) (by decide) (fr_jn_MD_closest_115 h))
    rcases kb_ite h with h | h
    · skip
      exact kbFr.tr fx4 (kbFr.up (by decide) (by decide) (fr_jn_MD_closest_115 h))
    exact kbFr.tr fx4 (kbFr.up (by decide) (by decide) (fr_jn_MD_closest_120 h))
  exact kbFr.tr (kbFr.w57 kbFr.rf (by decide)) (kbFr.up (by decide) (by decide) (fr_jn_MD_closest_14 h))
theorem fr_jn_MD_said_148 {n : Nat} {v1 : Int32} {v2 : Int32} {v3 : Int32} {v4 : Int32} {v5 : Int32} {v6 : Int32} {v7 : Int32} {μ : kbM} {rec : Int32 → Int32 → kbM → Option (Int32 × kbM)} (hrec : ∀ {y0 : Int32} {y1 : Int32} {y2 : kbM} {x : Int32 × kbM}, rec y0 y1 y2 = some x → kbFr [74, 75] [] y2 x.2) {x : Int32 × kbM} (h : jn_MD_said_148 n rec v1 v2 v3 v4 v5 v6 v7 μ = some x) : kbFr [74, 75] [] μ x.2 := by
  unfold jn_MD_said_148 at h
  exact kbFr.tr kbFr.rf (hrec h)
theorem fr_lp_MD_said_79 {n : Nat} {v1 : Int32} {v2 : Int32} {v3 : Int32} {v4 : Int32} {v5 : Int32} {k : Nat} : ∀ {v6 : Int32} {v7 : Int32} {μ : kbM} {x : Int32 × kbM}, lp_MD_said_79 n v1 v2 v3 v4 v5 k v6 v7 μ = some x → kbFr [74, 75] [] μ x.2 := by
  induction k with
  | zero => intro v6 v7 μ x h; cases h
  | succ k ih =>
    intro v6 v7 μ x h
    unfold lp_MD_said_79 at h
    rcases kb_ite h with h | h
    · skip
      cases h
      exact kbFr.rf
    rcases kb_ite h with h | h
    · skip
      cases h
      exact kbFr.rf
    replace h := (kbIf_some h).2
    rcases kb_ite h with h | h
    · skip
      exact kbFr.tr kbFr.rf (kbFr.up (by decide) (by decide) (fr_jn_MD_said_148 (fun h => ih h) h))
    obtain ⟨x3, ex3, h⟩ := kb_bind h
    have fx3 := kbFr.tr (C := [74, 75]) (S := []) kbFr.rf (kbFr.up (by decide) (by decide) (fr_f_MD_joins ex3))
    rcases kb_ite h with h | h
    · skip
      exact kbFr.tr fx3 (kbFr.up (by decide) (by decide) (fr_jn_MD_said_148 (fun h => ih h) h))
    replace h := (kbIf_some h).2
    replace h := (kbIf_some h).2
    exact kbFr.tr fx3 (kbFr.up (by decide) (by decide) (fr_jn_MD_said_148 (fun h => ih h) h))
theorem fr_jn_MD_said_154 {n : Nat} {v1 : Int32} {v2 : Int32} {v3 : Int32} {v4 : Int32} {v6 : Int32} {μ : kbM} {rec : Int32 → Int32 → kbM → Option (Int32 × kbM)} (hrec : ∀ {y0 : Int32} {y1 : Int32} {y2 : kbM} {x : Int32 × kbM}, rec y0 y1 y2 = some x → kbFr [74, 75, 87] [] y2 x.2) {x : Int32 × kbM} (h : jn_MD_said_154 n rec v1 v2 v3 v4 v6 μ = some x) : kbFr [74, 75, 87] [] μ x.2 := by
  unfold jn_MD_said_154 at h
  replace h := (kbIf_some h).2
  exact kbFr.tr (kbFr.w kbFr.rf (by decide)) (hrec h)
theorem fr_jn_MD_said_74 {n : Nat} {v1 : Int32} {v2 : Int32} {v3 : Int32} {v4 : Int32} {v5 : Int32} {w0 : Int32} {μ : kbM} {rec : Int32 → Int32 → kbM → Option (Int32 × kbM)} (hrec : ∀ {y0 : Int32} {y1 : Int32} {y2 : kbM} {x : Int32 × kbM}, rec y0 y1 y2 = some x → kbFr [74, 75, 87] [] y2 x.2) {x : Int32 × kbM} (h : jn_MD_said_74 n rec v1 v2 v3 v4 v5 w0 μ = some x) : kbFr [74, 75, 87] [] μ x.2 := by
  unfold jn_MD_said_74 at h
  obtain ⟨x4, ex4, h⟩ := kb_bind h
  have fx4 := kbFr.tr (C := [74, 75, 87]) (S := []) kbFr.rf (kbFr.up (by decide) (by decide) (fr_lp_MD_said_79 ex4))
  exact kbFr.tr fx4 (kbFr.up (by decide) (by decide) (fr_jn_MD_said_154 hrec h))
theorem fr_lp_MD_said_35 {n : Nat} {v1 : Int32} {v3 : Int32} {k : Nat} : ∀ {v2 : Int32} {v4 : Int32} {μ : kbM} {x : Int32 × kbM}, lp_MD_said_35 n v1 v3 k v2 v4 μ = some x → kbFr [74, 75, 87] [] μ x.2 := by
  induction k with
  | zero => intro v2 v4 μ x h; cases h
  | succ k ih =>
    intro v2 v4 μ x h
    unfold lp_MD_said_35 at h
    rcases kb_ite h with h | h
    · skip
      cases h
      exact kbFr.rf
    replace h := (kbIf_some h).2
    obtain ⟨x2, ex2, h⟩ := kb_bind h
    rcases kb_ite h with h | h
    · skip
      replace h := (kbIf_some h).2
      exact kbFr.tr kbFr.rf (kbFr.up (by decide) (by decide) (fr_jn_MD_said_74 (fun h => ih h) h))
    exact kbFr.tr kbFr.rf (kbFr.up (by decide) (by decide) (fr_jn_MD_said_74 (fun h => ih h) h))
theorem fr_lp_MD_said_27 {n : Nat} {v1 : Int32} {k : Nat} : ∀ {v2 : Int32} {v3 : Int32} {μ : kbM} {x : Int32 × kbM}, lp_MD_said_27 n v1 k v2 v3 μ = some x → kbFr [74, 75, 87] [] μ x.2 := by
  induction k with
  | zero => intro v2 v3 μ x h; cases h
  | succ k ih =>
    intro v2 v3 μ x h
    unfold lp_MD_said_27 at h
    rcases kb_ite h with h | h
    · skip
      cases h
      exact kbFr.rf
    obtain ⟨x5, ex5, h⟩ := kb_bind h
    have fx5 := kbFr.tr (C := [74, 75, 87]) (S := []) kbFr.rf (kbFr.up (by decide) (by decide) (fr_lp_MD_said_35 ex5))
    exact kbFr.tr fx5 (ih h)
theorem fr_f_MD_said {n : Nat} {a1 : Int32} {μ : kbM} {x : Int32 × kbM} (h : f_MD_said n a1 μ = some x) : kbFr [74, 75, 87] [3] μ x.2 := by
  unfold f_MD_said at h
  obtain ⟨x1, ex1, h⟩ := kb_bind h
  rcases kb_ite h with h | h
  · skip
    obtain ⟨x7, ex7, h⟩ := kb_bind h
    have fx7 := kbFr.tr (C := [74, 75, 87]) (S := [3]) (kbFr.w57 kbFr.rf (by decide)) (kbFr.up (by decide) (by decide) (fr_f_MD_fail ex7))
    cases h
    exact fx7
  obtain ⟨x6, ex6, h⟩ := kb_bind h
  have fx6 := kbFr.tr (C := [74, 75, 87]) (S := [3]) (kbFr.w57 kbFr.rf (by decide)) (kbFr.up (by decide) (by decide) (fr_lp_MD_said_27 ex6))
  cases h
  exact fx6
theorem fr_jn_MD_howMany_120 {n : Nat} {v1 : Int32} {v2 : Int64} {v4 : Int32} {v5 : Int32} {v6 : Int32} {v7 : Int64} {v9 : Int32} {μ : kbM} {rec : Int64 → Int32 → kbM → Option (Int64 × kbM)} (hrec : ∀ {y0 : Int64} {y1 : Int32} {y2 : kbM} {x : Int64 × kbM}, rec y0 y1 y2 = some x → kbFr [74, 75] [] y2 x.2) {x : Int64 × kbM} (h : jn_MD_howMany_120 n rec v1 v2 v4 v5 v6 v7 v9 μ = some x) : kbFr [74, 75] [] μ x.2 := by
  unfold jn_MD_howMany_120 at h
  exact kbFr.tr kbFr.rf (hrec h)
theorem fr_lp_MD_howMany_77 {n : Nat} {v1 : Int32} {v2 : Int64} {v4 : Int32} {v5 : Int32} {v6 : Int32} {k : Nat} : ∀ {v7 : Int64} {v9 : Int32} {μ : kbM} {x : Int64 × kbM}, lp_MD_howMany_77 n v1 v2 v4 v5 v6 k v7 v9 μ = some x → kbFr [74, 75] [] μ x.2 := by
  induction k with
  | zero => intro v7 v9 μ x h; cases h
  | succ k ih =>
    intro v7 v9 μ x h
    unfold lp_MD_howMany_77 at h
    rcases kb_ite h with h | h
    · skip
      cases h
      exact kbFr.rf
    rcases kb_ite h with h | h
    · skip
      cases h
      exact kbFr.rf
    obtain ⟨x3, ex3, h⟩ := kb_bind h
    have fx3 := kbFr.tr (C := [74, 75]) (S := []) kbFr.rf (kbFr.up (by decide) (by decide) (fr_f_MD_joins ex3))
    rcases kb_ite h with h | h
    · skip
      exact kbFr.tr fx3 (kbFr.up (by decide) (by decide) (fr_jn_MD_howMany_120 (fun h => ih h) h))
    replace h := (kbIf_some h).2
    exact kbFr.tr fx3 (kbFr.up (by decide) (by decide) (fr_jn_MD_howMany_120 (fun h => ih h) h))
theorem fr_jn_MD_howMany_154 {n : Nat} {v1 : Int32} {v4 : Int32} {v5 : Int32} {w0 : Int64} {w1 : Int64} {μ : kbM} {rec : Int64 → Int32 → kbM → Option (Int64 × kbM)} (hrec : ∀ {y0 : Int64} {y1 : Int32} {y2 : kbM} {x : Int64 × kbM}, rec y0 y1 y2 = some x → kbFr [74, 75, 88] [] y2 x.2) {x : Int64 × kbM} (h : jn_MD_howMany_154 n rec v1 v4 v5 w0 w1 μ = some x) : kbFr [74, 75, 88] [] μ x.2 := by
  unfold jn_MD_howMany_154 at h
  exact kbFr.tr kbFr.rf (hrec h)
theorem fr_jn_MD_howMany_126 {n : Nat} {v1 : Int32} {v2 : Int64} {v4 : Int32} {v5 : Int32} {v7 : Int64} {μ : kbM} {rec : Int64 → Int32 → kbM → Option (Int64 × kbM)} (hrec : ∀ {y0 : Int64} {y1 : Int32} {y2 : kbM} {x : Int64 × kbM}, rec y0 y1 y2 = some x → kbFr [74, 75, 88] [] y2 x.2) {x : Int64 × kbM} (h : jn_MD_howMany_126 n rec v1 v2 v4 v5 v7 μ = some x) : kbFr [74, 75, 88] [] μ x.2 := by
  unfold jn_MD_howMany_126 at h
  replace h := (kbIf_some h).2
  rcases kb_ite h with h | h
  · skip
    exact kbFr.tr (kbFr.x kbFr.rf (by decide)) (kbFr.up (by decide) (by decide) (fr_jn_MD_howMany_154 hrec h))
  exact kbFr.tr (kbFr.x kbFr.rf (by decide)) (kbFr.up (by decide) (by decide) (fr_jn_MD_howMany_154 hrec h))
theorem fr_jn_MD_howMany_72 {n : Nat} {v1 : Int32} {v2 : Int64} {v4 : Int32} {v5 : Int32} {v6 : Int32} {w0 : Int64} {μ : kbM} {rec : Int64 → Int32 → kbM → Option (Int64 × kbM)} (hrec : ∀ {y0 : Int64} {y1 : Int32} {y2 : kbM} {x : Int64 × kbM}, rec y0 y1 y2 = some x → kbFr [74, 75, 88] [] y2 x.2) {x : Int64 × kbM} (h : jn_MD_howMany_72 n rec v1 v2 v4 v5 v6 w0 μ = some x) : kbFr [74, 75, 88] [] μ x.2 := by
  unfold jn_MD_howMany_72 at h
  obtain ⟨x4, ex4, h⟩ := kb_bind h
  have fx4 := kbFr.tr (C := [74, 75, 88]) (S := []) kbFr.rf (kbFr.up (by decide) (by decide) (fr_lp_MD_howMany_77 ex4))
  exact kbFr.tr fx4 (kbFr.up (by decide) (by decide) (fr_jn_MD_howMany_126 hrec h))
theorem fr_lp_MD_howMany_38 {n : Nat} {v1 : Int32} {v4 : Int32} {k : Nat} : ∀ {v2 : Int64} {v5 : Int32} {μ : kbM} {x : Int64 × kbM}, lp_MD_howMany_38 n v1 v4 k v2 v5 μ = some x → kbFr [74, 75, 88] [] μ x.2 := by
  induction k with
  | zero => intro v2 v5 μ x h; cases h
  | succ k ih =>
    intro v2 v5 μ x h
    unfold lp_MD_howMany_38 at h
    rcases kb_ite h with h | h
    · skip
      cases h
      exact kbFr.rf
    replace h := (kbIf_some h).2
    obtain ⟨x2, ex2, h⟩ := kb_bind h
    rcases kb_ite h with h | h
    · skip
      exact kbFr.tr kbFr.rf (kbFr.up (by decide) (by decide) (fr_jn_MD_howMany_72 (fun h => ih h) h))
    exact kbFr.tr kbFr.rf (kbFr.up (by decide) (by decide) (fr_jn_MD_howMany_72 (fun h => ih h) h))
theorem fr_lp_MD_howMany_29 {n : Nat} {v1 : Int32} {k : Nat} : ∀ {v2 : Int64} {v4 : Int32} {μ : kbM} {x : Int64 × kbM}, lp_MD_howMany_29 n v1 k v2 v4 μ = some x → kbFr [74, 75, 88] [] μ x.2 := by
  induction k with
  | zero => intro v2 v4 μ x h; cases h
  | succ k ih =>
    intro v2 v4 μ x h
    unfold lp_MD_howMany_29 at h
    rcases kb_ite h with h | h
    · skip
      cases h
      exact kbFr.rf
    obtain ⟨x5, ex5, h⟩ := kb_bind h
    have fx5 := kbFr.tr (C := [74, 75, 88]) (S := []) kbFr.rf (kbFr.up (by decide) (by decide) (fr_lp_MD_howMany_38 ex5))
    exact kbFr.tr fx5 (ih h)
theorem fr_f_MD_howMany {n : Nat} {a1 : Int32} {μ : kbM} {x : Int64 × kbM} (h : f_MD_howMany n a1 μ = some x) : kbFr [74, 75, 88] [3] μ x.2 := by
  unfold f_MD_howMany at h
  obtain ⟨x1, ex1, h⟩ := kb_bind h
  rcases kb_ite h with h | h
  · skip
    obtain ⟨x7, ex7, h⟩ := kb_bind h
    have fx7 := kbFr.tr (C := [74, 75, 88]) (S := [3]) (kbFr.w57 kbFr.rf (by decide)) (kbFr.up (by decide) (by decide) (fr_f_MD_fail ex7))
    cases h
    exact fx7
  obtain ⟨x6, ex6, h⟩ := kb_bind h
  have fx6 := kbFr.tr (C := [74, 75, 88]) (S := [3]) (kbFr.w57 kbFr.rf (by decide)) (kbFr.up (by decide) (by decide) (fr_lp_MD_howMany_29 ex6))
  cases h
  exact fx6
theorem fr_jn_MD_hear_35 {n : Nat} {μ : kbM} {x : Int32 × kbM} (h : jn_MD_hear_35 n μ = some x) : kbFr [68] [] μ x.2 := by
  unfold jn_MD_hear_35 at h
  obtain ⟨x2, ex2, h⟩ := kb_bind h
  have fx2 := kbFr.tr (C := [68]) (S := []) kbFr.rf (kbFr.up (by decide) (by decide) (fr_f_MD_refuse ex2))
  cases h
  exact fx2
theorem fr_f_MD_hear {n : Nat} {a1 : Int32} {a2 : Int32} {μ : kbM} {x : Int32 × kbM} (h : f_MD_hear n a1 a2 μ = some x) : kbFr [68, 89, 90] [3, 30] μ x.2 := by
  unfold f_MD_hear at h
  obtain ⟨x1, ex1, h⟩ := kb_bind h
  rcases kb_ite h with h | h
  · skip
    obtain ⟨x4, ex4, h⟩ := kb_bind h
    have fx4 := kbFr.tr (C := [68, 89, 90]) (S := [3, 30]) (kbFr.w57 kbFr.rf (by decide)) (kbFr.up (by decide) (by decide) (fr_f_MD_fail ex4))
    cases h
    exact fx4
  rcases kb_ite h with h | h
  · skip
    exact kbFr.tr (kbFr.w57 kbFr.rf (by decide)) (kbFr.up (by decide) (by decide) (fr_jn_MD_hear_35 h))
  obtain ⟨x3, ex3, h⟩ := kb_bind h
  rcases kb_ite h with h | h
  · skip
    exact kbFr.tr (kbFr.w57 kbFr.rf (by decide)) (kbFr.up (by decide) (by decide) (fr_jn_MD_hear_35 h))
  replace h := (kbIf_some h).2
  replace h := (kbIf_some h).2
  cases h
  exact (kbFr.w57 (kbFr.w (kbFr.w (kbFr.w57 kbFr.rf (by decide)) (by decide)) (by decide)) (by decide))
theorem fr_f_MD_which {n : Nat} {μ : kbM} {x : Int32 × kbM} (h : f_MD_which n μ = some x) : kbFr [] [3] μ x.2 := by
  unfold f_MD_which at h
  obtain ⟨x1, ex1, h⟩ := kb_bind h
  cases h
  exact (kbFr.w57 kbFr.rf (by decide))
theorem fr_jn_MD_listen_14 {n : Nat} {μ : kbM} {x : Int32 × kbM} (h : jn_MD_listen_14 n μ = some x) : kbFr [] [3] μ x.2 := by
  unfold jn_MD_listen_14 at h
  obtain ⟨x1, ex1, h⟩ := kb_bind h
  have fx1 := kbFr.tr (C := []) (S := [3]) kbFr.rf (kbFr.up (by decide) (by decide) (fr_f_MD_fail ex1))
  cases h
  exact fx1
theorem fr_jn_MD_listen_86 {n : Nat} {w0 : Int32} {μ : kbM} {x : Int32 × kbM} (h : jn_MD_listen_86 n w0 μ = some x) : kbFr [] [] μ x.2 := by
  unfold jn_MD_listen_86 at h
  cases h
  exact kbFr.rf
theorem fr_f_MD_listen {n : Nat} {a1 : Int32} {μ : kbM} {x : Int32 × kbM} (h : f_MD_listen n a1 μ = some x) : kbFr [] [3] μ x.2 := by
  unfold f_MD_listen at h
  rcases kb_ite h with h | h
  · skip
    exact kbFr.tr (kbFr.w57 kbFr.rf (by decide)) (kbFr.up (by decide) (by decide) (fr_jn_MD_listen_14 h))
  rcases kb_ite h with h | h
  · skip
    obtain ⟨x2, ex2, h⟩ := kb_bind h
    obtain ⟨x4, ex4, h⟩ := kb_bind h
    rcases kb_ite h with h | h
    · skip
      exact kbFr.tr (kbFr.w57 kbFr.rf (by decide)) (kbFr.up (by decide) (by decide) (fr_jn_MD_listen_86 h))
    exact kbFr.tr (kbFr.w57 kbFr.rf (by decide)) (kbFr.up (by decide) (by decide) (fr_jn_MD_listen_86 h))
  exact kbFr.tr (kbFr.w57 kbFr.rf (by decide)) (kbFr.up (by decide) (by decide) (fr_jn_MD_listen_14 h))
theorem fr_f_MD_forget {μ : kbM} {x : kbM} (h : f_MD_forget μ = some x) : kbFr [] [3, 30] μ x := by
  unfold f_MD_forget at h
  cases h
  exact (kbFr.w57 (kbFr.w57 kbFr.rf (by decide)) (by decide))
theorem fr_jn_MD_isTold_24 {n : Nat} {w0 : Int32} {μ : kbM} {x : Int32 × kbM} (h : jn_MD_isTold_24 n w0 μ = some x) : kbFr [] [] μ x.2 := by
  unfold jn_MD_isTold_24 at h
  replace h := (kbIf_some h).2
  cases h
  exact kbFr.rf
theorem fr_f_MD_isTold {n : Nat} {a1 : Int32} {a2 : Int32} {μ : kbM} {x : Int32 × kbM} (h : f_MD_isTold n a1 a2 μ = some x) : kbFr [81, 82, 83] [] μ x.2 := by
  unfold f_MD_isTold at h
  replace h := (kbIf_some h).2
  obtain ⟨x1, ex1, h⟩ := kb_bind h
  obtain ⟨x2, ex2, h⟩ := kb_bind h
  have fx2 := kbFr.tr (C := [81, 82, 83]) (S := []) kbFr.rf (kbFr.up (by decide) (by decide) (fr_f_MD_nearestTo ex2))
  rcases kb_ite h with h | h
  · skip
    exact kbFr.tr fx2 (kbFr.up (by decide) (by decide) (fr_jn_MD_isTold_24 h))
  exact kbFr.tr fx2 (kbFr.up (by decide) (by decide) (fr_jn_MD_isTold_24 h))
theorem fr_jn_MD_telegraph_21 {n : Nat} {μ : kbM} {x : Int32 × kbM} (h : jn_MD_telegraph_21 n μ = some x) : kbFr [] [3] μ x.2 := by
  unfold jn_MD_telegraph_21 at h
  obtain ⟨x2, ex2, h⟩ := kb_bind h
  have fx2 := kbFr.tr (C := []) (S := [3]) kbFr.rf (kbFr.up (by decide) (by decide) (fr_f_MD_fail ex2))
  cases h
  exact fx2
theorem fr_jn_MD_telegraph_79 {n : Nat} {v1 : Int32} {v2 : Int32} {v4 : Int32} {w0 : Int32} {w1 : Int32} {μ : kbM} {rec : Int32 → Int32 → kbM → Option (Int32 × kbM)} (hrec : ∀ {y0 : Int32} {y1 : Int32} {y2 : kbM} {x : Int32 × kbM}, rec y0 y1 y2 = some x → kbFr [81, 82, 83] [] y2 x.2) {x : Int32 × kbM} (h : jn_MD_telegraph_79 n rec v1 v2 v4 w0 w1 μ = some x) : kbFr [81, 82, 83] [] μ x.2 := by
  unfold jn_MD_telegraph_79 at h
  exact kbFr.tr kbFr.rf (hrec h)
theorem fr_jn_MD_telegraph_78 {n : Nat} {v1 : Int32} {v2 : Int32} {v4 : Int32} {w0 : Int32} {μ : kbM} {rec : Int32 → Int32 → kbM → Option (Int32 × kbM)} (hrec : ∀ {y0 : Int32} {y1 : Int32} {y2 : kbM} {x : Int32 × kbM}, rec y0 y1 y2 = some x → kbFr [81, 82, 83] [] y2 x.2) {x : Int32 × kbM} (h : jn_MD_telegraph_78 n rec v1 v2 v4 w0 μ = some x) : kbFr [81, 82, 83] [] μ x.2 := by
  unfold jn_MD_telegraph_78 at h
  exact kbFr.tr kbFr.rf (kbFr.up (by decide) (by decide) (fr_jn_MD_telegraph_79 hrec h))
theorem fr_lp_MD_telegraph_32 {n : Nat} {v1 : Int32} {v2 : Int32} {k : Nat} : ∀ {v3 : Int32} {v4 : Int32} {μ : kbM} {x : Int32 × kbM}, lp_MD_telegraph_32 n v1 v2 k v3 v4 μ = some x → kbFr [81, 82, 83] [] μ x.2 := by
  induction k with
  | zero => intro v3 v4 μ x h; cases h
  | succ k ih =>
    intro v3 v4 μ x h
    unfold lp_MD_telegraph_32 at h
    rcases kb_ite h with h | h
    · skip
      cases h
      exact kbFr.rf
    replace h := (kbIf_some h).2
    replace h := (kbIf_some h).2
    obtain ⟨x4, ex4, h⟩ := kb_bind h
    rcases kb_ite h with h | h
    · skip
      exact kbFr.tr kbFr.rf (kbFr.up (by decide) (by decide) (fr_jn_MD_telegraph_78 (fun h => ih h) h))
    obtain ⟨x5, ex5, h⟩ := kb_bind h
    have fx5 := kbFr.tr (C := [81, 82, 83]) (S := []) kbFr.rf (kbFr.up (by decide) (by decide) (fr_f_MD_isTold ex5))
    rcases kb_ite h with h | h
    · skip
      exact kbFr.tr fx5 (kbFr.up (by decide) (by decide) (fr_jn_MD_telegraph_78 (fun h => ih h) h))
    exact kbFr.tr fx5 (kbFr.up (by decide) (by decide) (fr_jn_MD_telegraph_79 (fun h => ih h) h))
theorem fr_f_MD_telegraph {n : Nat} {a1 : Int32} {a2 : Int32} {μ : kbM} {x : Int32 × kbM} (h : f_MD_telegraph n a1 a2 μ = some x) : kbFr [81, 82, 83] [3] μ x.2 := by
  unfold f_MD_telegraph at h
  obtain ⟨x1, ex1, h⟩ := kb_bind h
  rcases kb_ite h with h | h
  · skip
    exact kbFr.tr (kbFr.w57 kbFr.rf (by decide)) (kbFr.up (by decide) (by decide) (fr_jn_MD_telegraph_21 h))
  obtain ⟨x3, ex3, h⟩ := kb_bind h
  rcases kb_ite h with h | h
  · skip
    exact kbFr.tr (kbFr.w57 kbFr.rf (by decide)) (kbFr.up (by decide) (by decide) (fr_jn_MD_telegraph_21 h))
  obtain ⟨x6, ex6, h⟩ := kb_bind h
  have fx6 := kbFr.tr (C := [81, 82, 83]) (S := [3]) (kbFr.w57 kbFr.rf (by decide)) (kbFr.up (by decide) (by decide) (fr_lp_MD_telegraph_32 ex6))
  cases h
  exact fx6
theorem fr_jn_MD_game_30 {n : Nat} {μ : kbM} {x : Int32 × kbM} (h : jn_MD_game_30 n μ = some x) : kbFr [] [3] μ x.2 := by
  unfold jn_MD_game_30 at h
  obtain ⟨x2, ex2, h⟩ := kb_bind h
  have fx2 := kbFr.tr (C := []) (S := [3]) kbFr.rf (kbFr.up (by decide) (by decide) (fr_f_MD_fail ex2))
  cases h
  exact fx2
theorem fr_jn_MD_game_131 {n : Nat} {v1 : Int32} {v2 : Int32} {v3 : Int32} {v4 : Int32} {v5 : Int32} {v6 : Int32} {w1 : Int32} {w2 : Int32} {μ : kbM} {rec : Int32 → kbM → Option (kbM)} (hrec : ∀ {y0 : Int32} {y1 : kbM} {x : kbM}, rec y0 y1 = some x → kbFr [81, 82, 83, 91] [] y1 x) {x : kbM} (h : jn_MD_game_131 n rec v1 v2 v3 v4 v5 v6 w1 w2 μ = some x) : kbFr [81, 82, 83, 91] [] μ x := by
  unfold jn_MD_game_131 at h
  replace h := (kbIf_some h).2
  exact kbFr.tr (kbFr.w kbFr.rf (by decide)) (hrec h)
theorem fr_jn_MD_game_100 {n : Nat} {v1 : Int32} {v2 : Int32} {v3 : Int32} {v4 : Int32} {v5 : Int32} {v6 : Int32} {w1 : Int32} {w2 : Int32} {μ : kbM} {rec : Int32 → kbM → Option (kbM)} (hrec : ∀ {y0 : Int32} {y1 : kbM} {x : kbM}, rec y0 y1 = some x → kbFr [81, 82, 83, 91] [] y1 x) {x : kbM} (h : jn_MD_game_100 n rec v1 v2 v3 v4 v5 v6 w1 w2 μ = some x) : kbFr [81, 82, 83, 91] [] μ x := by
  unfold jn_MD_game_100 at h
  replace h := (kbIf_some h).2
  obtain ⟨x7, ex7, h⟩ := kb_bind h
  have fx7 := kbFr.tr (C := [81, 82, 83, 91]) (S := []) (kbFr.w kbFr.rf (by decide)) (kbFr.up (by decide) (by decide) (fr_f_MD_isTold ex7))
  rcases kb_ite h with h | h
  · skip
    exact kbFr.tr fx7 (kbFr.up (by decide) (by decide) (fr_jn_MD_game_131 hrec h))
  replace h := (kbIf_some h).2
  exact kbFr.tr fx7 (kbFr.up (by decide) (by decide) (fr_jn_MD_game_131 hrec h))
theorem fr_lp_MD_game_64 {n : Nat} {v1 : Int32} {v2 : Int32} {v3 : Int32} {v4 : Int32} {v5 : Int32} {k : Nat} : ∀ {v6 : Int32} {μ : kbM} {x : kbM}, lp_MD_game_64 n v1 v2 v3 v4 v5 k v6 μ = some x → kbFr [81, 82, 83, 91] [] μ x := by
  induction k with
  | zero => intro v6 μ x h; cases h
  | succ k ih =>
    intro v6 μ x h
    unfold lp_MD_game_64 at h
    rcases kb_ite h with h | h
    · skip
      cases h
      exact kbFr.rf
    obtain ⟨x6, ex6, h⟩ := kb_bind h
    have fx6 := kbFr.tr (C := [81, 82, 83, 91]) (S := []) kbFr.rf (kbFr.up (by decide) (by decide) (fr_f_MD_isTold ex6))
    rcases kb_ite h with h | h
    · skip
      exact kbFr.tr fx6 (kbFr.up (by decide) (by decide) (fr_jn_MD_game_100 (fun h => ih h) h))
    replace h := (kbIf_some h).2
    exact kbFr.tr fx6 (kbFr.up (by decide) (by decide) (fr_jn_MD_game_100 (fun h => ih h) h))
theorem fr_jn_MD_game_342 {n : Nat} {w0 : Int32} {μ : kbM} {x : Int32 × kbM} (h : jn_MD_game_342 n w0 μ = some x) : kbFr [] [] μ x.2 := by
  unfold jn_MD_game_342 at h
  cases h
  exact kbFr.rf
theorem fr_f_MD_game {n : Nat} {a1 : Int32} {a2 : Int32} {a3 : Int32} {μ : kbM} {x : Int32 × kbM} (h : f_MD_game n a1 a2 a3 μ = some x) : kbFr [81, 82, 83, 91] [3] μ x.2 := by
  unfold f_MD_game at h
  obtain ⟨x1, ex1, h⟩ := kb_bind h
  rcases kb_ite h with h | h
  · skip
    exact kbFr.tr (kbFr.w57 kbFr.rf (by decide)) (kbFr.up (by decide) (by decide) (fr_jn_MD_game_30 h))
  obtain ⟨x3, ex3, h⟩ := kb_bind h
  rcases kb_ite h with h | h
  · skip
    exact kbFr.tr (kbFr.w57 kbFr.rf (by decide)) (kbFr.up (by decide) (by decide) (fr_jn_MD_game_30 h))
  rcases kb_ite h with h | h
  · skip
    exact kbFr.tr (kbFr.w57 kbFr.rf (by decide)) (kbFr.up (by decide) (by decide) (fr_jn_MD_game_30 h))
  rcases kb_ite h with h | h
  · skip
    rcases kb_ite h with h | h
    · skip
      obtain ⟨x20, ex20, h⟩ := kb_bind h
      have fx20 := kbFr.tr (C := [81, 82, 83, 91]) (S := [3]) (kbFr.w57 kbFr.rf (by decide)) (kbFr.up (by decide) (by decide) (fr_f_MD_fail ex20))
      cases h
      exact fx20
    obtain ⟨x4, ex4, h⟩ := kb_bind h
    obtain ⟨x5, ex5, h⟩ := kb_bind h
    obtain ⟨x8, ex8, h⟩ := kb_bind h
    have fx8 := kbFr.tr (C := [81, 82, 83, 91]) (S := [3]) (kbFr.w57 kbFr.rf (by decide)) (kbFr.up (by decide) (by decide) (fr_lp_MD_game_64 ex8))
    obtain ⟨x19, ex19, h⟩ := kb_bind h
    rcases kb_ite h with h | h
    · skip
      exact kbFr.tr fx8 (kbFr.up (by decide) (by decide) (fr_jn_MD_game_342 h))
    exact kbFr.tr fx8 (kbFr.up (by decide) (by decide) (fr_jn_MD_game_342 h))
  exact kbFr.tr (kbFr.w57 kbFr.rf (by decide)) (kbFr.up (by decide) (by decide) (fr_jn_MD_game_30 h))
theorem fr_f_MD_drawOf {a1 : Int32} {μ : kbM} {x : Int32 × kbM} (h : f_MD_drawOf a1 μ = some x) : kbFr [] [51] μ x.2 := by
  unfold f_MD_drawOf at h
  replace h := (kbIf_some h).2
  cases h
  exact (kbFr.w57 kbFr.rf (by decide))
theorem fr_jn_MD_frost_170 {n : Nat} {v2 : Int32} {v3 : Int32} {v4 : Int32} {v5 : Int32} {v6 : Int32} {v7 : Int32} {μ : kbM} {rec : Int32 → Int32 → Int32 → Int32 → kbM → Option (Int32 × Int32 × Int32 × kbM)} (hrec : ∀ {y0 : Int32} {y1 : Int32} {y2 : Int32} {y3 : Int32} {y4 : kbM} {x : Int32 × Int32 × Int32 × kbM}, rec y0 y1 y2 y3 y4 = some x → kbFr [81, 82, 83] [51] y4 x.2.2.2) {x : Int32 × Int32 × Int32 × kbM} (h : jn_MD_frost_170 n rec v2 v3 v4 v5 v6 v7 μ = some x) : kbFr [81, 82, 83] [51] μ x.2.2.2 := by
  unfold jn_MD_frost_170 at h
  exact kbFr.tr kbFr.rf (hrec h)
theorem fr_jn_MD_frost_138 {n : Nat} {v2 : Int32} {v3 : Int32} {v4 : Int32} {v5 : Int32} {v7 : Int32} {v9 : Int32} {v10 : Int32} {w0 : Int32} {w1 : Int32} {μ : kbM} {rec : Int32 → Int32 → Int32 → Int32 → kbM → Option (Int32 × Int32 × Int32 × kbM)} (hrec : ∀ {y0 : Int32} {y1 : Int32} {y2 : Int32} {y3 : Int32} {y4 : kbM} {x : Int32 × Int32 × Int32 × kbM}, rec y0 y1 y2 y3 y4 = some x → kbFr [81, 82, 83] [51] y4 x.2.2.2) {x : Int32 × Int32 × Int32 × kbM} (h : jn_MD_frost_138 n rec v2 v3 v4 v5 v7 v9 v10 w0 w1 μ = some x) : kbFr [81, 82, 83] [51] μ x.2.2.2 := by
  unfold jn_MD_frost_138 at h
  obtain ⟨x8, ex8, h⟩ := kb_bind h
  have fx8 := kbFr.tr (C := [81, 82, 83]) (S := [51]) kbFr.rf (kbFr.up (by decide) (by decide) (fr_f_MD_nearestTo ex8))
  rcases kb_ite h with h | h
  · skip
    replace h := (kbIf_some h).2
    exact kbFr.tr fx8 (kbFr.up (by decide) (by decide) (fr_jn_MD_frost_170 hrec h))
  exact kbFr.tr fx8 (kbFr.up (by decide) (by decide) (fr_jn_MD_frost_170 hrec h))
theorem fr_lp_MD_frost_58 {n : Nat} {v2 : Int32} {v3 : Int32} {k : Nat} : ∀ {v4 : Int32} {v5 : Int32} {v6 : Int32} {v7 : Int32} {μ : kbM} {x : Int32 × Int32 × Int32 × kbM}, lp_MD_frost_58 n v2 v3 k v4 v5 v6 v7 μ = some x → kbFr [81, 82, 83] [51] μ x.2.2.2 := by
  induction k with
  | zero => intro v4 v5 v6 v7 μ x h; cases h
  | succ k ih =>
    intro v4 v5 v6 v7 μ x h
    unfold lp_MD_frost_58 at h
    rcases kb_ite h with h | h
    · skip
      cases h
      exact kbFr.rf
    rcases kb_ite h with h | h
    · skip
      cases h
      exact kbFr.rf
    rcases kb_ite h with h | h
    · skip
      cases h
      exact kbFr.rf
    obtain ⟨x3, ex3, h⟩ := kb_bind h
    have fx3 := kbFr.tr (C := [81, 82, 83]) (S := [51]) kbFr.rf (kbFr.up (by decide) (by decide) (fr_f_MD_drawOf ex3))
    obtain ⟨x4, ex4, h⟩ := kb_bind h
    have fx4 := kbFr.tr (C := [81, 82, 83]) (S := [51]) fx3 (kbFr.up (by decide) (by decide) (fr_f_MD_drawOf ex4))
    replace h := (kbIf_some h).2
    obtain ⟨x5, ex5, h⟩ := kb_bind h
    obtain ⟨x6, ex6, h⟩ := kb_bind h
    have fx6 := kbFr.tr (C := [81, 82, 83]) (S := [51]) fx4 (kbFr.up (by decide) (by decide) (fr_f_MD_drawOf ex6))
    obtain ⟨x7, ex7, h⟩ := kb_bind h
    rcases kb_ite h with h | h
    · skip
      exact kbFr.tr fx6 (kbFr.up (by decide) (by decide) (fr_jn_MD_frost_138 (fun h => ih h) h))
    exact kbFr.tr fx6 (kbFr.up (by decide) (by decide) (fr_jn_MD_frost_138 (fun h => ih h) h))
theorem fr_jn_MD_frost_197 {n : Nat} {w0 : Int32} {μ : kbM} {x : Int32 × kbM} (h : jn_MD_frost_197 n w0 μ = some x) : kbFr [] [] μ x.2 := by
  unfold jn_MD_frost_197 at h
  cases h
  exact kbFr.rf
theorem fr_jn_MD_frost_176 {n : Nat} {v3 : Int32} {v4 : Int32} {v5 : Int32} {v6 : Int32} {μ : kbM} {x : Int32 × kbM} (h : jn_MD_frost_176 n v3 v4 v5 v6 μ = some x) : kbFr [] [] μ x.2 := by
  unfold jn_MD_frost_176 at h
  rcases kb_ite h with h | h
  · skip
    exact kbFr.tr kbFr.rf (kbFr.up (by decide) (by decide) (fr_jn_MD_frost_197 h))
  rcases kb_ite h with h | h
  · skip
    exact kbFr.tr kbFr.rf (kbFr.up (by decide) (by decide) (fr_jn_MD_frost_197 h))
  exact kbFr.tr kbFr.rf (kbFr.up (by decide) (by decide) (fr_jn_MD_frost_197 h))
theorem fr_f_MD_frost {n : Nat} {a1 : Int32} {a2 : Int32} {a3 : Int32} {μ : kbM} {x : Int32 × kbM} (h : f_MD_frost n a1 a2 a3 μ = some x) : kbFr [81, 82, 83] [3, 51] μ x.2 := by
  unfold f_MD_frost at h
  obtain ⟨x1, ex1, h⟩ := kb_bind h
  rcases kb_ite h with h | h
  · skip
    obtain ⟨x11, ex11, h⟩ := kb_bind h
    have fx11 := kbFr.tr (C := [81, 82, 83]) (S := [3, 51]) (kbFr.w57 kbFr.rf (by decide)) (kbFr.up (by decide) (by decide) (fr_f_MD_fail ex11))
    cases h
    exact fx11
  obtain ⟨x2, ex2, h⟩ := kb_bind h
  rcases kb_ite h with h | h
  · skip
    obtain ⟨x10, ex10, h⟩ := kb_bind h
    have fx10 := kbFr.tr (C := [81, 82, 83]) (S := [3, 51]) (kbFr.w57 kbFr.rf (by decide)) (kbFr.up (by decide) (by decide) (fr_f_MD_fail ex10))
    cases h
    exact fx10
  obtain ⟨x9, ex9, h⟩ := kb_bind h
  have fx9 := kbFr.tr (C := [81, 82, 83]) (S := [3, 51]) (kbFr.w57 (kbFr.w57 kbFr.rf (by decide)) (by decide)) (kbFr.up (by decide) (by decide) (fr_lp_MD_frost_58 ex9))
  exact kbFr.tr fx9 (kbFr.up (by decide) (by decide) (fr_jn_MD_frost_176 h))
theorem fr_lp_MD_pack_92_18 {n : Nat} {v2 : Int32} {k : Nat} : ∀ {v3 : Int32} {μ : kbM} {x : kbM}, lp_MD_pack_92_18 n v2 k v3 μ = some x → kbFr [92] [] μ x := by
  induction k with
  | zero => intro v3 μ x h; cases h
  | succ k ih =>
    intro v3 μ x h
    unfold lp_MD_pack_92_18 at h
    rcases kb_ite h with h | h
    · skip
      cases h
      exact kbFr.rf
    replace h := (kbIf_some h).2
    replace h := (kbIf_some h).2
    replace h := (kbIf_some h).2
    replace h := (kbIf_some h).2
    replace h := (kbIf_some h).2
    replace h := (kbIf_some h).2
    exact kbFr.tr (kbFr.w (kbFr.w (kbFr.w kbFr.rf (by decide)) (by decide)) (by decide)) (ih h)
theorem fr_f_MD_pack_92 {n : Nat} {a2 : Int32} {μ : kbM} {x : kbM} (h : f_MD_pack_92 n a2 μ = some x) : kbFr [92] [] μ x := by
  unfold f_MD_pack_92 at h
  replace h := (kbIf_some h).2
  replace h := (kbIf_some h).2
  obtain ⟨x1, ex1, h⟩ := kb_bind h
  have fx1 := kbFr.tr (C := [92]) (S := []) (kbFr.w (kbFr.w kbFr.rf (by decide)) (by decide)) (kbFr.up (by decide) (by decide) (fr_lp_MD_pack_92_18 ex1))
  cases h
  exact fx1
theorem fr_lp_MD_be_93_73_2 {n : Nat} {k : Nat} : ∀ {v2 : Int32} {μ : kbM} {x : kbM}, lp_MD_be_93_73_2 n k v2 μ = some x → kbFr [93] [] μ x := by
  induction k with
  | zero => intro v2 μ x h; cases h
  | succ k ih =>
    intro v2 μ x h
    unfold lp_MD_be_93_73_2 at h
    rcases kb_ite h with h | h
    · skip
      cases h
      exact kbFr.rf
    replace h := (kbIf_some h).2
    replace h := (kbIf_some h).2
    exact kbFr.tr (kbFr.w kbFr.rf (by decide)) (ih h)
theorem fr_f_MD_be_93_73 {n : Nat} {μ : kbM} {x : kbM} (h : f_MD_be_93_73 n μ = some x) : kbFr [93] [] μ x := by
  unfold f_MD_be_93_73 at h
  obtain ⟨x1, ex1, h⟩ := kb_bind h
  have fx1 := kbFr.tr (C := [93]) (S := []) kbFr.rf (kbFr.up (by decide) (by decide) (fr_lp_MD_be_93_73_2 ex1))
  cases h
  exact fx1
theorem fr_lp_MD_be_94_89_2 {n : Nat} {k : Nat} : ∀ {v2 : Int32} {μ : kbM} {x : kbM}, lp_MD_be_94_89_2 n k v2 μ = some x → kbFr [94] [] μ x := by
  induction k with
  | zero => intro v2 μ x h; cases h
  | succ k ih =>
    intro v2 μ x h
    unfold lp_MD_be_94_89_2 at h
    rcases kb_ite h with h | h
    · skip
      cases h
      exact kbFr.rf
    replace h := (kbIf_some h).2
    replace h := (kbIf_some h).2
    exact kbFr.tr (kbFr.w kbFr.rf (by decide)) (ih h)
theorem fr_f_MD_be_94_89 {n : Nat} {μ : kbM} {x : kbM} (h : f_MD_be_94_89 n μ = some x) : kbFr [94] [] μ x := by
  unfold f_MD_be_94_89 at h
  obtain ⟨x1, ex1, h⟩ := kb_bind h
  have fx1 := kbFr.tr (C := [94]) (S := []) kbFr.rf (kbFr.up (by decide) (by decide) (fr_lp_MD_be_94_89_2 ex1))
  cases h
  exact fx1
theorem fr_lp_MD_be_95_90_2 {n : Nat} {k : Nat} : ∀ {v2 : Int32} {μ : kbM} {x : kbM}, lp_MD_be_95_90_2 n k v2 μ = some x → kbFr [95] [] μ x := by
  induction k with
  | zero => intro v2 μ x h; cases h
  | succ k ih =>
    intro v2 μ x h
    unfold lp_MD_be_95_90_2 at h
    rcases kb_ite h with h | h
    · skip
      cases h
      exact kbFr.rf
    replace h := (kbIf_some h).2
    replace h := (kbIf_some h).2
    exact kbFr.tr (kbFr.w kbFr.rf (by decide)) (ih h)
theorem fr_f_MD_be_95_90 {n : Nat} {μ : kbM} {x : kbM} (h : f_MD_be_95_90 n μ = some x) : kbFr [95] [] μ x := by
  unfold f_MD_be_95_90 at h
  obtain ⟨x1, ex1, h⟩ := kb_bind h
  have fx1 := kbFr.tr (C := [95]) (S := []) kbFr.rf (kbFr.up (by decide) (by decide) (fr_lp_MD_be_95_90_2 ex1))
  cases h
  exact fx1
theorem fr_lp_MD_be_96_68_2 {n : Nat} {k : Nat} : ∀ {v2 : Int32} {μ : kbM} {x : kbM}, lp_MD_be_96_68_2 n k v2 μ = some x → kbFr [96] [] μ x := by
  induction k with
  | zero => intro v2 μ x h; cases h
  | succ k ih =>
    intro v2 μ x h
    unfold lp_MD_be_96_68_2 at h
    rcases kb_ite h with h | h
    · skip
      cases h
      exact kbFr.rf
    replace h := (kbIf_some h).2
    replace h := (kbIf_some h).2
    exact kbFr.tr (kbFr.w kbFr.rf (by decide)) (ih h)
theorem fr_f_MD_be_96_68 {n : Nat} {μ : kbM} {x : kbM} (h : f_MD_be_96_68 n μ = some x) : kbFr [96] [] μ x := by
  unfold f_MD_be_96_68 at h
  obtain ⟨x1, ex1, h⟩ := kb_bind h
  have fx1 := kbFr.tr (C := [96]) (S := []) kbFr.rf (kbFr.up (by decide) (by decide) (fr_lp_MD_be_96_68_2 ex1))
  cases h
  exact fx1
theorem fr_f_MD_image {n : Nat} {μ : kbM} {x : kbM} (h : f_MD_image n μ = some x) : kbFr [92, 93, 94, 95, 96] [3, 52, 53, 54] μ x := by
  unfold f_MD_image at h
  obtain ⟨x1, ex1, h⟩ := kb_bind h
  have fx1 := kbFr.tr (C := [92, 93, 94, 95, 96]) (S := [3, 52, 53, 54]) (kbFr.w57 (kbFr.w57 (kbFr.w57 (kbFr.w57 kbFr.rf (by decide)) (by decide)) (by decide)) (by decide)) (kbFr.up (by decide) (by decide) (fr_f_MD_pack_92 ex1))
  obtain ⟨x2, ex2, h⟩ := kb_bind h
  have fx2 := kbFr.tr (C := [92, 93, 94, 95, 96]) (S := [3, 52, 53, 54]) fx1 (kbFr.up (by decide) (by decide) (fr_f_MD_be_93_73 ex2))
  obtain ⟨x3, ex3, h⟩ := kb_bind h
  have fx3 := kbFr.tr (C := [92, 93, 94, 95, 96]) (S := [3, 52, 53, 54]) fx2 (kbFr.up (by decide) (by decide) (fr_f_MD_be_94_89 ex3))
  obtain ⟨x4, ex4, h⟩ := kb_bind h
  have fx4 := kbFr.tr (C := [92, 93, 94, 95, 96]) (S := [3, 52, 53, 54]) fx3 (kbFr.up (by decide) (by decide) (fr_f_MD_be_95_90 ex4))
  obtain ⟨x5, ex5, h⟩ := kb_bind h
  have fx5 := kbFr.tr (C := [92, 93, 94, 95, 96]) (S := [3, 52, 53, 54]) fx4 (kbFr.up (by decide) (by decide) (fr_f_MD_be_96_68 ex5))
  cases h
  exact fx5
theorem fr_lp_MD_unpack_92_18 {n : Nat} {v2 : Int32} {k : Nat} : ∀ {v3 : Int32} {μ : kbM} {x : kbM}, lp_MD_unpack_92_18 n v2 k v3 μ = some x → kbFr [70, 71, 72] [] μ x := by
  induction k with
  | zero => intro v3 μ x h; cases h
  | succ k ih =>
    intro v3 μ x h
    unfold lp_MD_unpack_92_18 at h
    rcases kb_ite h with h | h
    · skip
      cases h
      exact kbFr.rf
    replace h := (kbIf_some h).2
    replace h := (kbIf_some h).2
    replace h := (kbIf_some h).2
    replace h := (kbIf_some h).2
    replace h := (kbIf_some h).2
    replace h := (kbIf_some h).2
    exact kbFr.tr (kbFr.w (kbFr.w (kbFr.w kbFr.rf (by decide)) (by decide)) (by decide)) (ih h)
theorem fr_f_MD_unpack_92 {n : Nat} {a2 : Int32} {μ : kbM} {x : kbM} (h : f_MD_unpack_92 n a2 μ = some x) : kbFr [70, 71, 72] [27, 28] μ x := by
  unfold f_MD_unpack_92 at h
  replace h := (kbIf_some h).2
  replace h := (kbIf_some h).2
  obtain ⟨x1, ex1, h⟩ := kb_bind h
  have fx1 := kbFr.tr (C := [70, 71, 72]) (S := [27, 28]) (kbFr.w57 (kbFr.w57 kbFr.rf (by decide)) (by decide)) (kbFr.up (by decide) (by decide) (fr_lp_MD_unpack_92_18 ex1))
  cases h
  exact fx1
theorem fr_lp_MD_be_73_93_2 {n : Nat} {k : Nat} : ∀ {v2 : Int32} {μ : kbM} {x : kbM}, lp_MD_be_73_93_2 n k v2 μ = some x → kbFr [73] [] μ x := by
  induction k with
  | zero => intro v2 μ x h; cases h
  | succ k ih =>
    intro v2 μ x h
    unfold lp_MD_be_73_93_2 at h
    rcases kb_ite h with h | h
    · skip
      cases h
      exact kbFr.rf
    replace h := (kbIf_some h).2
    replace h := (kbIf_some h).2
    exact kbFr.tr (kbFr.w kbFr.rf (by decide)) (ih h)
theorem fr_f_MD_be_73_93 {n : Nat} {μ : kbM} {x : kbM} (h : f_MD_be_73_93 n μ = some x) : kbFr [73] [] μ x := by
  unfold f_MD_be_73_93 at h
  obtain ⟨x1, ex1, h⟩ := kb_bind h
  have fx1 := kbFr.tr (C := [73]) (S := []) kbFr.rf (kbFr.up (by decide) (by decide) (fr_lp_MD_be_73_93_2 ex1))
  cases h
  exact fx1
theorem fr_lp_MD_be_89_94_2 {n : Nat} {k : Nat} : ∀ {v2 : Int32} {μ : kbM} {x : kbM}, lp_MD_be_89_94_2 n k v2 μ = some x → kbFr [89] [] μ x := by
  induction k with
  | zero => intro v2 μ x h; cases h
  | succ k ih =>
    intro v2 μ x h
    unfold lp_MD_be_89_94_2 at h
    rcases kb_ite h with h | h
    · skip
      cases h
      exact kbFr.rf
    replace h := (kbIf_some h).2
    replace h := (kbIf_some h).2
    exact kbFr.tr (kbFr.w kbFr.rf (by decide)) (ih h)
theorem fr_f_MD_be_89_94 {n : Nat} {μ : kbM} {x : kbM} (h : f_MD_be_89_94 n μ = some x) : kbFr [89] [] μ x := by
  unfold f_MD_be_89_94 at h
  obtain ⟨x1, ex1, h⟩ := kb_bind h
  have fx1 := kbFr.tr (C := [89]) (S := []) kbFr.rf (kbFr.up (by decide) (by decide) (fr_lp_MD_be_89_94_2 ex1))
  cases h
  exact fx1
theorem fr_lp_MD_be_90_95_2 {n : Nat} {k : Nat} : ∀ {v2 : Int32} {μ : kbM} {x : kbM}, lp_MD_be_90_95_2 n k v2 μ = some x → kbFr [90] [] μ x := by
  induction k with
  | zero => intro v2 μ x h; cases h
  | succ k ih =>
    intro v2 μ x h
    unfold lp_MD_be_90_95_2 at h
    rcases kb_ite h with h | h
    · skip
      cases h
      exact kbFr.rf
    replace h := (kbIf_some h).2
    replace h := (kbIf_some h).2
    exact kbFr.tr (kbFr.w kbFr.rf (by decide)) (ih h)
theorem fr_f_MD_be_90_95 {n : Nat} {μ : kbM} {x : kbM} (h : f_MD_be_90_95 n μ = some x) : kbFr [90] [] μ x := by
  unfold f_MD_be_90_95 at h
  obtain ⟨x1, ex1, h⟩ := kb_bind h
  have fx1 := kbFr.tr (C := [90]) (S := []) kbFr.rf (kbFr.up (by decide) (by decide) (fr_lp_MD_be_90_95_2 ex1))
  cases h
  exact fx1
theorem fr_lp_MD_be_68_96_2 {n : Nat} {k : Nat} : ∀ {v2 : Int32} {μ : kbM} {x : kbM}, lp_MD_be_68_96_2 n k v2 μ = some x → kbFr [68] [] μ x := by
  induction k with
  | zero => intro v2 μ x h; cases h
  | succ k ih =>
    intro v2 μ x h
    unfold lp_MD_be_68_96_2 at h
    rcases kb_ite h with h | h
    · skip
      cases h
      exact kbFr.rf
    replace h := (kbIf_some h).2
    replace h := (kbIf_some h).2
    exact kbFr.tr (kbFr.w kbFr.rf (by decide)) (ih h)
theorem fr_f_MD_be_68_96 {n : Nat} {μ : kbM} {x : kbM} (h : f_MD_be_68_96 n μ = some x) : kbFr [68] [] μ x := by
  unfold f_MD_be_68_96 at h
  obtain ⟨x1, ex1, h⟩ := kb_bind h
  have fx1 := kbFr.tr (C := [68]) (S := []) kbFr.rf (kbFr.up (by decide) (by decide) (fr_lp_MD_be_68_96_2 ex1))
  cases h
  exact fx1
theorem fr_f_MD_restore {n : Nat} {μ : kbM} {x : Int32 × kbM} (h : f_MD_restore n μ = some x) : kbFr [68, 70, 71, 72, 73, 89, 90] [3, 27, 28, 29, 30] μ x.2 := by
  unfold f_MD_restore at h
  rcases kb_ite h with h | h
  · skip
    cases h
    exact (kbFr.w57 kbFr.rf (by decide))
  obtain ⟨x1, ex1, h⟩ := kb_bind h
  have fx1 := kbFr.tr (C := [68, 70, 71, 72, 73, 89, 90]) (S := [3, 27, 28, 29, 30]) (kbFr.w57 (kbFr.w57 (kbFr.w57 kbFr.rf (by decide)) (by decide)) (by decide)) (kbFr.up (by decide) (by decide) (fr_f_MD_unpack_92 ex1))
  obtain ⟨x2, ex2, h⟩ := kb_bind h
  have fx2 := kbFr.tr (C := [68, 70, 71, 72, 73, 89, 90]) (S := [3, 27, 28, 29, 30]) fx1 (kbFr.up (by decide) (by decide) (fr_f_MD_be_73_93 ex2))
  obtain ⟨x3, ex3, h⟩ := kb_bind h
  have fx3 := kbFr.tr (C := [68, 70, 71, 72, 73, 89, 90]) (S := [3, 27, 28, 29, 30]) fx2 (kbFr.up (by decide) (by decide) (fr_f_MD_be_89_94 ex3))
  obtain ⟨x4, ex4, h⟩ := kb_bind h
  have fx4 := kbFr.tr (C := [68, 70, 71, 72, 73, 89, 90]) (S := [3, 27, 28, 29, 30]) fx3 (kbFr.up (by decide) (by decide) (fr_f_MD_be_90_95 ex4))
  obtain ⟨x5, ex5, h⟩ := kb_bind h
  have fx5 := kbFr.tr (C := [68, 70, 71, 72, 73, 89, 90]) (S := [3, 27, 28, 29, 30]) fx4 (kbFr.up (by decide) (by decide) (fr_f_MD_be_68_96 ex5))
  cases h
  exact fx5
