/-! FRAMES: what a function leaves alone: all cells but C, and of cell 57 all slots but S -/
def kbFr (C S : List Nat) (μ μ' : kbM) : Prop := ∀ a k : Nat, a ∉ C → (a = 57 → k ∉ S) → μ'.1 a k = μ.1 a k ∧ μ'.2 a k = μ.2 a k
theorem kbFr.rf {C S : List Nat} {μ : kbM} : kbFr C S μ μ := fun _ _ _ _ => ⟨rfl, rfl⟩
theorem kbFr.tr {C S : List Nat} {a b c : kbM} (h : kbFr C S a b) (k : kbFr C S b c) : kbFr C S a c := fun x y hx hy => ⟨(k x y hx hy).1.trans (h x y hx hy).1, (k x y hx hy).2.trans (h x y hx hy).2⟩
theorem kbFr.up {C S C1 S1 : List Nat} {μ μ' : kbM} (hC : ∀ z ∈ C1, z ∈ C) (hS : ∀ z ∈ S1, z ∈ S) (h : kbFr C1 S1 μ μ') : kbFr C S μ μ' := fun x y hx hy => h x y (fun q => hx (hC x q)) (fun e q => hy e (hS y q))
theorem kbFr.w {C S : List Nat} {μ e : kbM} {c k : Nat} {v : Int32} (h : kbFr C S μ e) (hc : c ∈ C) : kbFr C S μ (kbW e c k v) := fun x y hx hy => by
  have hne : x ≠ c := fun q => hx (q ▸ hc)
  have := h x y hx hy
  simp only [kbW, kbA, hne, if_false]
  exact this
theorem kbFr.w57 {C S : List Nat} {μ e : kbM} {k : Nat} {v : Int32} (h : kbFr C S μ e) (hk : k ∈ S) : kbFr C S μ (kbW e 57 k v) := fun x y hx hy => by
  have := h x y hx hy
  by_cases hx7 : x = 57
  · subst hx7
    have hne : y ≠ k := fun q => hy rfl (q ▸ hk)
    simp only [kbW, kbA, if_true, upd, hne, if_false]
    exact this
  · simp only [kbW, kbA, hx7, if_false]
    exact this
theorem kbFr.x {C S : List Nat} {μ e : kbM} {c k : Nat} {v : Int64} (h : kbFr C S μ e) (hc : c ∈ C) : kbFr C S μ (kbX e c k v) := fun x y hx hy => by
  have hne : x ≠ c := fun q => hx (q ▸ hc)
  have := h x y hx hy
  simp only [kbX, kbB, hne, if_false]
  exact this
theorem kbFr.a {C S : List Nat} {μ e : kbM} {c : Nat} {f : Nat → Int32} (h : kbFr C S μ e) (hc : c ∈ C) : kbFr C S μ (kbA e c f) := fun x y hx hy => by
  have hne : x ≠ c := fun q => hx (q ▸ hc)
  have := h x y hx hy
  simp only [kbA, hne, if_false]
  exact this
theorem kbIf_some {α : Type} {b : Bool} {o : Option α} {x : α} (h : kbIf b o = some x) : b = true ∧ o = some x := by
  cases b with
  | true => exact ⟨rfl, h⟩
  | false => cases h
theorem kb_bind {α β : Type} {o : Option α} {f : α → Option β} {x : β} (h : o.bind f = some x) : ∃ y, o = some y ∧ f y = some x := by
  cases o with
  | none => cases h
  | some y => exact ⟨y, rfl, h⟩
theorem kb_ite {α : Type} {c : Prop} [Decidable c] {a b : Option α} {x : α} (h : (if c then a else b) = some x) : a = some x ∨ b = some x := by
  by_cases hc : c
  · rw [if_pos hc] at h; exact Or.inl h
  · rw [if_neg hc] at h; exact Or.inr h
theorem kb_orS {α β γ : Type} {o : Option (β ⊕ γ)} {f : β → Option α} {g : γ → Option α} {x : α} (h : kbOr o f g = some x) : (∃ r, o = some (.inl r) ∧ f r = some x) ∨ ∃ v, o = some (.inr v) ∧ g v = some x := by
  cases o with
  | none => cases h
  | some y => cases y with
    | inl r => exact Or.inl ⟨r, rfl, h⟩
    | inr v => exact Or.inr ⟨v, rfl, h⟩
theorem fr_jn_BT_append_34 {μ : kbM} {x : kbM} (h : jn_BT_append_34 μ = some x) : kbFr [] [] μ x := by
  unfold jn_BT_append_34 at h
  cases h
  exact kbFr.rf
theorem fr_f_BT_append {a1 : Int32} {μ : kbM} {x : kbM} (h : f_BT_append a1 μ = some x) : kbFr [1, 2] [] μ x := by
  unfold f_BT_append at h
  rcases kb_ite h with h | h
  · skip
    exact kbFr.tr kbFr.rf (kbFr.up (by decide) (by decide) (fr_jn_BT_append_34 h))
  replace h := (kbIf_some h).2
  exact kbFr.tr (kbFr.w (kbFr.w kbFr.rf (by decide)) (by decide)) (kbFr.up (by decide) (by decide) (fr_jn_BT_append_34 h))
theorem fr_lp_BT_advance_16 {n : Nat} {k : Nat} : ∀ {μ : kbM} {x : kbM}, lp_BT_advance_16 n k μ = some x → kbFr [1] [] μ x := by
  induction k with
  | zero => intro μ x h; cases h
  | succ k ih =>
    intro μ x h
    unfold lp_BT_advance_16 at h
    rcases kb_ite h with h | h
    · skip
      cases h
      exact kbFr.rf
    obtain ⟨x1, ex1, h⟩ := kb_bind h
    obtain ⟨x2, ex2, h⟩ := kb_bind h
    rcases kb_ite h with h | h
    · skip
      cases h
      exact kbFr.rf
    exact kbFr.tr (kbFr.w kbFr.rf (by decide)) (ih h)
theorem fr_jn_BT_advance_218 {n : Nat} {μ : kbM} {x : kbM} (h : jn_BT_advance_218 n μ = some x) : kbFr [] [] μ x := by
  unfold jn_BT_advance_218 at h
  cases h
  exact kbFr.rf
theorem fr_jn_BT_advance_215 {n : Nat} {w1 : Int32} {μ : kbM} {x : kbM} (h : jn_BT_advance_215 n w1 μ = some x) : kbFr [1] [] μ x := by
  unfold jn_BT_advance_215 at h
  exact kbFr.tr (kbFr.w kbFr.rf (by decide)) (kbFr.up (by decide) (by decide) (fr_jn_BT_advance_218 h))
theorem fr_lp_BT_advance_161 {n : Nat} {k : Nat} : ∀ {μ : kbM} {x : kbM}, lp_BT_advance_161 n k μ = some x → kbFr [1] [] μ x := by
  induction k with
  | zero => intro μ x h; cases h
  | succ k ih =>
    intro μ x h
    unfold lp_BT_advance_161 at h
    rcases kb_ite h with h | h
    · skip
      cases h
      exact kbFr.rf
    obtain ⟨x7, ex7, h⟩ := kb_bind h
    obtain ⟨x8, ex8, h⟩ := kb_bind h
    rcases kb_ite h with h | h
    · skip
      cases h
      exact kbFr.rf
    exact kbFr.tr (kbFr.w kbFr.rf (by decide)) (ih h)
theorem fr_lp_BT_advance_111 {n : Nat} {k : Nat} : ∀ {μ : kbM} {x : kbM}, lp_BT_advance_111 n k μ = some x → kbFr [1] [] μ x := by
  induction k with
  | zero => intro μ x h; cases h
  | succ k ih =>
    intro μ x h
    unfold lp_BT_advance_111 at h
    rcases kb_ite h with h | h
    · skip
      cases h
      exact kbFr.rf
    obtain ⟨x10, ex10, h⟩ := kb_bind h
    obtain ⟨x11, ex11, h⟩ := kb_bind h
    rcases kb_ite h with h | h
    · skip
      cases h
      exact kbFr.rf
    exact kbFr.tr (kbFr.w kbFr.rf (by decide)) (ih h)
theorem fr_jn_BT_advance_54 {n : Nat} {μ : kbM} {x : kbM} (h : jn_BT_advance_54 n μ = some x) : kbFr [1] [] μ x := by
  unfold jn_BT_advance_54 at h
  obtain ⟨x4, ex4, h⟩ := kb_bind h
  rcases kb_ite h with h | h
  · skip
    obtain ⟨x5, ex5, h⟩ := kb_bind h
    rcases kb_ite h with h | h
    · skip
      obtain ⟨x6, ex6, h⟩ := kb_bind h
      rcases kb_ite h with h | h
      · skip
        rcases kb_ite h with h | h
        · skip
          exact kbFr.tr (kbFr.w kbFr.rf (by decide)) (kbFr.up (by decide) (by decide) (fr_jn_BT_advance_215 h))
        exact kbFr.tr (kbFr.w kbFr.rf (by decide)) (kbFr.up (by decide) (by decide) (fr_jn_BT_advance_215 h))
      obtain ⟨x9, ex9, h⟩ := kb_bind h
      have fx9 := kbFr.tr (C := [1]) (S := []) (kbFr.w (kbFr.w kbFr.rf (by decide)) (by decide)) (kbFr.up (by decide) (by decide) (fr_lp_BT_advance_161 ex9))
      exact kbFr.tr fx9 (kbFr.up (by decide) (by decide) (fr_jn_BT_advance_218 h))
    obtain ⟨x12, ex12, h⟩ := kb_bind h
    have fx12 := kbFr.tr (C := [1]) (S := []) (kbFr.w (kbFr.w kbFr.rf (by decide)) (by decide)) (kbFr.up (by decide) (by decide) (fr_lp_BT_advance_111 ex12))
    exact kbFr.tr fx12 (kbFr.up (by decide) (by decide) (fr_jn_BT_advance_218 h))
  exact kbFr.tr (kbFr.w (kbFr.w kbFr.rf (by decide)) (by decide)) (kbFr.up (by decide) (by decide) (fr_jn_BT_advance_218 h))
theorem fr_f_BT_advance {n : Nat} {μ : kbM} {x : kbM} (h : f_BT_advance n μ = some x) : kbFr [1] [] μ x := by
  unfold f_BT_advance at h
  rcases kb_ite h with h | h
  · skip
    obtain ⟨x3, ex3, h⟩ := kb_bind h
    have fx3 := kbFr.tr (C := [1]) (S := []) (kbFr.w kbFr.rf (by decide)) (kbFr.up (by decide) (by decide) (fr_lp_BT_advance_16 ex3))
    exact kbFr.tr fx3 (kbFr.up (by decide) (by decide) (fr_jn_BT_advance_54 h))
  cases h
  exact kbFr.rf
theorem fr_jn_BT_fail_25 {μ : kbM} {x : Int32 × kbM} (h : jn_BT_fail_25 μ = some x) : kbFr [] [] μ x.2 := by
  unfold jn_BT_fail_25 at h
  cases h
  exact kbFr.rf
theorem fr_f_BT_fail {a1 : Int32} {μ : kbM} {x : Int32 × kbM} (h : f_BT_fail a1 μ = some x) : kbFr [1] [] μ x.2 := by
  unfold f_BT_fail at h
  rcases kb_ite h with h | h
  · skip
    exact kbFr.tr (kbFr.w (kbFr.w (kbFr.w kbFr.rf (by decide)) (by decide)) (by decide)) (kbFr.up (by decide) (by decide) (fr_jn_BT_fail_25 h))
  exact kbFr.tr kbFr.rf (kbFr.up (by decide) (by decide) (fr_jn_BT_fail_25 h))
theorem fr_jn_BT_passSign_14 {n : Nat} {μ : kbM} {x : kbM} (h : jn_BT_passSign_14 n μ = some x) : kbFr [1] [] μ x := by
  unfold jn_BT_passSign_14 at h
  obtain ⟨x1, ex1, h⟩ := kb_bind h
  have fx1 := kbFr.tr (C := [1]) (S := []) kbFr.rf (kbFr.up (by decide) (by decide) (fr_f_BT_advance ex1))
  cases h
  exact fx1
theorem fr_f_BT_passSign {n : Nat} {a1 : Int32} {μ : kbM} {x : kbM} (h : f_BT_passSign n a1 μ = some x) : kbFr [1] [] μ x := by
  unfold f_BT_passSign at h
  rcases kb_ite h with h | h
  · skip
    exact kbFr.tr kbFr.rf (kbFr.up (by decide) (by decide) (fr_jn_BT_passSign_14 h))
  obtain ⟨x2, ex2, h⟩ := kb_bind h
  have fx2 := kbFr.tr (C := [1]) (S := []) kbFr.rf (kbFr.up (by decide) (by decide) (fr_f_BT_fail ex2))
  exact kbFr.tr fx2 (kbFr.up (by decide) (by decide) (fr_jn_BT_passSign_14 h))
theorem fr_jn_BT_valueNamed_78 {n : Nat} {w0 : Int32} {μ : kbM} {x : Int32 × kbM} (h : jn_BT_valueNamed_78 n w0 μ = some x) : kbFr [] [] μ x.2 := by
  unfold jn_BT_valueNamed_78 at h
  cases h
  exact kbFr.rf
theorem fr_f_BT_valueNamed {n : Nat} {μ : kbM} {x : Int32 × kbM} (h : f_BT_valueNamed n μ = some x) : kbFr [1] [] μ x.2 := by
  unfold f_BT_valueNamed at h
  obtain ⟨x1, ex1, h⟩ := kb_bind h
  rcases kb_ite h with h | h
  · skip
    obtain ⟨x2, ex2, h⟩ := kb_bind h
    rcases kb_ite h with h | h
    · skip
      obtain ⟨x3, ex3, h⟩ := kb_bind h
      rcases kb_ite h with h | h
      · skip
        obtain ⟨x4, ex4, h⟩ := kb_bind h
        rcases kb_ite h with h | h
        · skip
          obtain ⟨x5, ex5, h⟩ := kb_bind h
          rcases kb_ite h with h | h
          · skip
            obtain ⟨x6, ex6, h⟩ := kb_bind h
            rcases kb_ite h with h | h
            · skip
              obtain ⟨x7, ex7, h⟩ := kb_bind h
              have fx7 := kbFr.tr (C := [1]) (S := []) kbFr.rf (kbFr.up (by decide) (by decide) (fr_f_BT_fail ex7))
              exact kbFr.tr fx7 (kbFr.up (by decide) (by decide) (fr_jn_BT_valueNamed_78 h))
            exact kbFr.tr kbFr.rf (kbFr.up (by decide) (by decide) (fr_jn_BT_valueNamed_78 h))
          cases h
          exact kbFr.rf
        cases h
        exact kbFr.rf
      cases h
      exact kbFr.rf
    cases h
    exact kbFr.rf
  cases h
  exact kbFr.rf
theorem fr_jn_BT_emit_39 {μ : kbM} {x : kbM} (h : jn_BT_emit_39 μ = some x) : kbFr [] [] μ x := by
  unfold jn_BT_emit_39 at h
  cases h
  exact kbFr.rf
theorem fr_f_BT_emit {a1 : Int32} {μ : kbM} {x : kbM} (h : f_BT_emit a1 μ = some x) : kbFr [1, 11] [] μ x := by
  unfold f_BT_emit at h
  rcases kb_ite h with h | h
  · skip
    rcases kb_ite h with h | h
    · skip
      exact kbFr.tr kbFr.rf (kbFr.up (by decide) (by decide) (fr_jn_BT_emit_39 h))
    replace h := (kbIf_some h).2
    exact kbFr.tr (kbFr.w (kbFr.w kbFr.rf (by decide)) (by decide)) (kbFr.up (by decide) (by decide) (fr_jn_BT_emit_39 h))
  exact kbFr.tr kbFr.rf (kbFr.up (by decide) (by decide) (fr_jn_BT_emit_39 h))
theorem fr_f_BT_numberTold {n : Nat} {μ : kbM} {x : Int32 × kbM} (h : f_BT_numberTold n μ = some x) : kbFr [1] [] μ x.2 := by
  unfold f_BT_numberTold at h
  rcases kb_ite h with h | h
  · skip
    obtain ⟨x2, ex2, h⟩ := kb_bind h
    cases h
    exact kbFr.rf
  obtain ⟨x3, ex3, h⟩ := kb_bind h
  have fx3 := kbFr.tr (C := [1]) (S := []) kbFr.rf (kbFr.up (by decide) (by decide) (fr_f_BT_fail ex3))
  cases h
  exact fx3
theorem fr_jn_BT_operand_81 {n : Nat} {μ : kbM} {re : Int32 → kbM → Option kbM} (hre : ∀ {a : Int32} {μ x : kbM}, re a μ = some x → kbFr [1, 11] [] μ x) {x : kbM} (h : jn_BT_operand_81 n re μ = some x) : kbFr [1, 11] [] μ x := by
  unfold jn_BT_operand_81 at h
  cases h
  exact kbFr.rf
theorem fr_f_BT_operand {n : Nat} {a1 : Int32} {μ : kbM} {re : Int32 → kbM → Option kbM} (hre : ∀ {a : Int32} {μ x : kbM}, re a μ = some x → kbFr [1, 11] [] μ x) {x : kbM} (h : f_BT_operand n re a1 μ = some x) : kbFr [1, 11] [] μ x := by
  unfold f_BT_operand at h
  rcases kb_ite h with h | h
  · skip
    obtain ⟨x8, ex8, h⟩ := kb_bind h
    have fx8 := kbFr.tr (C := [1, 11]) (S := []) kbFr.rf (kbFr.up (by decide) (by decide) (fr_f_BT_numberTold ex8))
    obtain ⟨x9, ex9, h⟩ := kb_bind h
    have fx9 := kbFr.tr (C := [1, 11]) (S := []) fx8 (kbFr.up (by decide) (by decide) (fr_f_BT_emit ex9))
    obtain ⟨x10, ex10, h⟩ := kb_bind h
    have fx10 := kbFr.tr (C := [1, 11]) (S := []) fx9 (kbFr.up (by decide) (by decide) (fr_f_BT_advance ex10))
    exact kbFr.tr fx10 (kbFr.up (by decide) (by decide) (fr_jn_BT_operand_81 hre h))
  rcases kb_ite h with h | h
  · skip
    obtain ⟨x5, ex5, h⟩ := kb_bind h
    have fx5 := kbFr.tr (C := [1, 11]) (S := []) kbFr.rf (kbFr.up (by decide) (by decide) (fr_f_BT_valueNamed ex5))
    obtain ⟨x6, ex6, h⟩ := kb_bind h
    have fx6 := kbFr.tr (C := [1, 11]) (S := []) fx5 (kbFr.up (by decide) (by decide) (fr_f_BT_emit ex6))
    obtain ⟨x7, ex7, h⟩ := kb_bind h
    have fx7 := kbFr.tr (C := [1, 11]) (S := []) fx6 (kbFr.up (by decide) (by decide) (fr_f_BT_advance ex7))
    exact kbFr.tr fx7 (kbFr.up (by decide) (by decide) (fr_jn_BT_operand_81 hre h))
  rcases kb_ite h with h | h
  · skip
    obtain ⟨x2, ex2, h⟩ := kb_bind h
    have fx2 := kbFr.tr (C := [1, 11]) (S := []) kbFr.rf (kbFr.up (by decide) (by decide) (fr_f_BT_advance ex2))
    obtain ⟨x3, ex3, h⟩ := kb_bind h
    have fx3 := kbFr.tr (C := [1, 11]) (S := []) fx2 (kbFr.up (by decide) (by decide) (hre ex3))
    obtain ⟨x4, ex4, h⟩ := kb_bind h
    have fx4 := kbFr.tr (C := [1, 11]) (S := []) fx3 (kbFr.up (by decide) (by decide) (fr_f_BT_passSign ex4))
    exact kbFr.tr fx4 (kbFr.up (by decide) (by decide) (fr_jn_BT_operand_81 hre h))
  obtain ⟨x1, ex1, h⟩ := kb_bind h
  have fx1 := kbFr.tr (C := [1, 11]) (S := []) kbFr.rf (kbFr.up (by decide) (by decide) (fr_f_BT_fail ex1))
  exact kbFr.tr fx1 (kbFr.up (by decide) (by decide) (fr_jn_BT_operand_81 hre h))
theorem fr_jn_BT_product_48 {n : Nat} {v1 : Int32} {v2 : Int32} {w0 : Int32} {μ : kbM} {re : Int32 → kbM → Option kbM} (hre : ∀ {a : Int32} {μ x : kbM}, re a μ = some x → kbFr [1, 11] [] μ x) {rec : Int32 → kbM → Option (kbM)} (hrec : ∀ {y0 : Int32} {y1 : kbM} {x : kbM}, rec y0 y1 = some x → kbFr [1, 11] [] y1 x) {x : kbM} (h : jn_BT_product_48 n re rec v1 v2 w0 μ = some x) : kbFr [1, 11] [] μ x := by
  unfold jn_BT_product_48 at h
  obtain ⟨x2, ex2, h⟩ := kb_bind h
  have fx2 := kbFr.tr (C := [1, 11]) (S := []) kbFr.rf (kbFr.up (by decide) (by decide) (fr_f_BT_advance ex2))
  obtain ⟨x3, ex3, h⟩ := kb_bind h
  have fx3 := kbFr.tr (C := [1, 11]) (S := []) fx2 (kbFr.up (by decide) (by decide) (fr_f_BT_operand hre ex3))
  obtain ⟨x4, ex4, h⟩ := kb_bind h
  have fx4 := kbFr.tr (C := [1, 11]) (S := []) fx3 (kbFr.up (by decide) (by decide) (fr_f_BT_emit ex4))
  exact kbFr.tr fx4 (hrec h)
theorem fr_jn_BT_product_32 {n : Nat} {v1 : Int32} {v2 : Int32} {μ : kbM} {re : Int32 → kbM → Option kbM} (hre : ∀ {a : Int32} {μ x : kbM}, re a μ = some x → kbFr [1, 11] [] μ x) {rec : Int32 → kbM → Option (kbM)} (hrec : ∀ {y0 : Int32} {y1 : kbM} {x : kbM}, rec y0 y1 = some x → kbFr [1, 11] [] y1 x) {x : kbM} (h : jn_BT_product_32 n re rec v1 v2 μ = some x) : kbFr [1, 11] [] μ x := by
  unfold jn_BT_product_32 at h
  rcases kb_ite h with h | h
  · skip
    exact kbFr.tr kbFr.rf (kbFr.up (by decide) (by decide) (fr_jn_BT_product_48 hre hrec h))
  exact kbFr.tr kbFr.rf (kbFr.up (by decide) (by decide) (fr_jn_BT_product_48 hre hrec h))
theorem fr_lp_BT_product_7 {n : Nat} {v1 : Int32} {re : Int32 → kbM → Option kbM} (hre : ∀ {a : Int32} {μ x : kbM}, re a μ = some x → kbFr [1, 11] [] μ x) {k : Nat} : ∀ {v2 : Int32} {μ : kbM} {x : kbM}, lp_BT_product_7 n re v1 k v2 μ = some x → kbFr [1, 11] [] μ x := by
  induction k with
  | zero => intro v2 μ x h; cases h
  | succ k ih =>
    intro v2 μ x h
    unfold lp_BT_product_7 at h
    rcases kb_ite h with h | h
    · skip
      cases h
      exact kbFr.rf
    rcases kb_ite h with h | h
    · skip
      exact kbFr.tr kbFr.rf (kbFr.up (by decide) (by decide) (fr_jn_BT_product_32 hre (fun h => ih h) h))
    rcases kb_ite h with h | h
    · skip
      exact kbFr.tr kbFr.rf (kbFr.up (by decide) (by decide) (fr_jn_BT_product_32 hre (fun h => ih h) h))
    cases h
    exact kbFr.rf
theorem fr_jn_BT_product_69 {n : Nat} {μ : kbM} {re : Int32 → kbM → Option kbM} (hre : ∀ {a : Int32} {μ x : kbM}, re a μ = some x → kbFr [1, 11] [] μ x) {x : kbM} (h : jn_BT_product_69 n re μ = some x) : kbFr [1, 11] [] μ x := by
  unfold jn_BT_product_69 at h
  cases h
  exact kbFr.rf
theorem fr_f_BT_product {n : Nat} {a1 : Int32} {μ : kbM} {re : Int32 → kbM → Option kbM} (hre : ∀ {a : Int32} {μ x : kbM}, re a μ = some x → kbFr [1, 11] [] μ x) {x : kbM} (h : f_BT_product n re a1 μ = some x) : kbFr [1, 11] [] μ x := by
  unfold f_BT_product at h
  obtain ⟨x1, ex1, h⟩ := kb_bind h
  have fx1 := kbFr.tr (C := [1, 11]) (S := []) kbFr.rf (kbFr.up (by decide) (by decide) (fr_f_BT_operand hre ex1))
  obtain ⟨x5, ex5, h⟩ := kb_bind h
  have fx5 := kbFr.tr (C := [1, 11]) (S := []) fx1 (kbFr.up (by decide) (by decide) (fr_lp_BT_product_7 hre ex5))
  exact kbFr.tr fx5 (kbFr.up (by decide) (by decide) (fr_jn_BT_product_69 hre h))
theorem fr_jn_BT_sum_48 {n : Nat} {v1 : Int32} {v2 : Int32} {w0 : Int32} {μ : kbM} {re : Int32 → kbM → Option kbM} (hre : ∀ {a : Int32} {μ x : kbM}, re a μ = some x → kbFr [1, 11] [] μ x) {rec : Int32 → kbM → Option (kbM)} (hrec : ∀ {y0 : Int32} {y1 : kbM} {x : kbM}, rec y0 y1 = some x → kbFr [1, 11] [] y1 x) {x : kbM} (h : jn_BT_sum_48 n re rec v1 v2 w0 μ = some x) : kbFr [1, 11] [] μ x := by
  unfold jn_BT_sum_48 at h
  obtain ⟨x2, ex2, h⟩ := kb_bind h
  have fx2 := kbFr.tr (C := [1, 11]) (S := []) kbFr.rf (kbFr.up (by decide) (by decide) (fr_f_BT_advance ex2))
  obtain ⟨x3, ex3, h⟩ := kb_bind h
  have fx3 := kbFr.tr (C := [1, 11]) (S := []) fx2 (kbFr.up (by decide) (by decide) (fr_f_BT_product hre ex3))
  obtain ⟨x4, ex4, h⟩ := kb_bind h
  have fx4 := kbFr.tr (C := [1, 11]) (S := []) fx3 (kbFr.up (by decide) (by decide) (fr_f_BT_emit ex4))
  exact kbFr.tr fx4 (hrec h)
theorem fr_jn_BT_sum_32 {n : Nat} {v1 : Int32} {v2 : Int32} {μ : kbM} {re : Int32 → kbM → Option kbM} (hre : ∀ {a : Int32} {μ x : kbM}, re a μ = some x → kbFr [1, 11] [] μ x) {rec : Int32 → kbM → Option (kbM)} (hrec : ∀ {y0 : Int32} {y1 : kbM} {x : kbM}, rec y0 y1 = some x → kbFr [1, 11] [] y1 x) {x : kbM} (h : jn_BT_sum_32 n re rec v1 v2 μ = some x) : kbFr [1, 11] [] μ x := by
  unfold jn_BT_sum_32 at h
  rcases kb_ite h with h | h
  · skip
    exact kbFr.tr kbFr.rf (kbFr.up (by decide) (by decide) (fr_jn_BT_sum_48 hre hrec h))
  exact kbFr.tr kbFr.rf (kbFr.up (by decide) (by decide) (fr_jn_BT_sum_48 hre hrec h))
theorem fr_lp_BT_sum_7 {n : Nat} {v1 : Int32} {re : Int32 → kbM → Option kbM} (hre : ∀ {a : Int32} {μ x : kbM}, re a μ = some x → kbFr [1, 11] [] μ x) {k : Nat} : ∀ {v2 : Int32} {μ : kbM} {x : kbM}, lp_BT_sum_7 n re v1 k v2 μ = some x → kbFr [1, 11] [] μ x := by
  induction k with
  | zero => intro v2 μ x h; cases h
  | succ k ih =>
    intro v2 μ x h
    unfold lp_BT_sum_7 at h
    rcases kb_ite h with h | h
    · skip
      cases h
      exact kbFr.rf
    rcases kb_ite h with h | h
    · skip
      exact kbFr.tr kbFr.rf (kbFr.up (by decide) (by decide) (fr_jn_BT_sum_32 hre (fun h => ih h) h))
    rcases kb_ite h with h | h
    · skip
      exact kbFr.tr kbFr.rf (kbFr.up (by decide) (by decide) (fr_jn_BT_sum_32 hre (fun h => ih h) h))
    cases h
    exact kbFr.rf
theorem fr_jn_BT_sum_69 {n : Nat} {μ : kbM} {re : Int32 → kbM → Option kbM} (hre : ∀ {a : Int32} {μ x : kbM}, re a μ = some x → kbFr [1, 11] [] μ x) {x : kbM} (h : jn_BT_sum_69 n re μ = some x) : kbFr [1, 11] [] μ x := by
  unfold jn_BT_sum_69 at h
  cases h
  exact kbFr.rf
theorem fr_f_BT_sum {n : Nat} {a1 : Int32} {μ : kbM} {re : Int32 → kbM → Option kbM} (hre : ∀ {a : Int32} {μ x : kbM}, re a μ = some x → kbFr [1, 11] [] μ x) {x : kbM} (h : f_BT_sum n re a1 μ = some x) : kbFr [1, 11] [] μ x := by
  unfold f_BT_sum at h
  obtain ⟨x1, ex1, h⟩ := kb_bind h
  have fx1 := kbFr.tr (C := [1, 11]) (S := []) kbFr.rf (kbFr.up (by decide) (by decide) (fr_f_BT_product hre ex1))
  obtain ⟨x5, ex5, h⟩ := kb_bind h
  have fx5 := kbFr.tr (C := [1, 11]) (S := []) fx1 (kbFr.up (by decide) (by decide) (fr_lp_BT_sum_7 hre ex5))
  exact kbFr.tr fx5 (kbFr.up (by decide) (by decide) (fr_jn_BT_sum_69 hre h))
theorem fr_jn_BT_comparison_54 {n : Nat} {μ : kbM} {re : Int32 → kbM → Option kbM} (hre : ∀ {a : Int32} {μ x : kbM}, re a μ = some x → kbFr [1, 11] [] μ x) {x : kbM} (h : jn_BT_comparison_54 n re μ = some x) : kbFr [1, 11] [] μ x := by
  unfold jn_BT_comparison_54 at h
  cases h
  exact kbFr.rf
theorem fr_jn_BT_comparison_39 {n : Nat} {v1 : Int32} {w0 : Int32} {μ : kbM} {re : Int32 → kbM → Option kbM} (hre : ∀ {a : Int32} {μ x : kbM}, re a μ = some x → kbFr [1, 11] [] μ x) {x : kbM} (h : jn_BT_comparison_39 n re v1 w0 μ = some x) : kbFr [1, 11] [] μ x := by
  unfold jn_BT_comparison_39 at h
  obtain ⟨x2, ex2, h⟩ := kb_bind h
  have fx2 := kbFr.tr (C := [1, 11]) (S := []) kbFr.rf (kbFr.up (by decide) (by decide) (fr_f_BT_advance ex2))
  obtain ⟨x3, ex3, h⟩ := kb_bind h
  have fx3 := kbFr.tr (C := [1, 11]) (S := []) fx2 (kbFr.up (by decide) (by decide) (fr_f_BT_sum hre ex3))
  obtain ⟨x4, ex4, h⟩ := kb_bind h
  have fx4 := kbFr.tr (C := [1, 11]) (S := []) fx3 (kbFr.up (by decide) (by decide) (fr_f_BT_emit ex4))
  exact kbFr.tr fx4 (kbFr.up (by decide) (by decide) (fr_jn_BT_comparison_54 hre h))
theorem fr_jn_BT_comparison_23 {n : Nat} {v1 : Int32} {μ : kbM} {re : Int32 → kbM → Option kbM} (hre : ∀ {a : Int32} {μ x : kbM}, re a μ = some x → kbFr [1, 11] [] μ x) {x : kbM} (h : jn_BT_comparison_23 n re v1 μ = some x) : kbFr [1, 11] [] μ x := by
  unfold jn_BT_comparison_23 at h
  rcases kb_ite h with h | h
  · skip
    exact kbFr.tr kbFr.rf (kbFr.up (by decide) (by decide) (fr_jn_BT_comparison_39 hre h))
  exact kbFr.tr kbFr.rf (kbFr.up (by decide) (by decide) (fr_jn_BT_comparison_39 hre h))
theorem fr_f_BT_comparison {n : Nat} {a1 : Int32} {μ : kbM} {re : Int32 → kbM → Option kbM} (hre : ∀ {a : Int32} {μ x : kbM}, re a μ = some x → kbFr [1, 11] [] μ x) {x : kbM} (h : f_BT_comparison n re a1 μ = some x) : kbFr [1, 11] [] μ x := by
  unfold f_BT_comparison at h
  obtain ⟨x1, ex1, h⟩ := kb_bind h
  have fx1 := kbFr.tr (C := [1, 11]) (S := []) kbFr.rf (kbFr.up (by decide) (by decide) (fr_f_BT_sum hre ex1))
  rcases kb_ite h with h | h
  · skip
    exact kbFr.tr fx1 (kbFr.up (by decide) (by decide) (fr_jn_BT_comparison_23 hre h))
  rcases kb_ite h with h | h
  · skip
    exact kbFr.tr fx1 (kbFr.up (by decide) (by decide) (fr_jn_BT_comparison_23 hre h))
  exact kbFr.tr fx1 (kbFr.up (by decide) (by decide) (fr_jn_BT_comparison_54 hre h))
theorem fr_lp_BT_negation_2 {n : Nat} {v1 : Int32} {re : Int32 → kbM → Option kbM} (hre : ∀ {a : Int32} {μ x : kbM}, re a μ = some x → kbFr [1, 11] [] μ x) {k : Nat} : ∀ {v2 : Int32} {μ : kbM} {x : Int32 × kbM}, lp_BT_negation_2 n re v1 k v2 μ = some x → kbFr [1, 11] [] μ x.2 := by
  induction k with
  | zero => intro v2 μ x h; cases h
  | succ k ih =>
    intro v2 μ x h
    unfold lp_BT_negation_2 at h
    rcases kb_ite h with h | h
    · skip
      cases h
      exact kbFr.rf
    obtain ⟨x1, ex1, h⟩ := kb_bind h
    rcases kb_ite h with h | h
    · skip
      cases h
      exact kbFr.rf
    obtain ⟨x2, ex2, h⟩ := kb_bind h
    have fx2 := kbFr.tr (C := [1, 11]) (S := []) kbFr.rf (kbFr.up (by decide) (by decide) (fr_f_BT_advance ex2))
    exact kbFr.tr fx2 (ih h)
theorem fr_lp_BT_negation_49 {n : Nat} {v2 : Int32} {re : Int32 → kbM → Option kbM} (hre : ∀ {a : Int32} {μ x : kbM}, re a μ = some x → kbFr [1, 11] [] μ x) {k : Nat} : ∀ {v3 : Int32} {μ : kbM} {x : kbM}, lp_BT_negation_49 n re v2 k v3 μ = some x → kbFr [1, 11] [] μ x := by
  induction k with
  | zero => intro v3 μ x h; cases h
  | succ k ih =>
    intro v3 μ x h
    unfold lp_BT_negation_49 at h
    rcases kb_ite h with h | h
    · skip
      cases h
      exact kbFr.rf
    obtain ⟨x6, ex6, h⟩ := kb_bind h
    have fx6 := kbFr.tr (C := [1, 11]) (S := []) kbFr.rf (kbFr.up (by decide) (by decide) (fr_f_BT_emit ex6))
    exact kbFr.tr fx6 (ih h)
theorem fr_jn_BT_negation_42 {n : Nat} {v1 : Int32} {v2 : Int32} {μ : kbM} {re : Int32 → kbM → Option kbM} (hre : ∀ {a : Int32} {μ x : kbM}, re a μ = some x → kbFr [1, 11] [] μ x) {x : kbM} (h : jn_BT_negation_42 n re v1 v2 μ = some x) : kbFr [1, 11] [] μ x := by
  unfold jn_BT_negation_42 at h
  obtain ⟨x5, ex5, h⟩ := kb_bind h
  have fx5 := kbFr.tr (C := [1, 11]) (S := []) kbFr.rf (kbFr.up (by decide) (by decide) (fr_f_BT_comparison hre ex5))
  obtain ⟨x7, ex7, h⟩ := kb_bind h
  have fx7 := kbFr.tr (C := [1, 11]) (S := []) fx5 (kbFr.up (by decide) (by decide) (fr_lp_BT_negation_49 hre ex7))
  cases h
  exact fx7
theorem fr_jn_BT_negation_27 {n : Nat} {v1 : Int32} {v2 : Int32} {μ : kbM} {re : Int32 → kbM → Option kbM} (hre : ∀ {a : Int32} {μ x : kbM}, re a μ = some x → kbFr [1, 11] [] μ x) {x : kbM} (h : jn_BT_negation_27 n re v1 v2 μ = some x) : kbFr [1, 11] [] μ x := by
  unfold jn_BT_negation_27 at h
  obtain ⟨x4, ex4, h⟩ := kb_bind h
  rcases kb_ite h with h | h
  · skip
    exact kbFr.tr kbFr.rf (kbFr.up (by decide) (by decide) (fr_jn_BT_negation_42 hre h))
  obtain ⟨x8, ex8, h⟩ := kb_bind h
  have fx8 := kbFr.tr (C := [1, 11]) (S := []) kbFr.rf (kbFr.up (by decide) (by decide) (fr_f_BT_fail ex8))
  exact kbFr.tr fx8 (kbFr.up (by decide) (by decide) (fr_jn_BT_negation_42 hre h))
theorem fr_f_BT_negation {n : Nat} {a1 : Int32} {μ : kbM} {re : Int32 → kbM → Option kbM} (hre : ∀ {a : Int32} {μ x : kbM}, re a μ = some x → kbFr [1, 11] [] μ x) {x : kbM} (h : f_BT_negation n re a1 μ = some x) : kbFr [1, 11] [] μ x := by
  unfold f_BT_negation at h
  obtain ⟨x3, ex3, h⟩ := kb_bind h
  have fx3 := kbFr.tr (C := [1, 11]) (S := []) kbFr.rf (kbFr.up (by decide) (by decide) (fr_lp_BT_negation_2 hre ex3))
  exact kbFr.tr fx3 (kbFr.up (by decide) (by decide) (fr_jn_BT_negation_27 hre h))
theorem fr_lp_BT_conjunction_7 {n : Nat} {v1 : Int32} {re : Int32 → kbM → Option kbM} (hre : ∀ {a : Int32} {μ x : kbM}, re a μ = some x → kbFr [1, 11] [] μ x) {k : Nat} : ∀ {v2 : Int32} {μ : kbM} {x : kbM}, lp_BT_conjunction_7 n re v1 k v2 μ = some x → kbFr [1, 11] [] μ x := by
  induction k with
  | zero => intro v2 μ x h; cases h
  | succ k ih =>
    intro v2 μ x h
    unfold lp_BT_conjunction_7 at h
    rcases kb_ite h with h | h
    · skip
      cases h
      exact kbFr.rf
    obtain ⟨x2, ex2, h⟩ := kb_bind h
    rcases kb_ite h with h | h
    · skip
      cases h
      exact kbFr.rf
    obtain ⟨x3, ex3, h⟩ := kb_bind h
    have fx3 := kbFr.tr (C := [1, 11]) (S := []) kbFr.rf (kbFr.up (by decide) (by decide) (fr_f_BT_advance ex3))
    obtain ⟨x4, ex4, h⟩ := kb_bind h
    have fx4 := kbFr.tr (C := [1, 11]) (S := []) fx3 (kbFr.up (by decide) (by decide) (fr_f_BT_negation hre ex4))
    obtain ⟨x5, ex5, h⟩ := kb_bind h
    have fx5 := kbFr.tr (C := [1, 11]) (S := []) fx4 (kbFr.up (by decide) (by decide) (fr_f_BT_emit ex5))
    exact kbFr.tr fx5 (ih h)
theorem fr_jn_BT_conjunction_44 {n : Nat} {μ : kbM} {re : Int32 → kbM → Option kbM} (hre : ∀ {a : Int32} {μ x : kbM}, re a μ = some x → kbFr [1, 11] [] μ x) {x : kbM} (h : jn_BT_conjunction_44 n re μ = some x) : kbFr [1, 11] [] μ x := by
  unfold jn_BT_conjunction_44 at h
  cases h
  exact kbFr.rf
theorem fr_f_BT_conjunction {n : Nat} {a1 : Int32} {μ : kbM} {re : Int32 → kbM → Option kbM} (hre : ∀ {a : Int32} {μ x : kbM}, re a μ = some x → kbFr [1, 11] [] μ x) {x : kbM} (h : f_BT_conjunction n re a1 μ = some x) : kbFr [1, 11] [] μ x := by
  unfold f_BT_conjunction at h
  obtain ⟨x1, ex1, h⟩ := kb_bind h
  have fx1 := kbFr.tr (C := [1, 11]) (S := []) kbFr.rf (kbFr.up (by decide) (by decide) (fr_f_BT_negation hre ex1))
  obtain ⟨x6, ex6, h⟩ := kb_bind h
  have fx6 := kbFr.tr (C := [1, 11]) (S := []) fx1 (kbFr.up (by decide) (by decide) (fr_lp_BT_conjunction_7 hre ex6))
  exact kbFr.tr fx6 (kbFr.up (by decide) (by decide) (fr_jn_BT_conjunction_44 hre h))
theorem fr_lp_BT_expr_44 {n : Nat} {v1 : Int32} {re : Int32 → kbM → Option kbM} (hre : ∀ {a : Int32} {μ x : kbM}, re a μ = some x → kbFr [1, 11] [] μ x) {k : Nat} : ∀ {v2 : Int32} {μ : kbM} {x : kbM}, lp_BT_expr_44 n re v1 k v2 μ = some x → kbFr [1, 11] [] μ x := by
  induction k with
  | zero => intro v2 μ x h; cases h
  | succ k ih =>
    intro v2 μ x h
    unfold lp_BT_expr_44 at h
    rcases kb_ite h with h | h
    · skip
      cases h
      exact kbFr.rf
    obtain ⟨x2, ex2, h⟩ := kb_bind h
    rcases kb_ite h with h | h
    · skip
      cases h
      exact kbFr.rf
    obtain ⟨x3, ex3, h⟩ := kb_bind h
    have fx3 := kbFr.tr (C := [1, 11]) (S := []) kbFr.rf (kbFr.up (by decide) (by decide) (fr_f_BT_advance ex3))
    obtain ⟨x4, ex4, h⟩ := kb_bind h
    have fx4 := kbFr.tr (C := [1, 11]) (S := []) fx3 (kbFr.up (by decide) (by decide) (fr_f_BT_conjunction hre ex4))
    obtain ⟨x5, ex5, h⟩ := kb_bind h
    have fx5 := kbFr.tr (C := [1, 11]) (S := []) fx4 (kbFr.up (by decide) (by decide) (fr_f_BT_emit ex5))
    exact kbFr.tr fx5 (ih h)
theorem fr_jn_BT_expr_81 {n : Nat} {μ : kbM} {re : Int32 → kbM → Option kbM} (hre : ∀ {a : Int32} {μ x : kbM}, re a μ = some x → kbFr [1, 11] [] μ x) {x : kbM} (h : jn_BT_expr_81 n re μ = some x) : kbFr [1, 11] [] μ x := by
  unfold jn_BT_expr_81 at h
  cases h
  exact kbFr.rf
theorem fr_jn_BT_expr_37 {n : Nat} {v1 : Int32} {μ : kbM} {re : Int32 → kbM → Option kbM} (hre : ∀ {a : Int32} {μ x : kbM}, re a μ = some x → kbFr [1, 11] [] μ x) {x : kbM} (h : jn_BT_expr_37 n re v1 μ = some x) : kbFr [1, 11] [] μ x := by
  unfold jn_BT_expr_37 at h
  obtain ⟨x1, ex1, h⟩ := kb_bind h
  have fx1 := kbFr.tr (C := [1, 11]) (S := []) kbFr.rf (kbFr.up (by decide) (by decide) (fr_f_BT_conjunction hre ex1))
  obtain ⟨x6, ex6, h⟩ := kb_bind h
  have fx6 := kbFr.tr (C := [1, 11]) (S := []) fx1 (kbFr.up (by decide) (by decide) (fr_lp_BT_expr_44 hre ex6))
  exact kbFr.tr fx6 (kbFr.up (by decide) (by decide) (fr_jn_BT_expr_81 hre h))
theorem fr_jn_BT_expr_31 {n : Nat} {v1 : Int32} {μ : kbM} {re : Int32 → kbM → Option kbM} (hre : ∀ {a : Int32} {μ x : kbM}, re a μ = some x → kbFr [1, 11] [] μ x) {x : kbM} (h : jn_BT_expr_31 n re v1 μ = some x) : kbFr [1, 11] [] μ x := by
  unfold jn_BT_expr_31 at h
  obtain ⟨x7, ex7, h⟩ := kb_bind h
  have fx7 := kbFr.tr (C := [1, 11]) (S := []) kbFr.rf (kbFr.up (by decide) (by decide) (fr_f_BT_fail ex7))
  exact kbFr.tr fx7 (kbFr.up (by decide) (by decide) (fr_jn_BT_expr_37 hre h))
theorem fr_f_BT_expr {n : Nat} {a1 : Int32} {μ : kbM} {re : Int32 → kbM → Option kbM} (hre : ∀ {a : Int32} {μ x : kbM}, re a μ = some x → kbFr [1, 11] [] μ x) {x : kbM} (h : f_BT_expr n re a1 μ = some x) : kbFr [1, 11] [] μ x := by
  unfold f_BT_expr at h
  rcases kb_ite h with h | h
  · skip
    exact kbFr.tr kbFr.rf (kbFr.up (by decide) (by decide) (fr_jn_BT_expr_37 hre h))
  rcases kb_ite h with h | h
  · skip
    exact kbFr.tr kbFr.rf (kbFr.up (by decide) (by decide) (fr_jn_BT_expr_31 hre h))
  rcases kb_ite h with h | h
  · skip
    exact kbFr.tr kbFr.rf (kbFr.up (by decide) (by decide) (fr_jn_BT_expr_31 hre h))
  rcases kb_ite h with h | h
  · skip
    exact kbFr.tr kbFr.rf (kbFr.up (by decide) (by decide) (fr_jn_BT_expr_31 hre h))
  exact kbFr.tr kbFr.rf (kbFr.up (by decide) (by decide) (fr_jn_BT_expr_37 hre h))
theorem fr_F_BT_expr {n : Nat} : ∀ {k : Nat} {a : Int32} {μ x : kbM}, F_BT_expr n k a μ = some x → kbFr [1, 11] [] μ x := by
  intro k
  induction k with
  | zero => intro a μ x h; cases h
  | succ k ih => intro a μ x h; exact fr_f_BT_expr (fun h => ih h) h
theorem fr_jn_BT_joinsLine_13 {n : Nat} {μ : kbM} {x : kbM} (h : jn_BT_joinsLine_13 n μ = some x) : kbFr [1, 11] [] μ x := by
  unfold jn_BT_joinsLine_13 at h
  obtain ⟨x1, ex1, h⟩ := kb_bind h
  have fx1 := kbFr.tr (C := [1, 11]) (S := []) kbFr.rf (kbFr.up (by decide) (by decide) (fr_f_BT_advance ex1))
  obtain ⟨x2, ex2, h⟩ := kb_bind h
  have fx2 := kbFr.tr (C := [1, 11]) (S := []) fx1 (kbFr.up (by decide) (by decide) (fr_F_BT_expr ex2))
  cases h
  exact fx2
theorem fr_f_BT_joinsLine {n : Nat} {μ : kbM} {x : kbM} (h : f_BT_joinsLine n μ = some x) : kbFr [1, 11] [] μ x := by
  unfold f_BT_joinsLine at h
  rcases kb_ite h with h | h
  · skip
    exact kbFr.tr kbFr.rf (kbFr.up (by decide) (by decide) (fr_jn_BT_joinsLine_13 h))
  obtain ⟨x3, ex3, h⟩ := kb_bind h
  have fx3 := kbFr.tr (C := [1, 11]) (S := []) kbFr.rf (kbFr.up (by decide) (by decide) (fr_f_BT_fail ex3))
  exact kbFr.tr fx3 (kbFr.up (by decide) (by decide) (fr_jn_BT_joinsLine_13 h))
theorem fr_lp_BT_isOfSounds_21 {n : Nat} {μ : kbM} {k : Nat} : ∀ {v1 : Int32} {x : (Int32 × kbM) ⊕ (Unit)}, lp_BT_isOfSounds_21 n μ k v1 = some x → Sum.elim (fun z => kbFr [1] [] μ z.2) (fun _ => True) x := by
  induction k with
  | zero => intro v1 x h; cases h
  | succ k ih =>
    intro v1 x h
    unfold lp_BT_isOfSounds_21 at h
    rcases kb_ite h with h | h
    · skip
      cases h
      exact trivial
    obtain ⟨x1, ex1, h⟩ := kb_bind h
    obtain ⟨x2, ex2, h⟩ := kb_bind h
    rcases kb_ite h with h | h
    · skip
      obtain ⟨x3, ex3, h⟩ := kb_bind h
      have fx3 := kbFr.tr (C := [1]) (S := []) kbFr.rf (kbFr.up (by decide) (by decide) (fr_f_BT_fail ex3))
      cases h
      exact fx3
    exact (ih h)
theorem fr_f_BT_isOfSounds {n : Nat} {μ : kbM} {x : Int32 × kbM} (h : f_BT_isOfSounds n μ = some x) : kbFr [1] [] μ x.2 := by
  unfold f_BT_isOfSounds at h
  rcases kb_ite h with h | h
  · skip
    rcases kb_orS h with ⟨r5, er5, h⟩ | ⟨x4, ex4, h⟩
    · skip
      have fr5 := kbFr.tr (C := [1]) (S := []) kbFr.rf (kbFr.up (by decide) (by decide) (fr_lp_BT_isOfSounds_21 er5))
      cases h
      exact fr5
    cases h
    exact kbFr.rf
  obtain ⟨x6, ex6, h⟩ := kb_bind h
  have fx6 := kbFr.tr (C := [1]) (S := []) kbFr.rf (kbFr.up (by decide) (by decide) (fr_f_BT_fail ex6))
  cases h
  exact fx6
theorem fr_lp_BT_handTold_16 {n : Nat} {μ : kbM} {k : Nat} : ∀ {v1 : Int32} {v2 : Int32} {x : (Int32 × kbM) ⊕ (Int32)}, lp_BT_handTold_16 n μ k v1 v2 = some x → Sum.elim (fun z => kbFr [1] [] μ z.2) (fun _ => True) x := by
  induction k with
  | zero => intro v1 v2 x h; cases h
  | succ k ih =>
    intro v1 v2 x h
    unfold lp_BT_handTold_16 at h
    rcases kb_ite h with h | h
    · skip
      cases h
      exact trivial
    obtain ⟨x2, ex2, h⟩ := kb_bind h
    obtain ⟨x3, ex3, h⟩ := kb_bind h
    obtain ⟨x4, ex4, h⟩ := kb_bind h
    rcases kb_ite h with h | h
    · skip
      exact (ih h)
    obtain ⟨x5, ex5, h⟩ := kb_bind h
    have fx5 := kbFr.tr (C := [1]) (S := []) kbFr.rf (kbFr.up (by decide) (by decide) (fr_f_BT_fail ex5))
    cases h
    exact fx5
theorem fr_f_BT_handTold {n : Nat} {μ : kbM} {x : Int32 × kbM} (h : f_BT_handTold n μ = some x) : kbFr [1] [] μ x.2 := by
  unfold f_BT_handTold at h
  obtain ⟨x1, ex1, h⟩ := kb_bind h
  have fx1 := kbFr.tr (C := [1]) (S := []) kbFr.rf (kbFr.up (by decide) (by decide) (fr_f_BT_isOfSounds ex1))
  rcases kb_ite h with h | h
  · skip
    cases h
    exact fx1
  rcases kb_orS h with ⟨r7, er7, h⟩ | ⟨x6, ex6, h⟩
  · skip
    have fr7 := kbFr.tr (C := [1]) (S := []) fx1 (kbFr.up (by decide) (by decide) (fr_lp_BT_handTold_16 er7))
    cases h
    exact fr7
  cases h
  exact fx1
theorem fr_jn_DO_add_8_39 {μ : kbM} {x : kbM} (h : jn_DO_add_8_39 μ = some x) : kbFr [] [] μ x := by
  unfold jn_DO_add_8_39 at h
  cases h
  exact kbFr.rf
theorem fr_f_DO_add_8 {a1 : Int32} {a2 : Int32} {μ : kbM} {x : kbM} (h : f_DO_add_8 a1 a2 μ = some x) : kbFr [8, 9, 10] [] μ x := by
  unfold f_DO_add_8 at h
  rcases kb_ite h with h | h
  · skip
    exact kbFr.tr kbFr.rf (kbFr.up (by decide) (by decide) (fr_jn_DO_add_8_39 h))
  replace h := (kbIf_some h).2
  replace h := (kbIf_some h).2
  exact kbFr.tr (kbFr.w (kbFr.w (kbFr.w kbFr.rf (by decide)) (by decide)) (by decide)) (kbFr.up (by decide) (by decide) (fr_jn_DO_add_8_39 h))
theorem fr_jn_BT_doorLine_47 {n : Nat} {μ : kbM} {x : kbM} (h : jn_BT_doorLine_47 n μ = some x) : kbFr [] [] μ x := by
  unfold jn_BT_doorLine_47 at h
  cases h
  exact kbFr.rf
theorem fr_jn_BT_doorLine_18 {n : Nat} {v1 : Int32} {μ : kbM} {x : kbM} (h : jn_BT_doorLine_18 n v1 μ = some x) : kbFr [1, 8, 9, 10] [] μ x := by
  unfold jn_BT_doorLine_18 at h
  obtain ⟨x1, ex1, h⟩ := kb_bind h
  have fx1 := kbFr.tr (C := [1, 8, 9, 10]) (S := []) kbFr.rf (kbFr.up (by decide) (by decide) (fr_f_BT_advance ex1))
  obtain ⟨x2, ex2, h⟩ := kb_bind h
  have fx2 := kbFr.tr (C := [1, 8, 9, 10]) (S := []) fx1 (kbFr.up (by decide) (by decide) (fr_f_BT_handTold ex2))
  obtain ⟨x3, ex3, h⟩ := kb_bind h
  have fx3 := kbFr.tr (C := [1, 8, 9, 10]) (S := []) fx2 (kbFr.up (by decide) (by decide) (fr_f_BT_advance ex3))
  rcases kb_ite h with h | h
  · skip
    obtain ⟨x4, ex4, h⟩ := kb_bind h
    have fx4 := kbFr.tr (C := [1, 8, 9, 10]) (S := []) fx3 (kbFr.up (by decide) (by decide) (fr_f_DO_add_8 ex4))
    exact kbFr.tr fx4 (kbFr.up (by decide) (by decide) (fr_jn_BT_doorLine_47 h))
  exact kbFr.tr fx3 (kbFr.up (by decide) (by decide) (fr_jn_BT_doorLine_47 h))
theorem fr_f_BT_doorLine {n : Nat} {a1 : Int32} {μ : kbM} {x : kbM} (h : f_BT_doorLine n a1 μ = some x) : kbFr [1, 8, 9, 10] [] μ x := by
  unfold f_BT_doorLine at h
  rcases kb_ite h with h | h
  · skip
    exact kbFr.tr kbFr.rf (kbFr.up (by decide) (by decide) (fr_jn_BT_doorLine_18 h))
  obtain ⟨x5, ex5, h⟩ := kb_bind h
  have fx5 := kbFr.tr (C := [1, 8, 9, 10]) (S := []) kbFr.rf (kbFr.up (by decide) (by decide) (fr_f_BT_fail ex5))
  exact kbFr.tr fx5 (kbFr.up (by decide) (by decide) (fr_jn_BT_doorLine_18 h))
theorem fr_jn_BT_rowTold_84 {n : Nat} {w0 : Int32} {μ : kbM} {x : Int32 × kbM} (h : jn_BT_rowTold_84 n w0 μ = some x) : kbFr [] [] μ x.2 := by
  unfold jn_BT_rowTold_84 at h
  cases h
  exact kbFr.rf
theorem fr_f_BT_rowTold {n : Nat} {μ : kbM} {x : Int32 × kbM} (h : f_BT_rowTold n μ = some x) : kbFr [1] [] μ x.2 := by
  unfold f_BT_rowTold at h
  obtain ⟨x1, ex1, h⟩ := kb_bind h
  have fx1 := kbFr.tr (C := [1]) (S := []) kbFr.rf (kbFr.up (by decide) (by decide) (fr_f_BT_isOfSounds ex1))
  rcases kb_ite h with h | h
  · skip
    cases h
    exact fx1
  rcases kb_ite h with h | h
  · skip
    obtain ⟨x4, ex4, h⟩ := kb_bind h
    obtain ⟨x5, ex5, h⟩ := kb_bind h
    rcases kb_ite h with h | h
    · skip
      exact kbFr.tr fx1 (kbFr.up (by decide) (by decide) (fr_jn_BT_rowTold_84 h))
    obtain ⟨x6, ex6, h⟩ := kb_bind h
    have fx6 := kbFr.tr (C := [1]) (S := []) fx1 (kbFr.up (by decide) (by decide) (fr_f_BT_fail ex6))
    exact kbFr.tr fx6 (kbFr.up (by decide) (by decide) (fr_jn_BT_rowTold_84 h))
  obtain ⟨x7, ex7, h⟩ := kb_bind h
  have fx7 := kbFr.tr (C := [1]) (S := []) fx1 (kbFr.up (by decide) (by decide) (fr_f_BT_fail ex7))
  cases h
  exact fx7
theorem fr_jn_BT_worthTold_34 {n : Nat} {w0 : Int32} {μ : kbM} {x : Int32 × kbM} (h : jn_BT_worthTold_34 n w0 μ = some x) : kbFr [] [] μ x.2 := by
  unfold jn_BT_worthTold_34 at h
  cases h
  exact kbFr.rf
theorem fr_f_BT_worthTold {n : Nat} {μ : kbM} {x : Int32 × kbM} (h : f_BT_worthTold n μ = some x) : kbFr [1] [] μ x.2 := by
  unfold f_BT_worthTold at h
  rcases kb_ite h with h | h
  · skip
    obtain ⟨x1, ex1, h⟩ := kb_bind h
    have fx1 := kbFr.tr (C := [1]) (S := []) kbFr.rf (kbFr.up (by decide) (by decide) (fr_f_BT_numberTold ex1))
    rcases kb_ite h with h | h
    · skip
      obtain ⟨x2, ex2, h⟩ := kb_bind h
      have fx2 := kbFr.tr (C := [1]) (S := []) fx1 (kbFr.up (by decide) (by decide) (fr_f_BT_fail ex2))
      exact kbFr.tr fx2 (kbFr.up (by decide) (by decide) (fr_jn_BT_worthTold_34 h))
    exact kbFr.tr fx1 (kbFr.up (by decide) (by decide) (fr_jn_BT_worthTold_34 h))
  obtain ⟨x3, ex3, h⟩ := kb_bind h
  have fx3 := kbFr.tr (C := [1]) (S := []) kbFr.rf (kbFr.up (by decide) (by decide) (fr_f_BT_fail ex3))
  cases h
  exact fx3
theorem fr_f_WO_move_3 {a1 : Int32} {a2 : Int32} {μ : kbM} {x : kbM} (h : f_WO_move_3 a1 a2 μ = some x) : kbFr [4, 5, 6, 7] [] μ x := by
  unfold f_WO_move_3 at h
  replace h := (kbIf_some h).2
  replace h := (kbIf_some h).2
  replace h := (kbIf_some h).2
  replace h := (kbIf_some h).2
  replace h := (kbIf_some h).2
  replace h := (kbIf_some h).2
  replace h := (kbIf_some h).2
  replace h := (kbIf_some h).2
  cases h
  exact (kbFr.w (kbFr.w (kbFr.w (kbFr.w kbFr.rf (by decide)) (by decide)) (by decide)) (by decide))
theorem fr_jn_WO_insert_3_21 {n : Nat} {μ : kbM} {x : kbM} (h : jn_WO_insert_3_21 n μ = some x) : kbFr [] [] μ x := by
  unfold jn_WO_insert_3_21 at h
  cases h
  exact kbFr.rf
theorem fr_lp_WO_insert_3_28 {n : Nat} {v1 : Int32} {v2 : Int32} {v3 : Int32} {v4 : Int32} {k : Nat} : ∀ {v5 : Int32} {μ : kbM} {x : kbM}, lp_WO_insert_3_28 n v1 v2 v3 v4 k v5 μ = some x → kbFr [4, 5, 6, 7] [] μ x := by
  induction k with
  | zero => intro v5 μ x h; cases h
  | succ k ih =>
    intro v5 μ x h
    unfold lp_WO_insert_3_28 at h
    rcases kb_ite h with h | h
    · skip
      cases h
      exact kbFr.rf
    obtain ⟨x1, ex1, h⟩ := kb_bind h
    have fx1 := kbFr.tr (C := [4, 5, 6, 7]) (S := []) kbFr.rf (kbFr.up (by decide) (by decide) (fr_f_WO_move_3 ex1))
    exact kbFr.tr fx1 (ih h)
theorem fr_f_WO_insert_3 {n : Nat} {a1 : Int32} {a2 : Int32} {a3 : Int32} {a4 : Int32} {μ : kbM} {x : kbM} (h : f_WO_insert_3 n a1 a2 a3 a4 μ = some x) : kbFr [3, 4, 5, 6, 7] [] μ x := by
  unfold f_WO_insert_3 at h
  rcases kb_ite h with h | h
  · skip
    exact kbFr.tr kbFr.rf (kbFr.up (by decide) (by decide) (fr_jn_WO_insert_3_21 h))
  rcases kb_ite h with h | h
  · skip
    exact kbFr.tr kbFr.rf (kbFr.up (by decide) (by decide) (fr_jn_WO_insert_3_21 h))
  rcases kb_ite h with h | h
  · skip
    obtain ⟨x2, ex2, h⟩ := kb_bind h
    have fx2 := kbFr.tr (C := [3, 4, 5, 6, 7]) (S := []) kbFr.rf (kbFr.up (by decide) (by decide) (fr_lp_WO_insert_3_28 ex2))
    replace h := (kbIf_some h).2
    obtain ⟨x3, ex3, h⟩ := kb_bind h
    replace h := (kbIf_some h).2
    replace h := (kbIf_some h).2
    replace h := (kbIf_some h).2
    cases h
    exact (kbFr.w (kbFr.w (kbFr.w (kbFr.w (kbFr.w fx2 (by decide)) (by decide)) (by decide)) (by decide)) (by decide))
  exact kbFr.tr kbFr.rf (kbFr.up (by decide) (by decide) (fr_jn_WO_insert_3_21 h))
theorem fr_jn_BT_wordLine_64 {n : Nat} {μ : kbM} {x : kbM} (h : jn_BT_wordLine_64 n μ = some x) : kbFr [] [] μ x := by
  unfold jn_BT_wordLine_64 at h
  cases h
  exact kbFr.rf
theorem fr_jn_BT_wordLine_18 {n : Nat} {v1 : Int32} {μ : kbM} {x : kbM} (h : jn_BT_wordLine_18 n v1 μ = some x) : kbFr [1, 3, 4, 5, 6, 7] [] μ x := by
  unfold jn_BT_wordLine_18 at h
  obtain ⟨x1, ex1, h⟩ := kb_bind h
  have fx1 := kbFr.tr (C := [1, 3, 4, 5, 6, 7]) (S := []) kbFr.rf (kbFr.up (by decide) (by decide) (fr_f_BT_advance ex1))
  obtain ⟨x2, ex2, h⟩ := kb_bind h
  have fx2 := kbFr.tr (C := [1, 3, 4, 5, 6, 7]) (S := []) fx1 (kbFr.up (by decide) (by decide) (fr_f_BT_rowTold ex2))
  obtain ⟨x3, ex3, h⟩ := kb_bind h
  have fx3 := kbFr.tr (C := [1, 3, 4, 5, 6, 7]) (S := []) fx2 (kbFr.up (by decide) (by decide) (fr_f_BT_advance ex3))
  obtain ⟨x4, ex4, h⟩ := kb_bind h
  have fx4 := kbFr.tr (C := [1, 3, 4, 5, 6, 7]) (S := []) fx3 (kbFr.up (by decide) (by decide) (fr_f_BT_worthTold ex4))
  obtain ⟨x5, ex5, h⟩ := kb_bind h
  have fx5 := kbFr.tr (C := [1, 3, 4, 5, 6, 7]) (S := []) fx4 (kbFr.up (by decide) (by decide) (fr_f_BT_advance ex5))
  rcases kb_ite h with h | h
  · skip
    obtain ⟨x6, ex6, h⟩ := kb_bind h
    have fx6 := kbFr.tr (C := [1, 3, 4, 5, 6, 7]) (S := []) fx5 (kbFr.up (by decide) (by decide) (fr_f_WO_insert_3 ex6))
    exact kbFr.tr fx6 (kbFr.up (by decide) (by decide) (fr_jn_BT_wordLine_64 h))
  exact kbFr.tr fx5 (kbFr.up (by decide) (by decide) (fr_jn_BT_wordLine_64 h))
theorem fr_f_BT_wordLine {n : Nat} {a1 : Int32} {μ : kbM} {x : kbM} (h : f_BT_wordLine n a1 μ = some x) : kbFr [1, 3, 4, 5, 6, 7] [] μ x := by
  unfold f_BT_wordLine at h
  rcases kb_ite h with h | h
  · skip
    exact kbFr.tr kbFr.rf (kbFr.up (by decide) (by decide) (fr_jn_BT_wordLine_18 h))
  obtain ⟨x7, ex7, h⟩ := kb_bind h
  have fx7 := kbFr.tr (C := [1, 3, 4, 5, 6, 7]) (S := []) kbFr.rf (kbFr.up (by decide) (by decide) (fr_f_BT_fail ex7))
  exact kbFr.tr fx7 (kbFr.up (by decide) (by decide) (fr_jn_BT_wordLine_18 h))
theorem fr_jn_BT_line_58 {n : Nat} {μ : kbM} {x : kbM} (h : jn_BT_line_58 n μ = some x) : kbFr [1] [] μ x := by
  unfold jn_BT_line_58 at h
  obtain ⟨x5, ex5, h⟩ := kb_bind h
  have fx5 := kbFr.tr (C := [1]) (S := []) kbFr.rf (kbFr.up (by decide) (by decide) (fr_f_BT_passSign ex5))
  cases h
  exact fx5
theorem fr_f_BT_line {n : Nat} {μ : kbM} {x : kbM} (h : f_BT_line n μ = some x) : kbFr [1, 3, 4, 5, 6, 7, 8, 9, 10, 11] [] μ x := by
  unfold f_BT_line at h
  obtain ⟨x1, ex1, h⟩ := kb_bind h
  obtain ⟨x2, ex2, h⟩ := kb_bind h
  rcases kb_ite h with h | h
  · skip
    rcases kb_ite h with h | h
    · skip
      obtain ⟨x3, ex3, h⟩ := kb_bind h
      rcases kb_ite h with h | h
      · skip
        obtain ⟨x4, ex4, h⟩ := kb_bind h
        have fx4 := kbFr.tr (C := [1, 3, 4, 5, 6, 7, 8, 9, 10, 11]) (S := []) kbFr.rf (kbFr.up (by decide) (by decide) (fr_f_BT_fail ex4))
        exact kbFr.tr fx4 (kbFr.up (by decide) (by decide) (fr_jn_BT_line_58 h))
      obtain ⟨x6, ex6, h⟩ := kb_bind h
      have fx6 := kbFr.tr (C := [1, 3, 4, 5, 6, 7, 8, 9, 10, 11]) (S := []) kbFr.rf (kbFr.up (by decide) (by decide) (fr_f_BT_joinsLine ex6))
      exact kbFr.tr fx6 (kbFr.up (by decide) (by decide) (fr_jn_BT_line_58 h))
    obtain ⟨x7, ex7, h⟩ := kb_bind h
    have fx7 := kbFr.tr (C := [1, 3, 4, 5, 6, 7, 8, 9, 10, 11]) (S := []) kbFr.rf (kbFr.up (by decide) (by decide) (fr_f_BT_doorLine ex7))
    exact kbFr.tr fx7 (kbFr.up (by decide) (by decide) (fr_jn_BT_line_58 h))
  obtain ⟨x8, ex8, h⟩ := kb_bind h
  have fx8 := kbFr.tr (C := [1, 3, 4, 5, 6, 7, 8, 9, 10, 11]) (S := []) kbFr.rf (kbFr.up (by decide) (by decide) (fr_f_BT_wordLine ex8))
  exact kbFr.tr fx8 (kbFr.up (by decide) (by decide) (fr_jn_BT_line_58 h))
theorem fr_lp_BT_parse_52 {n : Nat} {k : Nat} : ∀ {v2 : Int32} {μ : kbM} {x : kbM}, lp_BT_parse_52 n k v2 μ = some x → kbFr [1, 3, 4, 5, 6, 7, 8, 9, 10, 11] [] μ x := by
  induction k with
  | zero => intro v2 μ x h; cases h
  | succ k ih =>
    intro v2 μ x h
    unfold lp_BT_parse_52 at h
    rcases kb_ite h with h | h
    · skip
      cases h
      exact kbFr.rf
    rcases kb_ite h with h | h
    · skip
      cases h
      exact kbFr.rf
    rcases kb_ite h with h | h
    · skip
      cases h
      exact kbFr.rf
    obtain ⟨x2, ex2, h⟩ := kb_bind h
    have fx2 := kbFr.tr (C := [1, 3, 4, 5, 6, 7, 8, 9, 10, 11]) (S := []) kbFr.rf (kbFr.up (by decide) (by decide) (fr_f_BT_line ex2))
    exact kbFr.tr fx2 (ih h)
theorem fr_jn_BT_parse_84 {n : Nat} {μ : kbM} {x : Int32 × kbM} (h : jn_BT_parse_84 n μ = some x) : kbFr [] [] μ x.2 := by
  unfold jn_BT_parse_84 at h
  cases h
  exact kbFr.rf
theorem fr_f_BT_parse {n : Nat} {a1 : Int32} {μ : kbM} {x : Int32 × kbM} (h : f_BT_parse n a1 μ = some x) : kbFr [1, 3, 4, 5, 6, 7, 8, 9, 10, 11] [] μ x.2 := by
  unfold f_BT_parse at h
  obtain ⟨x1, ex1, h⟩ := kb_bind h
  have fx1 := kbFr.tr (C := [1, 3, 4, 5, 6, 7, 8, 9, 10, 11]) (S := []) (kbFr.w (kbFr.w (kbFr.w (kbFr.w (kbFr.w (kbFr.w (kbFr.w (kbFr.w kbFr.rf (by decide)) (by decide)) (by decide)) (by decide)) (by decide)) (by decide)) (by decide)) (by decide)) (kbFr.up (by decide) (by decide) (fr_f_BT_advance ex1))
  obtain ⟨x3, ex3, h⟩ := kb_bind h
  have fx3 := kbFr.tr (C := [1, 3, 4, 5, 6, 7, 8, 9, 10, 11]) (S := []) fx1 (kbFr.up (by decide) (by decide) (fr_lp_BT_parse_52 ex3))
  exact kbFr.tr fx3 (kbFr.up (by decide) (by decide) (fr_jn_BT_parse_84 h))
theorem fr_f_WO_copyFrom_13_3 {μ : kbM} {x : kbM} (h : f_WO_copyFrom_13_3 μ = some x) : kbFr [13, 14, 15, 16, 17] [] μ x := by
  unfold f_WO_copyFrom_13_3 at h
  cases h
  exact (kbFr.w (kbFr.a (kbFr.a (kbFr.a (kbFr.a kbFr.rf (by decide)) (by decide)) (by decide)) (by decide)) (by decide))
theorem fr_f_ST_begin_12_3 {μ : kbM} {x : kbM} (h : f_ST_begin_12_3 μ = some x) : kbFr [12, 13, 14, 15, 16, 17] [] μ x := by
  unfold f_ST_begin_12_3 at h
  obtain ⟨x1, ex1, h⟩ := kb_bind h
  have fx1 := kbFr.tr (C := [12, 13, 14, 15, 16, 17]) (S := []) kbFr.rf (kbFr.up (by decide) (by decide) (fr_f_WO_copyFrom_13_3 ex1))
  cases h
  exact (kbFr.w (kbFr.w (kbFr.w fx1 (by decide)) (by decide)) (by decide))
theorem fr_f_WO_copyFrom_13_23 {μ : kbM} {x : kbM} (h : f_WO_copyFrom_13_23 μ = some x) : kbFr [13, 14, 15, 16, 17] [] μ x := by
  unfold f_WO_copyFrom_13_23 at h
  cases h
  exact (kbFr.w (kbFr.a (kbFr.a (kbFr.a (kbFr.a kbFr.rf (by decide)) (by decide)) (by decide)) (by decide)) (by decide))
theorem fr_f_ST_copyFrom_12_22 {μ : kbM} {x : kbM} (h : f_ST_copyFrom_12_22 μ = some x) : kbFr [12, 13, 14, 15, 16, 17, 18, 19, 20, 21] [] μ x := by
  unfold f_ST_copyFrom_12_22 at h
  obtain ⟨x1, ex1, h⟩ := kb_bind h
  have fx1 := kbFr.tr (C := [12, 13, 14, 15, 16, 17, 18, 19, 20, 21]) (S := []) kbFr.rf (kbFr.up (by decide) (by decide) (fr_f_WO_copyFrom_13_23 ex1))
  cases h
  exact (kbFr.w (kbFr.w (kbFr.w (kbFr.a (kbFr.a (kbFr.a (kbFr.a fx1 (by decide)) (by decide)) (by decide)) (by decide)) (by decide)) (by decide)) (by decide))
theorem fr_f_WO_copyFrom_23_13 {μ : kbM} {x : kbM} (h : f_WO_copyFrom_23_13 μ = some x) : kbFr [23, 24, 25, 26, 27] [] μ x := by
  unfold f_WO_copyFrom_23_13 at h
  cases h
  exact (kbFr.w (kbFr.a (kbFr.a (kbFr.a (kbFr.a kbFr.rf (by decide)) (by decide)) (by decide)) (by decide)) (by decide))
theorem fr_f_ST_copyFrom_22_12 {μ : kbM} {x : kbM} (h : f_ST_copyFrom_22_12 μ = some x) : kbFr [22, 23, 24, 25, 26, 27, 28, 29, 30, 31] [] μ x := by
  unfold f_ST_copyFrom_22_12 at h
  obtain ⟨x1, ex1, h⟩ := kb_bind h
  have fx1 := kbFr.tr (C := [22, 23, 24, 25, 26, 27, 28, 29, 30, 31]) (S := []) kbFr.rf (kbFr.up (by decide) (by decide) (fr_f_WO_copyFrom_23_13 ex1))
  cases h
  exact (kbFr.w (kbFr.w (kbFr.w (kbFr.a (kbFr.a (kbFr.a (kbFr.a fx1 (by decide)) (by decide)) (by decide)) (by decide)) (by decide)) (by decide)) (by decide))
theorem fr_jn_ST_keepAct_12_31 {v1 : Int32} {v2 : Int32} {v3 : Int32} {v4 : Int32} {v5 : Int32} {μ : kbM} {x : kbM} (h : jn_ST_keepAct_12_31 v1 v2 v3 v4 v5 μ = some x) : kbFr [12, 18] [] μ x := by
  unfold jn_ST_keepAct_12_31 at h
  replace h := (kbIf_some h).2
  replace h := (kbIf_some h).2
  replace h := (kbIf_some h).2
  replace h := (kbIf_some h).2
  replace h := (kbIf_some h).2
  cases h
  exact (kbFr.w (kbFr.w (kbFr.w (kbFr.w (kbFr.w (kbFr.w kbFr.rf (by decide)) (by decide)) (by decide)) (by decide)) (by decide)) (by decide))
theorem fr_f_ST_keepAct_12 {a1 : Int32} {a2 : Int32} {a3 : Int32} {a4 : Int32} {a5 : Int32} {μ : kbM} {x : kbM} (h : f_ST_keepAct_12 a1 a2 a3 a4 a5 μ = some x) : kbFr [12, 18] [] μ x := by
  unfold f_ST_keepAct_12 at h
  rcases kb_ite h with h | h
  · skip
    exact kbFr.tr kbFr.rf (kbFr.up (by decide) (by decide) (fr_jn_ST_keepAct_12_31 h))
  exact kbFr.tr (kbFr.w (kbFr.a kbFr.rf (by decide)) (by decide)) (kbFr.up (by decide) (by decide) (fr_jn_ST_keepAct_12_31 h))
theorem fr_f_ST_keepWord_12 {a1 : Int32} {a2 : Int32} {μ : kbM} {x : kbM} (h : f_ST_keepWord_12 a1 a2 μ = some x) : kbFr [12, 18] [] μ x := by
  unfold f_ST_keepWord_12 at h
  replace h := (kbIf_some h).2
  replace h := (kbIf_some h).2
  replace h := (kbIf_some h).2
  obtain ⟨x1, ex1, h⟩ := kb_bind h
  have fx1 := kbFr.tr (C := [12, 18]) (S := []) kbFr.rf (kbFr.up (by decide) (by decide) (fr_f_ST_keepAct_12 ex1))
  cases h
  exact fx1
theorem fr_f_ST_turnWeather_12 {a1 : Int32} {μ : kbM} {x : kbM} (h : f_ST_turnWeather_12 a1 μ = some x) : kbFr [12] [] μ x := by
  unfold f_ST_turnWeather_12 at h
  cases h
  exact (kbFr.w kbFr.rf (by decide))
theorem fr_f_WO_move_13 {a1 : Int32} {a2 : Int32} {μ : kbM} {x : kbM} (h : f_WO_move_13 a1 a2 μ = some x) : kbFr [14, 15, 16, 17] [] μ x := by
  unfold f_WO_move_13 at h
  replace h := (kbIf_some h).2
  replace h := (kbIf_some h).2
  replace h := (kbIf_some h).2
  replace h := (kbIf_some h).2
  replace h := (kbIf_some h).2
  replace h := (kbIf_some h).2
  replace h := (kbIf_some h).2
  replace h := (kbIf_some h).2
  cases h
  exact (kbFr.w (kbFr.w (kbFr.w (kbFr.w kbFr.rf (by decide)) (by decide)) (by decide)) (by decide))
theorem fr_jn_WO_remove_13_12 {n : Nat} {μ : kbM} {x : kbM} (h : jn_WO_remove_13_12 n μ = some x) : kbFr [] [] μ x := by
  unfold jn_WO_remove_13_12 at h
  cases h
  exact kbFr.rf
theorem fr_lp_WO_remove_13_17 {n : Nat} {k : Nat} : ∀ {v2 : Int32} {μ : kbM} {x : kbM}, lp_WO_remove_13_17 n k v2 μ = some x → kbFr [14, 15, 16, 17] [] μ x := by
  induction k with
  | zero => intro v2 μ x h; cases h
  | succ k ih =>
    intro v2 μ x h
    unfold lp_WO_remove_13_17 at h
    rcases kb_ite h with h | h
    · skip
      cases h
      exact kbFr.rf
    obtain ⟨x1, ex1, h⟩ := kb_bind h
    have fx1 := kbFr.tr (C := [14, 15, 16, 17]) (S := []) kbFr.rf (kbFr.up (by decide) (by decide) (fr_f_WO_move_13 ex1))
    exact kbFr.tr fx1 (ih h)
theorem fr_f_WO_remove_13 {n : Nat} {a1 : Int32} {μ : kbM} {x : kbM} (h : f_WO_remove_13 n a1 μ = some x) : kbFr [13, 14, 15, 16, 17] [] μ x := by
  unfold f_WO_remove_13 at h
  rcases kb_ite h with h | h
  · skip
    exact kbFr.tr kbFr.rf (kbFr.up (by decide) (by decide) (fr_jn_WO_remove_13_12 h))
  rcases kb_ite h with h | h
  · skip
    obtain ⟨x2, ex2, h⟩ := kb_bind h
    have fx2 := kbFr.tr (C := [13, 14, 15, 16, 17]) (S := []) kbFr.rf (kbFr.up (by decide) (by decide) (fr_lp_WO_remove_13_17 ex2))
    cases h
    exact (kbFr.w fx2 (by decide))
  exact kbFr.tr kbFr.rf (kbFr.up (by decide) (by decide) (fr_jn_WO_remove_13_12 h))
theorem fr_jn_WO_insert_13_21 {n : Nat} {μ : kbM} {x : kbM} (h : jn_WO_insert_13_21 n μ = some x) : kbFr [] [] μ x := by
  unfold jn_WO_insert_13_21 at h
  cases h
  exact kbFr.rf
theorem fr_lp_WO_insert_13_28 {n : Nat} {v1 : Int32} {v2 : Int32} {v3 : Int32} {v4 : Int32} {k : Nat} : ∀ {v5 : Int32} {μ : kbM} {x : kbM}, lp_WO_insert_13_28 n v1 v2 v3 v4 k v5 μ = some x → kbFr [14, 15, 16, 17] [] μ x := by
  induction k with
  | zero => intro v5 μ x h; cases h
  | succ k ih =>
    intro v5 μ x h
    unfold lp_WO_insert_13_28 at h
    rcases kb_ite h with h | h
    · skip
      cases h
      exact kbFr.rf
    obtain ⟨x1, ex1, h⟩ := kb_bind h
    have fx1 := kbFr.tr (C := [14, 15, 16, 17]) (S := []) kbFr.rf (kbFr.up (by decide) (by decide) (fr_f_WO_move_13 ex1))
    exact kbFr.tr fx1 (ih h)
theorem fr_f_WO_insert_13 {n : Nat} {a1 : Int32} {a2 : Int32} {a3 : Int32} {a4 : Int32} {μ : kbM} {x : kbM} (h : f_WO_insert_13 n a1 a2 a3 a4 μ = some x) : kbFr [13, 14, 15, 16, 17] [] μ x := by
  unfold f_WO_insert_13 at h
  rcases kb_ite h with h | h
  · skip
    exact kbFr.tr kbFr.rf (kbFr.up (by decide) (by decide) (fr_jn_WO_insert_13_21 h))
  rcases kb_ite h with h | h
  · skip
    exact kbFr.tr kbFr.rf (kbFr.up (by decide) (by decide) (fr_jn_WO_insert_13_21 h))
  rcases kb_ite h with h | h
  · skip
    obtain ⟨x2, ex2, h⟩ := kb_bind h
    have fx2 := kbFr.tr (C := [13, 14, 15, 16, 17]) (S := []) kbFr.rf (kbFr.up (by decide) (by decide) (fr_lp_WO_insert_13_28 ex2))
    replace h := (kbIf_some h).2
    obtain ⟨x3, ex3, h⟩ := kb_bind h
    replace h := (kbIf_some h).2
    replace h := (kbIf_some h).2
    replace h := (kbIf_some h).2
    cases h
    exact (kbFr.w (kbFr.w (kbFr.w (kbFr.w (kbFr.w fx2 (by decide)) (by decide)) (by decide)) (by decide)) (by decide))
  exact kbFr.tr kbFr.rf (kbFr.up (by decide) (by decide) (fr_jn_WO_insert_13_21 h))
theorem fr_jn_WO_change_13_26 {μ : kbM} {x : kbM} (h : jn_WO_change_13_26 μ = some x) : kbFr [] [] μ x := by
  unfold jn_WO_change_13_26 at h
  cases h
  exact kbFr.rf
theorem fr_f_WO_change_13 {a1 : Int32} {a2 : Int32} {a3 : Int32} {μ : kbM} {x : kbM} (h : f_WO_change_13 a1 a2 a3 μ = some x) : kbFr [16, 17] [] μ x := by
  unfold f_WO_change_13 at h
  rcases kb_ite h with h | h
  · skip
    exact kbFr.tr kbFr.rf (kbFr.up (by decide) (by decide) (fr_jn_WO_change_13_26 h))
  rcases kb_ite h with h | h
  · skip
    exact kbFr.tr kbFr.rf (kbFr.up (by decide) (by decide) (fr_jn_WO_change_13_26 h))
  replace h := (kbIf_some h).2
  replace h := (kbIf_some h).2
  exact kbFr.tr (kbFr.w (kbFr.w kbFr.rf (by decide)) (by decide)) (kbFr.up (by decide) (by decide) (fr_jn_WO_change_13_26 h))
theorem fr_jn_ST_undoLast_12_146 {n : Nat} {μ : kbM} {x : kbM} (h : jn_ST_undoLast_12_146 n μ = some x) : kbFr [] [] μ x := by
  unfold jn_ST_undoLast_12_146 at h
  cases h
  exact kbFr.rf
theorem fr_f_ST_undoLast_12 {n : Nat} {μ : kbM} {x : kbM} (h : f_ST_undoLast_12 n μ = some x) : kbFr [12, 13, 14, 15, 16, 17] [] μ x := by
  unfold f_ST_undoLast_12 at h
  rcases kb_ite h with h | h
  · skip
    replace h := (kbIf_some h).2
    replace h := (kbIf_some h).2
    rcases kb_ite h with h | h
    · skip
      obtain ⟨x2, ex2, h⟩ := kb_bind h
      have fx2 := kbFr.tr (C := [12, 13, 14, 15, 16, 17]) (S := []) (kbFr.w kbFr.rf (by decide)) (kbFr.up (by decide) (by decide) (fr_f_WO_remove_13 ex2))
      exact kbFr.tr fx2 (kbFr.up (by decide) (by decide) (fr_jn_ST_undoLast_12_146 h))
    rcases kb_ite h with h | h
    · skip
      replace h := (kbIf_some h).2
      replace h := (kbIf_some h).2
      replace h := (kbIf_some h).2
      obtain ⟨x3, ex3, h⟩ := kb_bind h
      have fx3 := kbFr.tr (C := [12, 13, 14, 15, 16, 17]) (S := []) (kbFr.w kbFr.rf (by decide)) (kbFr.up (by decide) (by decide) (fr_f_WO_insert_13 ex3))
      exact kbFr.tr fx3 (kbFr.up (by decide) (by decide) (fr_jn_ST_undoLast_12_146 h))
    rcases kb_ite h with h | h
    · skip
      replace h := (kbIf_some h).2
      replace h := (kbIf_some h).2
      obtain ⟨x4, ex4, h⟩ := kb_bind h
      have fx4 := kbFr.tr (C := [12, 13, 14, 15, 16, 17]) (S := []) (kbFr.w kbFr.rf (by decide)) (kbFr.up (by decide) (by decide) (fr_f_WO_change_13 ex4))
      exact kbFr.tr fx4 (kbFr.up (by decide) (by decide) (fr_jn_ST_undoLast_12_146 h))
    obtain ⟨x1, ex1, h⟩ := kb_bind h
    have fx1 := kbFr.tr (C := [12, 13, 14, 15, 16, 17]) (S := []) (kbFr.w kbFr.rf (by decide)) (kbFr.up (by decide) (by decide) (fr_f_ST_turnWeather_12 ex1))
    exact kbFr.tr fx1 (kbFr.up (by decide) (by decide) (fr_jn_ST_undoLast_12_146 h))
  cases h
  exact kbFr.rf
theorem fr_f_DO_copyFrom_32_8 {μ : kbM} {x : kbM} (h : f_DO_copyFrom_32_8 μ = some x) : kbFr [32, 33, 34] [] μ x := by
  unfold f_DO_copyFrom_32_8 at h
  cases h
  exact (kbFr.w (kbFr.a (kbFr.a kbFr.rf (by decide)) (by decide)) (by decide))
theorem fr_f_JO_renew {μ : kbM} {x : kbM} (h : f_JO_renew μ = some x) : kbFr [38] [] μ x := by
  unfold f_JO_renew at h
  cases h
  exact (kbFr.a kbFr.rf (by decide))
theorem fr_f_JO_adopt_11 {a2 : Int32} {μ : kbM} {x : kbM} (h : f_JO_adopt_11 a2 μ = some x) : kbFr [35, 36, 38] [] μ x := by
  unfold f_JO_adopt_11 at h
  replace h := (kbIf_some h).2
  obtain ⟨x1, ex1, h⟩ := kb_bind h
  have fx1 := kbFr.tr (C := [35, 36, 38]) (S := []) (kbFr.w (kbFr.a kbFr.rf (by decide)) (by decide)) (kbFr.up (by decide) (by decide) (fr_f_JO_renew ex1))
  cases h
  exact fx1
theorem fr_lp_HO_hearWords_2 {n : Nat} {v1 : Int32} {k : Nat} : ∀ {v2 : Int32} {μ : kbM} {x : kbM}, lp_HO_hearWords_2 n v1 k v2 μ = some x → kbFr [52] [] μ x := by
  induction k with
  | zero => intro v2 μ x h; cases h
  | succ k ih =>
    intro v2 μ x h
    unfold lp_HO_hearWords_2 at h
    rcases kb_ite h with h | h
    · skip
      cases h
      exact kbFr.rf
    replace h := (kbIf_some h).2
    obtain ⟨x1, ex1, h⟩ := kb_bind h
    replace h := (kbIf_some h).2
    exact kbFr.tr (kbFr.w kbFr.rf (by decide)) (ih h)
theorem fr_f_HO_hearWords {n : Nat} {a1 : Int32} {μ : kbM} {x : kbM} (h : f_HO_hearWords n a1 μ = some x) : kbFr [52] [] μ x := by
  unfold f_HO_hearWords at h
  obtain ⟨x2, ex2, h⟩ := kb_bind h
  have fx2 := kbFr.tr (C := [52]) (S := []) kbFr.rf (kbFr.up (by decide) (by decide) (fr_lp_HO_hearWords_2 ex2))
  cases h
  exact fx2
theorem fr_f_HO_confounded {n : Nat} {a1 : Int32} {μ : kbM} {x : Int32 × kbM} (h : f_HO_confounded n a1 μ = some x) : kbFr [52] [] μ x.2 := by
  unfold f_HO_confounded at h
  obtain ⟨x1, ex1, h⟩ := kb_bind h
  have fx1 := kbFr.tr (C := [52]) (S := []) kbFr.rf (kbFr.up (by decide) (by decide) (fr_f_HO_hearWords ex1))
  obtain ⟨x4, ex4, h⟩ := kb_bind h
  cases h
  exact fx1
theorem fr_lp_HO_hearAll_2 {n : Nat} {k : Nat} : ∀ {v1 : Int32} {μ : kbM} {x : kbM}, lp_HO_hearAll_2 n k v1 μ = some x → kbFr [52] [] μ x := by
  induction k with
  | zero => intro v1 μ x h; cases h
  | succ k ih =>
    intro v1 μ x h
    unfold lp_HO_hearAll_2 at h
    rcases kb_ite h with h | h
    · skip
      cases h
      exact kbFr.rf
    obtain ⟨x1, ex1, h⟩ := kb_bind h
    have fx1 := kbFr.tr (C := [52]) (S := []) kbFr.rf (kbFr.up (by decide) (by decide) (fr_f_HO_hearWords ex1))
    exact kbFr.tr fx1 (ih h)
theorem fr_f_HO_hearAll {n : Nat} {μ : kbM} {x : kbM} (h : f_HO_hearAll n μ = some x) : kbFr [52] [] μ x := by
  unfold f_HO_hearAll at h
  obtain ⟨x2, ex2, h⟩ := kb_bind h
  have fx2 := kbFr.tr (C := [52]) (S := []) kbFr.rf (kbFr.up (by decide) (by decide) (fr_lp_HO_hearAll_2 ex2))
  cases h
  exact fx2
theorem fr_lp_HO_layTelling_19 {n : Nat} {v2 : Int32} {k : Nat} : ∀ {v1 : Int32} {v3 : Int32} {μ : kbM} {x : Int32 × kbM}, lp_HO_layTelling_19 n v2 k v1 v3 μ = some x → kbFr [53] [] μ x.2 := by
  induction k with
  | zero => intro v1 v3 μ x h; cases h
  | succ k ih =>
    intro v1 v3 μ x h
    unfold lp_HO_layTelling_19 at h
    rcases kb_ite h with h | h
    · skip
      cases h
      exact kbFr.rf
    obtain ⟨x2, ex2, h⟩ := kb_bind h
    replace h := (kbIf_some h).2
    exact kbFr.tr (kbFr.w kbFr.rf (by decide)) (ih h)
theorem fr_lp_HO_layTelling_4 {n : Nat} {k : Nat} : ∀ {v1 : Int32} {v2 : Int32} {μ : kbM} {x : Int32 × kbM}, lp_HO_layTelling_4 n k v1 v2 μ = some x → kbFr [53] [] μ x.2 := by
  induction k with
  | zero => intro v1 v2 μ x h; cases h
  | succ k ih =>
    intro v1 v2 μ x h
    unfold lp_HO_layTelling_4 at h
    rcases kb_ite h with h | h
    · skip
      cases h
      exact kbFr.rf
    obtain ⟨x3, ex3, h⟩ := kb_bind h
    have fx3 := kbFr.tr (C := [53]) (S := []) kbFr.rf (kbFr.up (by decide) (by decide) (fr_lp_HO_layTelling_19 ex3))
    exact kbFr.tr fx3 (ih h)
theorem fr_f_HO_layTelling {n : Nat} {μ : kbM} {x : Int32 × kbM} (h : f_HO_layTelling n μ = some x) : kbFr [53] [] μ x.2 := by
  unfold f_HO_layTelling at h
  obtain ⟨x4, ex4, h⟩ := kb_bind h
  have fx4 := kbFr.tr (C := [53]) (S := []) kbFr.rf (kbFr.up (by decide) (by decide) (fr_lp_HO_layTelling_4 ex4))
  cases h
  exact fx4
theorem fr_f_HO_fewestDoors {n : Nat} {μ : kbM} {x : Int32 × kbM} (h : f_HO_fewestDoors n μ = some x) : kbFr [52, 53] [] μ x.2 := by
  unfold f_HO_fewestDoors at h
  obtain ⟨x1, ex1, h⟩ := kb_bind h
  have fx1 := kbFr.tr (C := [52, 53]) (S := []) kbFr.rf (kbFr.up (by decide) (by decide) (fr_f_HO_hearAll ex1))
  obtain ⟨x2, ex2, h⟩ := kb_bind h
  have fx2 := kbFr.tr (C := [52, 53]) (S := []) fx1 (kbFr.up (by decide) (by decide) (fr_f_HO_layTelling ex2))
  obtain ⟨x4, ex4, h⟩ := kb_bind h
  cases h
  exact fx2
theorem fr_jn_HO_freshRow_73 {n : Nat} {v2 : Int32} {v3 : Int32} {μ : kbM} {rec : Int32 → Option ((Int32 × kbM) ⊕ (Unit))} (hrec : ∀ {y0 : Int32} {x : (Int32 × kbM) ⊕ (Unit)}, rec y0 = some x → Sum.elim (fun z => kbFr [] [] μ z.2) (fun _ => True) x) {x : (Int32 × kbM) ⊕ (Unit)} (h : jn_HO_freshRow_73 n rec v2 v3 μ = some x) : Sum.elim (fun z => kbFr [] [] μ z.2) (fun _ => True) x := by
  unfold jn_HO_freshRow_73 at h
  exact (hrec h)
theorem fr_jn_HO_freshRow_56 {n : Nat} {v2 : Int32} {v3 : Int32} {w0 : Int32} {μ : kbM} {rec : Int32 → Option ((Int32 × kbM) ⊕ (Unit))} (hrec : ∀ {y0 : Int32} {x : (Int32 × kbM) ⊕ (Unit)}, rec y0 = some x → Sum.elim (fun z => kbFr [] [] μ z.2) (fun _ => True) x) {x : (Int32 × kbM) ⊕ (Unit)} (h : jn_HO_freshRow_56 n rec v2 v3 w0 μ = some x) : Sum.elim (fun z => kbFr [] [] μ z.2) (fun _ => True) x := by
  unfold jn_HO_freshRow_56 at h
  rcases kb_ite h with h | h
  · skip
    have q := (fr_jn_HO_freshRow_73 hrec h)
    cases x with
    | inl z => exact kbFr.tr kbFr.rf (kbFr.up (by decide) (by decide) q)
    | inr z => exact trivial
  obtain ⟨x4, ex4, h⟩ := kb_bind h
  rcases kb_ite h with h | h
  · skip
    have q := (fr_jn_HO_freshRow_73 hrec h)
    cases x with
    | inl z => exact kbFr.tr kbFr.rf (kbFr.up (by decide) (by decide) q)
    | inr z => exact trivial
  cases h
  exact kbFr.rf
theorem fr_jn_HO_freshRow_55 {n : Nat} {v2 : Int32} {v3 : Int32} {μ : kbM} {rec : Int32 → Option ((Int32 × kbM) ⊕ (Unit))} (hrec : ∀ {y0 : Int32} {x : (Int32 × kbM) ⊕ (Unit)}, rec y0 = some x → Sum.elim (fun z => kbFr [] [] μ z.2) (fun _ => True) x) {x : (Int32 × kbM) ⊕ (Unit)} (h : jn_HO_freshRow_55 n rec v2 v3 μ = some x) : Sum.elim (fun z => kbFr [] [] μ z.2) (fun _ => True) x := by
  unfold jn_HO_freshRow_55 at h
  have q := (fr_jn_HO_freshRow_56 hrec h)
  cases x with
  | inl z => exact kbFr.tr kbFr.rf (kbFr.up (by decide) (by decide) q)
  | inr z => exact trivial
theorem fr_lp_HO_freshRow_12 {n : Nat} {v2 : Int32} {μ : kbM} {k : Nat} : ∀ {v3 : Int32} {x : (Int32 × kbM) ⊕ (Unit)}, lp_HO_freshRow_12 n v2 μ k v3 = some x → Sum.elim (fun z => kbFr [] [] μ z.2) (fun _ => True) x := by
  induction k with
  | zero => intro v3 x h; cases h
  | succ k ih =>
    intro v3 x h
    unfold lp_HO_freshRow_12 at h
    rcases kb_ite h with h | h
    · skip
      cases h
      exact trivial
    obtain ⟨x3, ex3, h⟩ := kb_bind h
    rcases kb_ite h with h | h
    · skip
      have q := (fr_jn_HO_freshRow_55 (fun h => ih h) h)
      cases x with
      | inl z => exact kbFr.tr kbFr.rf (kbFr.up (by decide) (by decide) q)
      | inr z => exact trivial
    obtain ⟨x5, ex5, h⟩ := kb_bind h
    rcases kb_ite h with h | h
    · skip
      obtain ⟨x6, ex6, h⟩ := kb_bind h
      rcases kb_ite h with h | h
      · skip
        have q := (fr_jn_HO_freshRow_56 (fun h => ih h) h)
        cases x with
        | inl z => exact kbFr.tr kbFr.rf (kbFr.up (by decide) (by decide) q)
        | inr z => exact trivial
      have q := (fr_jn_HO_freshRow_55 (fun h => ih h) h)
      cases x with
      | inl z => exact kbFr.tr kbFr.rf (kbFr.up (by decide) (by decide) q)
      | inr z => exact trivial
    have q := (fr_jn_HO_freshRow_55 (fun h => ih h) h)
    cases x with
    | inl z => exact kbFr.tr kbFr.rf (kbFr.up (by decide) (by decide) q)
    | inr z => exact trivial
theorem fr_f_HO_freshRow {n : Nat} {a1 : Int32} {μ : kbM} {x : Int32 × kbM} (h : f_HO_freshRow n a1 μ = some x) : kbFr [52] [] μ x.2 := by
  unfold f_HO_freshRow at h
  obtain ⟨x1, ex1, h⟩ := kb_bind h
  have fx1 := kbFr.tr (C := [52]) (S := []) kbFr.rf (kbFr.up (by decide) (by decide) (fr_f_HO_hearAll ex1))
  obtain ⟨x2, ex2, h⟩ := kb_bind h
  rcases kb_orS h with ⟨r8, er8, h⟩ | ⟨x7, ex7, h⟩
  · skip
    have fr8 := kbFr.tr (C := [52]) (S := []) fx1 (kbFr.up (by decide) (by decide) (fr_lp_HO_freshRow_12 er8))
    cases h
    exact fr8
  cases h
  exact fx1
theorem fr_f_HO_unlike {n : Nat} {a1 : Int32} {a2 : Int32} {μ : kbM} {x : Int32 × kbM} (h : f_HO_unlike n a1 a2 μ = some x) : kbFr [52] [] μ x.2 := by
  unfold f_HO_unlike at h
  obtain ⟨x1, ex1, h⟩ := kb_bind h
  have fx1 := kbFr.tr (C := [52]) (S := []) kbFr.rf (kbFr.up (by decide) (by decide) (fr_f_HO_hearWords ex1))
  obtain ⟨x4, ex4, h⟩ := kb_bind h
  cases h
  exact fx1
theorem fr_jn_HO_tellingDoor_40 {n : Nat} {v1 : Int32} {v2 : Int32} {v3 : Int32} {v4 : Int32} {μ : kbM} {rec : Int32 → Int32 → Int32 → kbM → Option (Int32 × kbM)} (hrec : ∀ {y0 : Int32} {y1 : Int32} {y2 : Int32} {y3 : kbM} {x : Int32 × kbM}, rec y0 y1 y2 y3 = some x → kbFr [52] [] y3 x.2) {x : Int32 × kbM} (h : jn_HO_tellingDoor_40 n rec v1 v2 v3 v4 μ = some x) : kbFr [52] [] μ x.2 := by
  unfold jn_HO_tellingDoor_40 at h
  exact kbFr.tr kbFr.rf (hrec h)
theorem fr_lp_HO_tellingDoor_7 {n : Nat} {v1 : Int32} {k : Nat} : ∀ {v2 : Int32} {v3 : Int32} {v4 : Int32} {μ : kbM} {x : Int32 × kbM}, lp_HO_tellingDoor_7 n v1 k v2 v3 v4 μ = some x → kbFr [52] [] μ x.2 := by
  induction k with
  | zero => intro v2 v3 v4 μ x h; cases h
  | succ k ih =>
    intro v2 v3 v4 μ x h
    unfold lp_HO_tellingDoor_7 at h
    rcases kb_ite h with h | h
    · skip
      cases h
      exact kbFr.rf
    obtain ⟨x1, ex1, h⟩ := kb_bind h
    have fx1 := kbFr.tr (C := [52]) (S := []) kbFr.rf (kbFr.up (by decide) (by decide) (fr_f_HO_unlike ex1))
    rcases kb_ite h with h | h
    · skip
      exact kbFr.tr fx1 (kbFr.up (by decide) (by decide) (fr_jn_HO_tellingDoor_40 (fun h => ih h) h))
    exact kbFr.tr fx1 (kbFr.up (by decide) (by decide) (fr_jn_HO_tellingDoor_40 (fun h => ih h) h))
theorem fr_f_HO_tellingDoor {n : Nat} {a1 : Int32} {μ : kbM} {x : Int32 × kbM} (h : f_HO_tellingDoor n a1 μ = some x) : kbFr [52] [] μ x.2 := by
  unfold f_HO_tellingDoor at h
  obtain ⟨x2, ex2, h⟩ := kb_bind h
  have fx2 := kbFr.tr (C := [52]) (S := []) kbFr.rf (kbFr.up (by decide) (by decide) (fr_lp_HO_tellingDoor_7 ex2))
  cases h
  exact fx2
theorem fr_jn_JO_value_140 {n : Nat} {v1 : Int32} {v2 : Int32} {v3 : Int32} {v4 : Int32} {μ : kbM} {rec : Int32 → Int32 → kbM → Option (Int32 × kbM)} (hrec : ∀ {y0 : Int32} {y1 : Int32} {y2 : kbM} {x : Int32 × kbM}, rec y0 y1 y2 = some x → kbFr [37] [] y2 x.2) {x : Int32 × kbM} (h : jn_JO_value_140 n rec v1 v2 v3 v4 μ = some x) : kbFr [37] [] μ x.2 := by
  unfold jn_JO_value_140 at h
  exact kbFr.tr kbFr.rf (hrec h)
theorem fr_jn_JO_value_101 {n : Nat} {v1 : Int32} {v2 : Int32} {v3 : Int32} {v4 : Int32} {w1 : Int32} {w2 : Int32} {μ : kbM} {rec : Int32 → Int32 → kbM → Option (Int32 × kbM)} (hrec : ∀ {y0 : Int32} {y1 : Int32} {y2 : kbM} {x : Int32 × kbM}, rec y0 y1 y2 = some x → kbFr [37] [] y2 x.2) {x : Int32 × kbM} (h : jn_JO_value_101 n rec v1 v2 v3 v4 w1 w2 μ = some x) : kbFr [37] [] μ x.2 := by
  unfold jn_JO_value_101 at h
  replace h := (kbIf_some h).2
  exact kbFr.tr (kbFr.w kbFr.rf (by decide)) (kbFr.up (by decide) (by decide) (fr_jn_JO_value_140 hrec h))
theorem fr_jn_JO_value_59 {n : Nat} {v1 : Int32} {v2 : Int32} {v3 : Int32} {v4 : Int32} {w1 : Int32} {w2 : Int32} {μ : kbM} {rec : Int32 → Int32 → kbM → Option (Int32 × kbM)} (hrec : ∀ {y0 : Int32} {y1 : Int32} {y2 : kbM} {x : Int32 × kbM}, rec y0 y1 y2 = some x → kbFr [37] [] y2 x.2) {x : Int32 × kbM} (h : jn_JO_value_59 n rec v1 v2 v3 v4 w1 w2 μ = some x) : kbFr [37] [] μ x.2 := by
  unfold jn_JO_value_59 at h
  replace h := (kbIf_some h).2
  exact kbFr.tr (kbFr.w kbFr.rf (by decide)) (kbFr.up (by decide) (by decide) (fr_jn_JO_value_140 hrec h))
theorem fr_lp_JO_value_5 {n : Nat} {v1 : Int32} {v2 : Int32} {k : Nat} : ∀ {v3 : Int32} {v4 : Int32} {μ : kbM} {x : Int32 × kbM}, lp_JO_value_5 n v1 v2 k v3 v4 μ = some x → kbFr [37] [] μ x.2 := by
  induction k with
  | zero => intro v3 v4 μ x h; cases h
  | succ k ih =>
    intro v3 v4 μ x h
    unfold lp_JO_value_5 at h
    rcases kb_ite h with h | h
    · skip
      cases h
      exact kbFr.rf
    replace h := (kbIf_some h).2
    rcases kb_ite h with h | h
    · skip
      rcases kb_ite h with h | h
      · skip
        rcases kb_ite h with h | h
        · skip
          exact kbFr.tr kbFr.rf (kbFr.up (by decide) (by decide) (fr_jn_JO_value_140 (fun h => ih h) h))
        replace h := (kbIf_some h).2
        rcases kb_ite h with h | h
        · skip
          exact kbFr.tr kbFr.rf (kbFr.up (by decide) (by decide) (fr_jn_JO_value_101 (fun h => ih h) h))
        exact kbFr.tr kbFr.rf (kbFr.up (by decide) (by decide) (fr_jn_JO_value_101 (fun h => ih h) h))
      rcases kb_ite h with h | h
      · skip
        exact kbFr.tr kbFr.rf (kbFr.up (by decide) (by decide) (fr_jn_JO_value_140 (fun h => ih h) h))
      replace h := (kbIf_some h).2
      replace h := (kbIf_some h).2
      obtain ⟨x1, ex1, h⟩ := kb_bind h
      replace h := (kbIf_some h).2
      exact kbFr.tr (kbFr.w kbFr.rf (by decide)) (kbFr.up (by decide) (by decide) (fr_jn_JO_value_140 (fun h => ih h) h))
    rcases kb_ite h with h | h
    · skip
      exact kbFr.tr kbFr.rf (kbFr.up (by decide) (by decide) (fr_jn_JO_value_140 (fun h => ih h) h))
    rcases kb_ite h with h | h
    · skip
      obtain ⟨x2, ex2, h⟩ := kb_bind h
      exact kbFr.tr kbFr.rf (kbFr.up (by decide) (by decide) (fr_jn_JO_value_59 (fun h => ih h) h))
    exact kbFr.tr kbFr.rf (kbFr.up (by decide) (by decide) (fr_jn_JO_value_59 (fun h => ih h) h))
theorem fr_jn_JO_value_163 {n : Nat} {w0 : Int32} {μ : kbM} {x : Int32 × kbM} (h : jn_JO_value_163 n w0 μ = some x) : kbFr [] [] μ x.2 := by
  unfold jn_JO_value_163 at h
  cases h
  exact kbFr.rf
theorem fr_f_JO_value {n : Nat} {a1 : Int32} {a2 : Int32} {μ : kbM} {x : Int32 × kbM} (h : f_JO_value n a1 a2 μ = some x) : kbFr [37] [] μ x.2 := by
  unfold f_JO_value at h
  obtain ⟨x3, ex3, h⟩ := kb_bind h
  have fx3 := kbFr.tr (C := [37]) (S := []) kbFr.rf (kbFr.up (by decide) (by decide) (fr_lp_JO_value_5 ex3))
  rcases kb_ite h with h | h
  · skip
    exact kbFr.tr fx3 (kbFr.up (by decide) (by decide) (fr_jn_JO_value_163 h))
  replace h := (kbIf_some h).2
  exact kbFr.tr fx3 (kbFr.up (by decide) (by decide) (fr_jn_JO_value_163 h))
theorem fr_jn_JO_mayFollow_60 {n : Nat} {w0 : Int32} {μ : kbM} {x : Int32 × kbM} (h : jn_JO_mayFollow_60 n w0 μ = some x) : kbFr [] [] μ x.2 := by
  unfold jn_JO_mayFollow_60 at h
  replace h := (kbIf_some h).2
  cases h
  exact kbFr.rf
theorem fr_jn_JO_mayFollow_45 {n : Nat} {v3 : Int32} {μ : kbM} {x : Int32 × kbM} (h : jn_JO_mayFollow_45 n v3 μ = some x) : kbFr [] [] μ x.2 := by
  unfold jn_JO_mayFollow_45 at h
  replace h := (kbIf_some h).2
  rcases kb_ite h with h | h
  · skip
    exact kbFr.tr kbFr.rf (kbFr.up (by decide) (by decide) (fr_jn_JO_mayFollow_60 h))
  exact kbFr.tr kbFr.rf (kbFr.up (by decide) (by decide) (fr_jn_JO_mayFollow_60 h))
theorem fr_jn_JO_mayFollow_44 {n : Nat} {v3 : Int32} {w1 : Int32} {w2 : Int32} {μ : kbM} {x : Int32 × kbM} (h : jn_JO_mayFollow_44 n v3 w1 w2 μ = some x) : kbFr [38] [] μ x.2 := by
  unfold jn_JO_mayFollow_44 at h
  replace h := (kbIf_some h).2
  exact kbFr.tr (kbFr.w kbFr.rf (by decide)) (kbFr.up (by decide) (by decide) (fr_jn_JO_mayFollow_45 h))
theorem fr_f_JO_mayFollow {n : Nat} {a1 : Int32} {a2 : Int32} {μ : kbM} {x : Int32 × kbM} (h : f_JO_mayFollow n a1 a2 μ = some x) : kbFr [37, 38] [] μ x.2 := by
  unfold f_JO_mayFollow at h
  rcases kb_ite h with h | h
  · skip
    cases h
    exact kbFr.rf
  replace h := (kbIf_some h).2
  rcases kb_ite h with h | h
  · skip
    obtain ⟨x1, ex1, h⟩ := kb_bind h
    have fx1 := kbFr.tr (C := [37, 38]) (S := []) kbFr.rf (kbFr.up (by decide) (by decide) (fr_f_JO_value ex1))
    rcases kb_ite h with h | h
    · skip
      exact kbFr.tr fx1 (kbFr.up (by decide) (by decide) (fr_jn_JO_mayFollow_44 h))
    exact kbFr.tr fx1 (kbFr.up (by decide) (by decide) (fr_jn_JO_mayFollow_44 h))
  exact kbFr.tr kbFr.rf (kbFr.up (by decide) (by decide) (fr_jn_JO_mayFollow_45 h))
theorem fr_jn_SP_layWord_66 {n : Nat} {μ : kbM} {x : kbM} (h : jn_SP_layWord_66 n μ = some x) : kbFr [] [] μ x := by
  unfold jn_SP_layWord_66 at h
  cases h
  exact kbFr.rf
theorem fr_jn_SP_layWord_204 {n : Nat} {v4 : Int32} {v5 : Int32} {v6 : Int32} {v7 : Int32} {μ : kbM} {rec : Int32 → kbM → Option (kbM)} (hrec : ∀ {y0 : Int32} {y1 : kbM} {x : kbM}, rec y0 y1 = some x → kbFr [37, 38, 44, 45] [] y1 x) {x : kbM} (h : jn_SP_layWord_204 n rec v4 v5 v6 v7 μ = some x) : kbFr [37, 38, 44, 45] [] μ x := by
  unfold jn_SP_layWord_204 at h
  exact kbFr.tr kbFr.rf (hrec h)
theorem fr_jn_SP_layWord_203 {n : Nat} {v4 : Int32} {v5 : Int32} {v6 : Int32} {v7 : Int32} {w1 : Int32} {w2 : Int32} {μ : kbM} {rec : Int32 → kbM → Option (kbM)} (hrec : ∀ {y0 : Int32} {y1 : kbM} {x : kbM}, rec y0 y1 = some x → kbFr [37, 38, 44, 45] [] y1 x) {x : kbM} (h : jn_SP_layWord_203 n rec v4 v5 v6 v7 w1 w2 μ = some x) : kbFr [37, 38, 44, 45] [] μ x := by
  unfold jn_SP_layWord_203 at h
  replace h := (kbIf_some h).2
  exact kbFr.tr (kbFr.w kbFr.rf (by decide)) (kbFr.up (by decide) (by decide) (fr_jn_SP_layWord_204 hrec h))
theorem fr_lp_SP_layWord_93 {n : Nat} {v4 : Int32} {v5 : Int32} {v6 : Int32} {k : Nat} : ∀ {v7 : Int32} {μ : kbM} {x : kbM}, lp_SP_layWord_93 n v4 v5 v6 k v7 μ = some x → kbFr [37, 38, 44, 45] [] μ x := by
  induction k with
  | zero => intro v7 μ x h; cases h
  | succ k ih =>
    intro v7 μ x h
    unfold lp_SP_layWord_93 at h
    rcases kb_ite h with h | h
    · skip
      cases h
      exact kbFr.rf
    replace h := (kbIf_some h).2
    rcases kb_ite h with h | h
    · skip
      exact kbFr.tr kbFr.rf (kbFr.up (by decide) (by decide) (fr_jn_SP_layWord_204 (fun h => ih h) h))
    obtain ⟨x2, ex2, h⟩ := kb_bind h
    have fx2 := kbFr.tr (C := [37, 38, 44, 45]) (S := []) kbFr.rf (kbFr.up (by decide) (by decide) (fr_f_JO_mayFollow ex2))
    rcases kb_ite h with h | h
    · skip
      exact kbFr.tr fx2 (kbFr.up (by decide) (by decide) (fr_jn_SP_layWord_204 (fun h => ih h) h))
    replace h := (kbIf_some h).2
    replace h := (kbIf_some h).2
    replace h := (kbIf_some h).2
    replace h := (kbIf_some h).2
    rcases kb_ite h with h | h
    · skip
      replace h := (kbIf_some h).2
      exact kbFr.tr (kbFr.x fx2 (by decide)) (kbFr.up (by decide) (by decide) (fr_jn_SP_layWord_203 (fun h => ih h) h))
    replace h := (kbIf_some h).2
    replace h := (kbIf_some h).2
    exact kbFr.tr (kbFr.x fx2 (by decide)) (kbFr.up (by decide) (by decide) (fr_jn_SP_layWord_203 (fun h => ih h) h))
theorem fr_f_SP_layWord {n : Nat} {a1 : Int32} {a2 : Int32} {a3 : Int32} {a4 : Int32} {μ : kbM} {x : kbM} (h : f_SP_layWord n a1 a2 a3 a4 μ = some x) : kbFr [37, 38, 44, 45] [] μ x := by
  unfold f_SP_layWord at h
  replace h := (kbIf_some h).2
  replace h := (kbIf_some h).2
  replace h := (kbIf_some h).2
  rcases kb_ite h with h | h
  · skip
    exact kbFr.tr (kbFr.w (kbFr.x kbFr.rf (by decide)) (by decide)) (kbFr.up (by decide) (by decide) (fr_jn_SP_layWord_66 h))
  obtain ⟨x1, ex1, h⟩ := kb_bind h
  replace h := (kbIf_some h).2
  rcases kb_ite h with h | h
  · skip
    rcases kb_ite h with h | h
    · skip
      replace h := (kbIf_some h).2
      replace h := (kbIf_some h).2
      cases h
      exact (kbFr.w (kbFr.x (kbFr.w (kbFr.x kbFr.rf (by decide)) (by decide)) (by decide)) (by decide))
    obtain ⟨x3, ex3, h⟩ := kb_bind h
    have fx3 := kbFr.tr (C := [37, 38, 44, 45]) (S := []) (kbFr.w (kbFr.x kbFr.rf (by decide)) (by decide)) (kbFr.up (by decide) (by decide) (fr_lp_SP_layWord_93 ex3))
    cases h
    exact fx3
  exact kbFr.tr (kbFr.w (kbFr.x kbFr.rf (by decide)) (by decide)) (kbFr.up (by decide) (by decide) (fr_jn_SP_layWord_66 h))
theorem fr_lp_SP_lay_14 {n : Nat} {v1 : Int32} {v2 : Int32} {v3 : Int32} {k : Nat} : ∀ {v4 : Int32} {μ : kbM} {x : kbM}, lp_SP_lay_14 n v1 v2 v3 k v4 μ = some x → kbFr [37, 38, 44, 45] [] μ x := by
  induction k with
  | zero => intro v4 μ x h; cases h
  | succ k ih =>
    intro v4 μ x h
    unfold lp_SP_lay_14 at h
    rcases kb_ite h with h | h
    · skip
      cases h
      exact kbFr.rf
    obtain ⟨x2, ex2, h⟩ := kb_bind h
    have fx2 := kbFr.tr (C := [37, 38, 44, 45]) (S := []) kbFr.rf (kbFr.up (by decide) (by decide) (fr_f_SP_layWord ex2))
    exact kbFr.tr fx2 (ih h)
theorem fr_lp_SP_lay_7 {n : Nat} {v1 : Int32} {v2 : Int32} {k : Nat} : ∀ {v3 : Int32} {μ : kbM} {x : kbM}, lp_SP_lay_7 n v1 v2 k v3 μ = some x → kbFr [37, 38, 44, 45] [] μ x := by
  induction k with
  | zero => intro v3 μ x h; cases h
  | succ k ih =>
    intro v3 μ x h
    unfold lp_SP_lay_7 at h
    rcases kb_ite h with h | h
    · skip
      cases h
      exact kbFr.rf
    obtain ⟨x3, ex3, h⟩ := kb_bind h
    have fx3 := kbFr.tr (C := [37, 38, 44, 45]) (S := []) kbFr.rf (kbFr.up (by decide) (by decide) (fr_lp_SP_lay_14 ex3))
    exact kbFr.tr fx3 (ih h)
theorem fr_f_SP_lay {n : Nat} {a1 : Int32} {μ : kbM} {x : kbM} (h : f_SP_lay n a1 μ = some x) : kbFr [37, 38, 44, 45] [] μ x := by
  unfold f_SP_lay at h
  obtain ⟨x1, ex1, h⟩ := kb_bind h
  obtain ⟨x4, ex4, h⟩ := kb_bind h
  have fx4 := kbFr.tr (C := [37, 38, 44, 45]) (S := []) kbFr.rf (kbFr.up (by decide) (by decide) (fr_lp_SP_lay_7 ex4))
  cases h
  exact fx4
theorem fr_jn_SP_firstLaid_70 {n : Nat} {v1 : Int32} {v2 : Int32} {v3 : Int32} {v4 : Int32} {μ : kbM} {rec : Int32 → kbM → Option ((Int32 × kbM) ⊕ (kbM))} (hrec : ∀ {y0 : Int32} {y1 : kbM} {x : (Int32 × kbM) ⊕ (kbM)}, rec y0 y1 = some x → Sum.elim (fun z => kbFr [37, 38] [] y1 z.2) (fun z => kbFr [37, 38] [] y1 z) x) {x : (Int32 × kbM) ⊕ (kbM)} (h : jn_SP_firstLaid_70 n rec v1 v2 v3 v4 μ = some x) : Sum.elim (fun z => kbFr [37, 38] [] μ z.2) (fun z => kbFr [37, 38] [] μ z) x := by
  unfold jn_SP_firstLaid_70 at h
  have q := (hrec h)
  cases x with
  | inl z => exact kbFr.tr kbFr.rf (kbFr.up (by decide) (by decide) q)
  | inr z => exact kbFr.tr kbFr.rf (kbFr.up (by decide) (by decide) q)
theorem fr_jn_SP_firstLaid_67 {n : Nat} {v4 : Int32} {μ : kbM} {rec : Int32 → kbM → Option ((Int32 × kbM) ⊕ (kbM))} (hrec : ∀ {y0 : Int32} {y1 : kbM} {x : (Int32 × kbM) ⊕ (kbM)}, rec y0 y1 = some x → Sum.elim (fun z => kbFr [37, 38] [] y1 z.2) (fun z => kbFr [37, 38] [] y1 z) x) {x : (Int32 × kbM) ⊕ (kbM)} (h : jn_SP_firstLaid_67 n rec v4 μ = some x) : Sum.elim (fun z => kbFr [37, 38] [] μ z.2) (fun z => kbFr [37, 38] [] μ z) x := by
  unfold jn_SP_firstLaid_67 at h
  cases h
  exact kbFr.rf
theorem fr_jn_SP_firstLaid_42 {n : Nat} {v1 : Int32} {v2 : Int32} {v3 : Int32} {v4 : Int32} {w0 : Int32} {μ : kbM} {rec : Int32 → kbM → Option ((Int32 × kbM) ⊕ (kbM))} (hrec : ∀ {y0 : Int32} {y1 : kbM} {x : (Int32 × kbM) ⊕ (kbM)}, rec y0 y1 = some x → Sum.elim (fun z => kbFr [37, 38] [] y1 z.2) (fun z => kbFr [37, 38] [] y1 z) x) {x : (Int32 × kbM) ⊕ (kbM)} (h : jn_SP_firstLaid_42 n rec v1 v2 v3 v4 w0 μ = some x) : Sum.elim (fun z => kbFr [37, 38] [] μ z.2) (fun z => kbFr [37, 38] [] μ z) x := by
  unfold jn_SP_firstLaid_42 at h
  rcases kb_ite h with h | h
  · skip
    have q := (fr_jn_SP_firstLaid_70 hrec h)
    cases x with
    | inl z => exact kbFr.tr kbFr.rf (kbFr.up (by decide) (by decide) q)
    | inr z => exact kbFr.tr kbFr.rf (kbFr.up (by decide) (by decide) q)
  rcases kb_ite h with h | h
  · skip
    have q := (fr_jn_SP_firstLaid_67 hrec h)
    cases x with
    | inl z => exact kbFr.tr kbFr.rf (kbFr.up (by decide) (by decide) q)
    | inr z => exact kbFr.tr kbFr.rf (kbFr.up (by decide) (by decide) q)
  obtain ⟨x1, ex1, h⟩ := kb_bind h
  have fx1 := kbFr.tr (C := [37, 38]) (S := []) kbFr.rf (kbFr.up (by decide) (by decide) (fr_f_JO_mayFollow ex1))
  rcases kb_ite h with h | h
  · skip
    have q := (fr_jn_SP_firstLaid_70 hrec h)
    cases x with
    | inl z => exact kbFr.tr fx1 (kbFr.up (by decide) (by decide) q)
    | inr z => exact kbFr.tr fx1 (kbFr.up (by decide) (by decide) q)
  have q := (fr_jn_SP_firstLaid_67 hrec h)
  cases x with
  | inl z => exact kbFr.tr fx1 (kbFr.up (by decide) (by decide) q)
  | inr z => exact kbFr.tr fx1 (kbFr.up (by decide) (by decide) q)
theorem fr_lp_SP_firstLaid_3 {n : Nat} {v1 : Int32} {v2 : Int32} {v3 : Int32} {k : Nat} : ∀ {v4 : Int32} {μ : kbM} {x : (Int32 × kbM) ⊕ (kbM)}, lp_SP_firstLaid_3 n v1 v2 v3 k v4 μ = some x → Sum.elim (fun z => kbFr [37, 38] [] μ z.2) (fun z => kbFr [37, 38] [] μ z) x := by
  induction k with
  | zero => intro v4 μ x h; cases h
  | succ k ih =>
    intro v4 μ x h
    unfold lp_SP_firstLaid_3 at h
    rcases kb_ite h with h | h
    · skip
      cases h
      exact kbFr.rf
    rcases kb_ite h with h | h
    · skip
      cases h
      exact kbFr.rf
    replace h := (kbIf_some h).2
    rcases kb_ite h with h | h
    · skip
      have q := (fr_jn_SP_firstLaid_42 (fun h => ih h) h)
      cases x with
      | inl z => exact kbFr.tr kbFr.rf (kbFr.up (by decide) (by decide) q)
      | inr z => exact kbFr.tr kbFr.rf (kbFr.up (by decide) (by decide) q)
    have q := (fr_jn_SP_firstLaid_42 (fun h => ih h) h)
    cases x with
    | inl z => exact kbFr.tr kbFr.rf (kbFr.up (by decide) (by decide) q)
    | inr z => exact kbFr.tr kbFr.rf (kbFr.up (by decide) (by decide) q)
theorem fr_jn_SP_firstLaid_76 {n : Nat} {μ : kbM} {x : Int32 × kbM} (h : jn_SP_firstLaid_76 n μ = some x) : kbFr [] [] μ x.2 := by
  unfold jn_SP_firstLaid_76 at h
  cases h
  exact kbFr.rf
theorem fr_f_SP_firstLaid {n : Nat} {a1 : Int32} {a2 : Int32} {a3 : Int32} {μ : kbM} {x : Int32 × kbM} (h : f_SP_firstLaid n a1 a2 a3 μ = some x) : kbFr [37, 38] [] μ x.2 := by
  unfold f_SP_firstLaid at h
  rcases kb_orS h with ⟨r3, er3, h⟩ | ⟨x2, ex2, h⟩
  · skip
    have fr3 := kbFr.tr (C := [37, 38]) (S := []) kbFr.rf (kbFr.up (by decide) (by decide) (fr_lp_SP_firstLaid_3 er3))
    cases h
    exact fr3
  have fx2 := kbFr.tr (C := [37, 38]) (S := []) kbFr.rf (kbFr.up (by decide) (by decide) (fr_lp_SP_firstLaid_3 ex2))
  exact kbFr.tr fx2 (kbFr.up (by decide) (by decide) (fr_jn_SP_firstLaid_76 h))
theorem fr_lp_SP_wordLaid_13 {n : Nat} {v1 : Int32} {v2 : Int32} {k : Nat} : ∀ {v3 : Int32} {v4 : Int32} {v5 : Int32} {μ : kbM} {x : (Int32 × kbM) ⊕ (Int32 × kbM)}, lp_SP_wordLaid_13 n v1 v2 k v3 v4 v5 μ = some x → Sum.elim (fun z => kbFr [37, 38] [] μ z.2) (fun z => kbFr [37, 38] [] μ z.2) x := by
  induction k with
  | zero => intro v3 v4 v5 μ x h; cases h
  | succ k ih =>
    intro v3 v4 v5 μ x h
    unfold lp_SP_wordLaid_13 at h
    rcases kb_ite h with h | h
    · skip
      cases h
      exact kbFr.rf
    rcases kb_ite h with h | h
    · skip
      cases h
      exact kbFr.rf
    obtain ⟨x2, ex2, h⟩ := kb_bind h
    have fx2 := kbFr.tr (C := [37, 38]) (S := []) kbFr.rf (kbFr.up (by decide) (by decide) (fr_f_SP_firstLaid ex2))
    rcases kb_ite h with h | h
    · skip
      cases h
      exact fx2
    replace h := (kbIf_some h).2
    have q := (ih h)
    cases x with
    | inl z => exact kbFr.tr fx2 (kbFr.up (by decide) (by decide) q)
    | inr z => exact kbFr.tr fx2 (kbFr.up (by decide) (by decide) q)
theorem fr_jn_SP_wordLaid_66 {n : Nat} {v4 : Int32} {μ : kbM} {x : Int32 × kbM} (h : jn_SP_wordLaid_66 n v4 μ = some x) : kbFr [] [] μ x.2 := by
  unfold jn_SP_wordLaid_66 at h
  cases h
  exact kbFr.rf
theorem fr_f_SP_wordLaid {n : Nat} {a1 : Int32} {μ : kbM} {x : Int32 × kbM} (h : f_SP_wordLaid n a1 μ = some x) : kbFr [37, 38] [] μ x.2 := by
  unfold f_SP_wordLaid at h
  obtain ⟨x1, ex1, h⟩ := kb_bind h
  rcases kb_orS h with ⟨r4, er4, h⟩ | ⟨x3, ex3, h⟩
  · skip
    have fr4 := kbFr.tr (C := [37, 38]) (S := []) kbFr.rf (kbFr.up (by decide) (by decide) (fr_lp_SP_wordLaid_13 er4))
    cases h
    exact fr4
  have fx3 := kbFr.tr (C := [37, 38]) (S := []) kbFr.rf (kbFr.up (by decide) (by decide) (fr_lp_SP_wordLaid_13 ex3))
  exact kbFr.tr fx3 (kbFr.up (by decide) (by decide) (fr_jn_SP_wordLaid_66 h))
theorem fr_jn_RO_spread_46_31 {n : Nat} {v2 : Int32} {v3 : Int32} {v4 : Int32} {μ : kbM} {rec : Int32 → Int32 → kbM → Option (kbM)} (hrec : ∀ {y0 : Int32} {y1 : Int32} {y2 : kbM} {x : kbM}, rec y0 y1 y2 = some x → kbFr [46] [] y2 x) {x : kbM} (h : jn_RO_spread_46_31 n rec v2 v3 v4 μ = some x) : kbFr [46] [] μ x := by
  unfold jn_RO_spread_46_31 at h
  exact kbFr.tr kbFr.rf (hrec h)
theorem fr_lp_RO_spread_46_12 {n : Nat} {v2 : Int32} {k : Nat} : ∀ {v3 : Int32} {v4 : Int32} {μ : kbM} {x : kbM}, lp_RO_spread_46_12 n v2 k v3 v4 μ = some x → kbFr [46] [] μ x := by
  induction k with
  | zero => intro v3 v4 μ x h; cases h
  | succ k ih =>
    intro v3 v4 μ x h
    unfold lp_RO_spread_46_12 at h
    rcases kb_ite h with h | h
    · skip
      cases h
      exact kbFr.rf
    rcases kb_ite h with h | h
    · skip
      exact kbFr.tr kbFr.rf (kbFr.up (by decide) (by decide) (fr_jn_RO_spread_46_31 (fun h => ih h) h))
    replace h := (kbIf_some h).2
    exact kbFr.tr (kbFr.w kbFr.rf (by decide)) (kbFr.up (by decide) (by decide) (fr_jn_RO_spread_46_31 (fun h => ih h) h))
theorem fr_f_RO_spread_46 {n : Nat} {a0 : Int32} {μ : kbM} {x : Int32 × kbM} (h : f_RO_spread_46 n a0 μ = some x) : kbFr [46] [] μ x.2 := by
  unfold f_RO_spread_46 at h
  obtain ⟨x1, ex1, h⟩ := kb_bind h
  obtain ⟨x2, ex2, h⟩ := kb_bind h
  have fx2 := kbFr.tr (C := [46]) (S := []) kbFr.rf (kbFr.up (by decide) (by decide) (fr_lp_RO_spread_46_12 ex2))
  cases h
  exact fx2
theorem fr_lp_SP_saySounds_7 {n : Nat} {v1 : Int32} {v2 : Int32} {k : Nat} : ∀ {v3 : Int32} {μ : kbM} {x : kbM}, lp_SP_saySounds_7 n v1 v2 k v3 μ = some x → kbFr [47] [] μ x := by
  induction k with
  | zero => intro v3 μ x h; cases h
  | succ k ih =>
    intro v3 μ x h
    unfold lp_SP_saySounds_7 at h
    replace h := (kbIf_some h).2
    rcases kb_ite h with h | h
    · skip
      cases h
      exact kbFr.rf
    replace h := (kbIf_some h).2
    replace h := (kbIf_some h).2
    replace h := (kbIf_some h).2
    exact kbFr.tr (kbFr.w kbFr.rf (by decide)) (ih h)
theorem fr_f_SP_saySounds {n : Nat} {a1 : Int32} {μ : kbM} {x : kbM} (h : f_SP_saySounds n a1 μ = some x) : kbFr [47] [] μ x := by
  unfold f_SP_saySounds at h
  obtain ⟨x1, ex1, h⟩ := kb_bind h
  have fx1 := kbFr.tr (C := [47]) (S := []) kbFr.rf (kbFr.up (by decide) (by decide) (fr_lp_SP_saySounds_7 ex1))
  cases h
  exact fx1
theorem fr_jn_SP_beginBehind_77 {n : Nat} {v1 : Int32} {v2 : Int32} {v3 : Int32} {v4 : Int32} {μ : kbM} {rec : Int32 → Int32 → kbM → Option (Int32 × kbM)} (hrec : ∀ {y0 : Int32} {y1 : Int32} {y2 : kbM} {x : Int32 × kbM}, rec y0 y1 y2 = some x → kbFr [37, 38, 47] [] y2 x.2) {x : Int32 × kbM} (h : jn_SP_beginBehind_77 n rec v1 v2 v3 v4 μ = some x) : kbFr [37, 38, 47] [] μ x.2 := by
  unfold jn_SP_beginBehind_77 at h
  exact kbFr.tr kbFr.rf (hrec h)
theorem fr_lp_SP_beginBehind_25 {n : Nat} {v1 : Int32} {v3 : Int32} {k : Nat} : ∀ {v2 : Int32} {v4 : Int32} {μ : kbM} {x : Int32 × kbM}, lp_SP_beginBehind_25 n v1 v3 k v2 v4 μ = some x → kbFr [37, 38, 47] [] μ x.2 := by
  induction k with
  | zero => intro v2 v4 μ x h; cases h
  | succ k ih =>
    intro v2 v4 μ x h
    unfold lp_SP_beginBehind_25 at h
    rcases kb_ite h with h | h
    · skip
      cases h
      exact kbFr.rf
    replace h := (kbIf_some h).2
    rcases kb_ite h with h | h
    · skip
      exact kbFr.tr kbFr.rf (kbFr.up (by decide) (by decide) (fr_jn_SP_beginBehind_77 (fun h => ih h) h))
    obtain ⟨x1, ex1, h⟩ := kb_bind h
    have fx1 := kbFr.tr (C := [37, 38, 47]) (S := []) kbFr.rf (kbFr.up (by decide) (by decide) (fr_f_JO_mayFollow ex1))
    rcases kb_ite h with h | h
    · skip
      exact kbFr.tr fx1 (kbFr.up (by decide) (by decide) (fr_jn_SP_beginBehind_77 (fun h => ih h) h))
    replace h := (kbIf_some h).2
    exact kbFr.tr (kbFr.w fx1 (by decide)) (kbFr.up (by decide) (by decide) (fr_jn_SP_beginBehind_77 (fun h => ih h) h))
theorem fr_f_SP_beginBehind {n : Nat} {a1 : Int32} {μ : kbM} {x : Int32 × kbM} (h : f_SP_beginBehind n a1 μ = some x) : kbFr [37, 38, 47] [] μ x.2 := by
  unfold f_SP_beginBehind at h
  replace h := (kbIf_some h).2
  replace h := (kbIf_some h).2
  obtain ⟨x2, ex2, h⟩ := kb_bind h
  have fx2 := kbFr.tr (C := [37, 38, 47]) (S := []) kbFr.rf (kbFr.up (by decide) (by decide) (fr_lp_SP_beginBehind_25 ex2))
  replace h := (kbIf_some h).2
  cases h
  exact fx2
theorem fr_lp_SP_sayMore_21 {n : Nat} {v2 : Int32} {k : Nat} : ∀ {v3 : Int32} {μ : kbM} {x : kbM}, lp_SP_sayMore_21 n v2 k v3 μ = some x → kbFr [47] [] μ x := by
  induction k with
  | zero => intro v3 μ x h; cases h
  | succ k ih =>
    intro v3 μ x h
    unfold lp_SP_sayMore_21 at h
    rcases kb_ite h with h | h
    · skip
      cases h
      exact kbFr.rf
    obtain ⟨x1, ex1, h⟩ := kb_bind h
    have fx1 := kbFr.tr (C := [47]) (S := []) kbFr.rf (kbFr.up (by decide) (by decide) (fr_f_SP_saySounds ex1))
    exact kbFr.tr fx1 (ih h)
theorem fr_lp_SP_sayMore_47 {n : Nat} {v2 : Int32} {k : Nat} : ∀ {v1 : Int32} {v3 : Int32} {μ : kbM} {x : Int32 × kbM}, lp_SP_sayMore_47 n v2 k v1 v3 μ = some x → kbFr [37, 38, 47] [] μ x.2 := by
  induction k with
  | zero => intro v1 v3 μ x h; cases h
  | succ k ih =>
    intro v1 v3 μ x h
    unfold lp_SP_sayMore_47 at h
    rcases kb_ite h with h | h
    · skip
      cases h
      exact kbFr.rf
    obtain ⟨x3, ex3, h⟩ := kb_bind h
    have fx3 := kbFr.tr (C := [37, 38, 47]) (S := []) kbFr.rf (kbFr.up (by decide) (by decide) (fr_f_SP_beginBehind ex3))
    exact kbFr.tr fx3 (ih h)
theorem fr_lp_SP_sayMore_4 {n : Nat} {k : Nat} : ∀ {v1 : Int32} {v2 : Int32} {μ : kbM} {x : kbM}, lp_SP_sayMore_4 n k v1 v2 μ = some x → kbFr [37, 38, 47] [] μ x := by
  induction k with
  | zero => intro v1 v2 μ x h; cases h
  | succ k ih =>
    intro v1 v2 μ x h
    unfold lp_SP_sayMore_4 at h
    rcases kb_ite h with h | h
    · skip
      cases h
      exact kbFr.rf
    rcases kb_ite h with h | h
    · skip
      cases h
      exact kbFr.rf
    obtain ⟨x2, ex2, h⟩ := kb_bind h
    have fx2 := kbFr.tr (C := [37, 38, 47]) (S := []) kbFr.rf (kbFr.up (by decide) (by decide) (fr_lp_SP_sayMore_21 ex2))
    obtain ⟨x4, ex4, h⟩ := kb_bind h
    have fx4 := kbFr.tr (C := [37, 38, 47]) (S := []) fx2 (kbFr.up (by decide) (by decide) (fr_lp_SP_sayMore_47 ex4))
    exact kbFr.tr fx4 (ih h)
theorem fr_jn_SP_sayMore_78 {n : Nat} {μ : kbM} {x : kbM} (h : jn_SP_sayMore_78 n μ = some x) : kbFr [] [] μ x := by
  unfold jn_SP_sayMore_78 at h
  cases h
  exact kbFr.rf
theorem fr_f_SP_sayMore {n : Nat} {μ : kbM} {x : kbM} (h : f_SP_sayMore n μ = some x) : kbFr [37, 38, 47] [] μ x := by
  unfold f_SP_sayMore at h
  obtain ⟨x5, ex5, h⟩ := kb_bind h
  have fx5 := kbFr.tr (C := [37, 38, 47]) (S := []) kbFr.rf (kbFr.up (by decide) (by decide) (fr_lp_SP_sayMore_4 ex5))
  exact kbFr.tr fx5 (kbFr.up (by decide) (by decide) (fr_jn_SP_sayMore_78 h))
theorem fr_jn_SP_passSound_88 {n : Nat} {v1 : Int32} {v2 : Int32} {v3 : Int32} {v4 : Int32} {v5 : Int32} {w0 : Int32} {w1 : Int32} {μ : kbM} {rec : Int32 → kbM → Option (kbM)} (hrec : ∀ {y0 : Int32} {y1 : kbM} {x : kbM}, rec y0 y1 = some x → kbFr [47] [] y1 x) {x : kbM} (h : jn_SP_passSound_88 n rec v1 v2 v3 v4 v5 w0 w1 μ = some x) : kbFr [47] [] μ x := by
  unfold jn_SP_passSound_88 at h
  replace h := (kbIf_some h).2
  replace h := (kbIf_some h).2
  exact kbFr.tr (kbFr.w kbFr.rf (by decide)) (hrec h)
theorem fr_jn_SP_passSound_65 {n : Nat} {v1 : Int32} {v2 : Int32} {v3 : Int32} {v4 : Int32} {v5 : Int32} {w0 : Int32} {μ : kbM} {rec : Int32 → kbM → Option (kbM)} (hrec : ∀ {y0 : Int32} {y1 : kbM} {x : kbM}, rec y0 y1 = some x → kbFr [47] [] y1 x) {x : kbM} (h : jn_SP_passSound_65 n rec v1 v2 v3 v4 v5 w0 μ = some x) : kbFr [47] [] μ x := by
  unfold jn_SP_passSound_65 at h
  replace h := (kbIf_some h).2
  rcases kb_ite h with h | h
  · skip
    exact kbFr.tr kbFr.rf (kbFr.up (by decide) (by decide) (fr_jn_SP_passSound_88 hrec h))
  exact kbFr.tr kbFr.rf (kbFr.up (by decide) (by decide) (fr_jn_SP_passSound_88 hrec h))
theorem fr_lp_SP_passSound_33 {n : Nat} {v1 : Int32} {v2 : Int32} {v3 : Int32} {v4 : Int32} {k : Nat} : ∀ {v5 : Int32} {μ : kbM} {x : kbM}, lp_SP_passSound_33 n v1 v2 v3 v4 k v5 μ = some x → kbFr [47] [] μ x := by
  induction k with
  | zero => intro v5 μ x h; cases h
  | succ k ih =>
    intro v5 μ x h
    unfold lp_SP_passSound_33 at h
    rcases kb_ite h with h | h
    · skip
      cases h
      exact kbFr.rf
    replace h := (kbIf_some h).2
    obtain ⟨x1, ex1, h⟩ := kb_bind h
    rcases kb_ite h with h | h
    · skip
      exact kbFr.tr kbFr.rf (kbFr.up (by decide) (by decide) (fr_jn_SP_passSound_65 (fun h => ih h) h))
    exact kbFr.tr kbFr.rf (kbFr.up (by decide) (by decide) (fr_jn_SP_passSound_65 (fun h => ih h) h))
theorem fr_lp_SP_passSound_2 {n : Nat} {v1 : Int32} {k : Nat} : ∀ {v2 : Int32} {μ : kbM} {x : kbM}, lp_SP_passSound_2 n v1 k v2 μ = some x → kbFr [47] [] μ x := by
  induction k with
  | zero => intro v2 μ x h; cases h
  | succ k ih =>
    intro v2 μ x h
    unfold lp_SP_passSound_2 at h
    rcases kb_ite h with h | h
    · skip
      cases h
      exact kbFr.rf
    replace h := (kbIf_some h).2
    obtain ⟨x2, ex2, h⟩ := kb_bind h
    have fx2 := kbFr.tr (C := [47]) (S := []) kbFr.rf (kbFr.up (by decide) (by decide) (fr_lp_SP_passSound_33 ex2))
    replace h := (kbIf_some h).2
    replace h := (kbIf_some h).2
    exact kbFr.tr (kbFr.w fx2 (by decide)) (ih h)
theorem fr_f_SP_passSound {n : Nat} {a1 : Int32} {μ : kbM} {x : kbM} (h : f_SP_passSound n a1 μ = some x) : kbFr [47] [] μ x := by
  unfold f_SP_passSound at h
  obtain ⟨x3, ex3, h⟩ := kb_bind h
  have fx3 := kbFr.tr (C := [47]) (S := []) kbFr.rf (kbFr.up (by decide) (by decide) (fr_lp_SP_passSound_2 ex3))
  cases h
  exact fx3
theorem fr_lp_SP_stepsToRead_20 {n : Nat} {v2 : Int32} {k : Nat} : ∀ {v3 : Int32} {μ : kbM} {x : kbM}, lp_SP_stepsToRead_20 n v2 k v3 μ = some x → kbFr [47] [] μ x := by
  induction k with
  | zero => intro v3 μ x h; cases h
  | succ k ih =>
    intro v3 μ x h
    unfold lp_SP_stepsToRead_20 at h
    rcases kb_ite h with h | h
    · skip
      cases h
      exact kbFr.rf
    replace h := (kbIf_some h).2
    exact kbFr.tr (kbFr.w kbFr.rf (by decide)) (ih h)
theorem fr_lp_SP_stepsToRead_53 {n : Nat} {v2 : Int32} {k : Nat} : ∀ {v3 : Int32} {μ : kbM} {x : kbM}, lp_SP_stepsToRead_53 n v2 k v3 μ = some x → kbFr [37, 38, 47] [] μ x := by
  induction k with
  | zero => intro v3 μ x h; cases h
  | succ k ih =>
    intro v3 μ x h
    unfold lp_SP_stepsToRead_53 at h
    rcases kb_ite h with h | h
    · skip
      cases h
      exact kbFr.rf
    replace h := (kbIf_some h).2
    obtain ⟨x4, ex4, h⟩ := kb_bind h
    have fx4 := kbFr.tr (C := [37, 38, 47]) (S := []) kbFr.rf (kbFr.up (by decide) (by decide) (fr_f_SP_passSound ex4))
    obtain ⟨x5, ex5, h⟩ := kb_bind h
    have fx5 := kbFr.tr (C := [37, 38, 47]) (S := []) fx4 (kbFr.up (by decide) (by decide) (fr_f_SP_sayMore ex5))
    exact kbFr.tr fx5 (ih h)
theorem fr_jn_SP_stepsToRead_139 {n : Nat} {w0 : Int32} {μ : kbM} {x : Int32 × kbM} (h : jn_SP_stepsToRead_139 n w0 μ = some x) : kbFr [] [] μ x.2 := by
  unfold jn_SP_stepsToRead_139 at h
  cases h
  exact kbFr.rf
theorem fr_f_SP_stepsToRead {n : Nat} {a1 : Int32} {μ : kbM} {x : Int32 × kbM} (h : f_SP_stepsToRead n a1 μ = some x) : kbFr [37, 38, 46, 47] [] μ x.2 := by
  unfold f_SP_stepsToRead at h
  obtain ⟨x1, ex1, h⟩ := kb_bind h
  have fx1 := kbFr.tr (C := [37, 38, 46, 47]) (S := []) kbFr.rf (kbFr.up (by decide) (by decide) (fr_f_RO_spread_46 ex1))
  obtain ⟨x2, ex2, h⟩ := kb_bind h
  have fx2 := kbFr.tr (C := [37, 38, 46, 47]) (S := []) (kbFr.a fx1 (by decide)) (kbFr.up (by decide) (by decide) (fr_lp_SP_stepsToRead_20 ex2))
  obtain ⟨x3, ex3, h⟩ := kb_bind h
  have fx3 := kbFr.tr (C := [37, 38, 46, 47]) (S := []) fx2 (kbFr.up (by decide) (by decide) (fr_f_SP_sayMore ex3))
  obtain ⟨x6, ex6, h⟩ := kb_bind h
  have fx6 := kbFr.tr (C := [37, 38, 46, 47]) (S := []) fx3 (kbFr.up (by decide) (by decide) (fr_lp_SP_stepsToRead_53 ex6))
  obtain ⟨x7, ex7, h⟩ := kb_bind h
  rcases kb_ite h with h | h
  · skip
    exact kbFr.tr fx6 (kbFr.up (by decide) (by decide) (fr_jn_SP_stepsToRead_139 h))
  exact kbFr.tr fx6 (kbFr.up (by decide) (by decide) (fr_jn_SP_stepsToRead_139 h))
theorem fr_jn_SP_layWorth_125 {n : Nat} {v2 : Int32} {v3 : Int32} {v4 : Int32} {v5 : Int32} {μ : kbM} {rec : Int32 → kbM → Option (kbM)} (hrec : ∀ {y0 : Int32} {y1 : kbM} {x : kbM}, rec y0 y1 = some x → kbFr [37, 38, 45] [] y1 x) {x : kbM} (h : jn_SP_layWorth_125 n rec v2 v3 v4 v5 μ = some x) : kbFr [37, 38, 45] [] μ x := by
  unfold jn_SP_layWorth_125 at h
  exact kbFr.tr kbFr.rf (hrec h)
theorem fr_lp_SP_layWorth_47 {n : Nat} {v2 : Int32} {v3 : Int32} {v4 : Int32} {k : Nat} : ∀ {v5 : Int32} {μ : kbM} {x : kbM}, lp_SP_layWorth_47 n v2 v3 v4 k v5 μ = some x → kbFr [37, 38, 45] [] μ x := by
  induction k with
  | zero => intro v5 μ x h; cases h
  | succ k ih =>
    intro v5 μ x h
    unfold lp_SP_layWorth_47 at h
    rcases kb_ite h with h | h
    · skip
      cases h
      exact kbFr.rf
    rcases kb_ite h with h | h
    · skip
      cases h
      exact kbFr.rf
    replace h := (kbIf_some h).2
    rcases kb_ite h with h | h
    · skip
      exact kbFr.tr kbFr.rf (kbFr.up (by decide) (by decide) (fr_jn_SP_layWorth_125 (fun h => ih h) h))
    obtain ⟨x1, ex1, h⟩ := kb_bind h
    have fx1 := kbFr.tr (C := [37, 38, 45]) (S := []) kbFr.rf (kbFr.up (by decide) (by decide) (fr_f_JO_mayFollow ex1))
    rcases kb_ite h with h | h
    · skip
      exact kbFr.tr fx1 (kbFr.up (by decide) (by decide) (fr_jn_SP_layWorth_125 (fun h => ih h) h))
    replace h := (kbIf_some h).2
    replace h := (kbIf_some h).2
    replace h := (kbIf_some h).2
    exact kbFr.tr (kbFr.w fx1 (by decide)) (kbFr.up (by decide) (by decide) (fr_jn_SP_layWorth_125 (fun h => ih h) h))
theorem fr_jn_SP_layWorth_131 {n : Nat} {μ : kbM} {x : kbM} (h : jn_SP_layWorth_131 n μ = some x) : kbFr [] [] μ x := by
  unfold jn_SP_layWorth_131 at h
  cases h
  exact kbFr.rf
theorem fr_jn_SP_layWorth_43 {n : Nat} {v2 : Int32} {v3 : Int32} {v4 : Int32} {w1 : Int32} {w2 : Int32} {μ : kbM} {x : kbM} (h : jn_SP_layWorth_43 n v2 v3 v4 w1 w2 μ = some x) : kbFr [37, 38, 45] [] μ x := by
  unfold jn_SP_layWorth_43 at h
  replace h := (kbIf_some h).2
  obtain ⟨x2, ex2, h⟩ := kb_bind h
  have fx2 := kbFr.tr (C := [37, 38, 45]) (S := []) (kbFr.w kbFr.rf (by decide)) (kbFr.up (by decide) (by decide) (fr_lp_SP_layWorth_47 ex2))
  exact kbFr.tr fx2 (kbFr.up (by decide) (by decide) (fr_jn_SP_layWorth_131 h))
theorem fr_f_SP_layWorth {n : Nat} {a1 : Int32} {a2 : Int32} {μ : kbM} {x : kbM} (h : f_SP_layWorth n a1 a2 μ = some x) : kbFr [37, 38, 45] [] μ x := by
  unfold f_SP_layWorth at h
  replace h := (kbIf_some h).2
  rcases kb_ite h with h | h
  · skip
    replace h := (kbIf_some h).2
    exact kbFr.tr kbFr.rf (kbFr.up (by decide) (by decide) (fr_jn_SP_layWorth_43 h))
  exact kbFr.tr kbFr.rf (kbFr.up (by decide) (by decide) (fr_jn_SP_layWorth_43 h))
theorem fr_lp_SP_mostWorth_12 {n : Nat} {v1 : Int32} {v3 : Int32} {k : Nat} : ∀ {v2 : Int32} {v4 : Int32} {μ : kbM} {x : Int32 × kbM}, lp_SP_mostWorth_12 n v1 v3 k v2 v4 μ = some x → kbFr [37, 38, 45] [] μ x.2 := by
  induction k with
  | zero => intro v2 v4 μ x h; cases h
  | succ k ih =>
    intro v2 v4 μ x h
    unfold lp_SP_mostWorth_12 at h
    rcases kb_ite h with h | h
    · skip
      cases h
      exact kbFr.rf
    obtain ⟨x1, ex1, h⟩ := kb_bind h
    have fx1 := kbFr.tr (C := [37, 38, 45]) (S := []) kbFr.rf (kbFr.up (by decide) (by decide) (fr_f_SP_layWorth ex1))
    replace h := (kbIf_some h).2
    exact kbFr.tr fx1 (ih h)
theorem fr_lp_SP_mostWorth_4 {n : Nat} {v1 : Int32} {k : Nat} : ∀ {v2 : Int32} {v3 : Int32} {μ : kbM} {x : Int32 × kbM}, lp_SP_mostWorth_4 n v1 k v2 v3 μ = some x → kbFr [37, 38, 45] [] μ x.2 := by
  induction k with
  | zero => intro v2 v3 μ x h; cases h
  | succ k ih =>
    intro v2 v3 μ x h
    unfold lp_SP_mostWorth_4 at h
    rcases kb_ite h with h | h
    · skip
      cases h
      exact kbFr.rf
    obtain ⟨x2, ex2, h⟩ := kb_bind h
    have fx2 := kbFr.tr (C := [37, 38, 45]) (S := []) kbFr.rf (kbFr.up (by decide) (by decide) (fr_lp_SP_mostWorth_12 ex2))
    exact kbFr.tr fx2 (ih h)
theorem fr_f_SP_mostWorth {n : Nat} {a1 : Int32} {μ : kbM} {x : Int32 × kbM} (h : f_SP_mostWorth n a1 μ = some x) : kbFr [37, 38, 45] [] μ x.2 := by
  unfold f_SP_mostWorth at h
  obtain ⟨x3, ex3, h⟩ := kb_bind h
  have fx3 := kbFr.tr (C := [37, 38, 45]) (S := []) kbFr.rf (kbFr.up (by decide) (by decide) (fr_lp_SP_mostWorth_4 ex3))
  cases h
  exact fx3
theorem fr_jn_SP_countRows_109 {n : Nat} {v2 : Int32} {v3 : Int32} {v4 : Int32} {v5 : Int32} {μ : kbM} {rec : Int32 → kbM → Option (kbM)} (hrec : ∀ {y0 : Int32} {y1 : kbM} {x : kbM}, rec y0 y1 = some x → kbFr [37, 38, 44] [] y1 x) {x : kbM} (h : jn_SP_countRows_109 n rec v2 v3 v4 v5 μ = some x) : kbFr [37, 38, 44] [] μ x := by
  unfold jn_SP_countRows_109 at h
  exact kbFr.tr kbFr.rf (hrec h)
theorem fr_lp_SP_countRows_39 {n : Nat} {v2 : Int32} {v3 : Int32} {v4 : Int32} {k : Nat} : ∀ {v5 : Int32} {μ : kbM} {x : kbM}, lp_SP_countRows_39 n v2 v3 v4 k v5 μ = some x → kbFr [37, 38, 44] [] μ x := by
  induction k with
  | zero => intro v5 μ x h; cases h
  | succ k ih =>
    intro v5 μ x h
    unfold lp_SP_countRows_39 at h
    rcases kb_ite h with h | h
    · skip
      cases h
      exact kbFr.rf
    rcases kb_ite h with h | h
    · skip
      cases h
      exact kbFr.rf
    replace h := (kbIf_some h).2
    rcases kb_ite h with h | h
    · skip
      exact kbFr.tr kbFr.rf (kbFr.up (by decide) (by decide) (fr_jn_SP_countRows_109 (fun h => ih h) h))
    obtain ⟨x1, ex1, h⟩ := kb_bind h
    have fx1 := kbFr.tr (C := [37, 38, 44]) (S := []) kbFr.rf (kbFr.up (by decide) (by decide) (fr_f_JO_mayFollow ex1))
    rcases kb_ite h with h | h
    · skip
      exact kbFr.tr fx1 (kbFr.up (by decide) (by decide) (fr_jn_SP_countRows_109 (fun h => ih h) h))
    replace h := (kbIf_some h).2
    replace h := (kbIf_some h).2
    replace h := (kbIf_some h).2
    exact kbFr.tr (kbFr.x fx1 (by decide)) (kbFr.up (by decide) (by decide) (fr_jn_SP_countRows_109 (fun h => ih h) h))
theorem fr_jn_SP_countRows_115 {n : Nat} {μ : kbM} {x : kbM} (h : jn_SP_countRows_115 n μ = some x) : kbFr [] [] μ x := by
  unfold jn_SP_countRows_115 at h
  cases h
  exact kbFr.rf
theorem fr_jn_SP_countRows_35 {n : Nat} {v2 : Int32} {v3 : Int32} {v4 : Int32} {w1 : Int32} {w2 : Int64} {μ : kbM} {x : kbM} (h : jn_SP_countRows_35 n v2 v3 v4 w1 w2 μ = some x) : kbFr [37, 38, 44] [] μ x := by
  unfold jn_SP_countRows_35 at h
  replace h := (kbIf_some h).2
  obtain ⟨x2, ex2, h⟩ := kb_bind h
  have fx2 := kbFr.tr (C := [37, 38, 44]) (S := []) (kbFr.x kbFr.rf (by decide)) (kbFr.up (by decide) (by decide) (fr_lp_SP_countRows_39 ex2))
  exact kbFr.tr fx2 (kbFr.up (by decide) (by decide) (fr_jn_SP_countRows_115 h))
theorem fr_f_SP_countRows {n : Nat} {a1 : Int32} {a2 : Int32} {μ : kbM} {x : kbM} (h : f_SP_countRows n a1 a2 μ = some x) : kbFr [37, 38, 44] [] μ x := by
  unfold f_SP_countRows at h
  replace h := (kbIf_some h).2
  rcases kb_ite h with h | h
  · skip
    exact kbFr.tr kbFr.rf (kbFr.up (by decide) (by decide) (fr_jn_SP_countRows_35 h))
  exact kbFr.tr kbFr.rf (kbFr.up (by decide) (by decide) (fr_jn_SP_countRows_35 h))
theorem fr_lp_SP_rowsOf_16 {n : Nat} {v1 : Int32} {v4 : Int32} {k : Nat} : ∀ {v2 : Int64} {v5 : Int32} {μ : kbM} {x : Int64 × kbM}, lp_SP_rowsOf_16 n v1 v4 k v2 v5 μ = some x → kbFr [37, 38, 44] [] μ x.2 := by
  induction k with
  | zero => intro v2 v5 μ x h; cases h
  | succ k ih =>
    intro v2 v5 μ x h
    unfold lp_SP_rowsOf_16 at h
    rcases kb_ite h with h | h
    · skip
      cases h
      exact kbFr.rf
    obtain ⟨x1, ex1, h⟩ := kb_bind h
    have fx1 := kbFr.tr (C := [37, 38, 44]) (S := []) kbFr.rf (kbFr.up (by decide) (by decide) (fr_f_SP_countRows ex1))
    replace h := (kbIf_some h).2
    exact kbFr.tr fx1 (ih h)
theorem fr_lp_SP_rowsOf_5 {n : Nat} {v1 : Int32} {k : Nat} : ∀ {v2 : Int64} {v4 : Int32} {μ : kbM} {x : Int64 × kbM}, lp_SP_rowsOf_5 n v1 k v2 v4 μ = some x → kbFr [37, 38, 44] [] μ x.2 := by
  induction k with
  | zero => intro v2 v4 μ x h; cases h
  | succ k ih =>
    intro v2 v4 μ x h
    unfold lp_SP_rowsOf_5 at h
    rcases kb_ite h with h | h
    · skip
      cases h
      exact kbFr.rf
    obtain ⟨x2, ex2, h⟩ := kb_bind h
    have fx2 := kbFr.tr (C := [37, 38, 44]) (S := []) kbFr.rf (kbFr.up (by decide) (by decide) (fr_lp_SP_rowsOf_16 ex2))
    exact kbFr.tr fx2 (ih h)
theorem fr_f_SP_rowsOf {n : Nat} {a1 : Int32} {μ : kbM} {x : Int64 × kbM} (h : f_SP_rowsOf n a1 μ = some x) : kbFr [37, 38, 44] [] μ x.2 := by
  unfold f_SP_rowsOf at h
  obtain ⟨x3, ex3, h⟩ := kb_bind h
  have fx3 := kbFr.tr (C := [37, 38, 44]) (S := []) kbFr.rf (kbFr.up (by decide) (by decide) (fr_lp_SP_rowsOf_5 ex3))
  cases h
  exact fx3
theorem fr_jn_RO_spread_40_31 {n : Nat} {v2 : Int32} {v3 : Int32} {v4 : Int32} {μ : kbM} {rec : Int32 → Int32 → kbM → Option (kbM)} (hrec : ∀ {y0 : Int32} {y1 : Int32} {y2 : kbM} {x : kbM}, rec y0 y1 y2 = some x → kbFr [40] [] y2 x) {x : kbM} (h : jn_RO_spread_40_31 n rec v2 v3 v4 μ = some x) : kbFr [40] [] μ x := by
  unfold jn_RO_spread_40_31 at h
  exact kbFr.tr kbFr.rf (hrec h)
theorem fr_lp_RO_spread_40_12 {n : Nat} {v2 : Int32} {k : Nat} : ∀ {v3 : Int32} {v4 : Int32} {μ : kbM} {x : kbM}, lp_RO_spread_40_12 n v2 k v3 v4 μ = some x → kbFr [40] [] μ x := by
  induction k with
  | zero => intro v3 v4 μ x h; cases h
  | succ k ih =>
    intro v3 v4 μ x h
    unfold lp_RO_spread_40_12 at h
    rcases kb_ite h with h | h
    · skip
      cases h
      exact kbFr.rf
    rcases kb_ite h with h | h
    · skip
      exact kbFr.tr kbFr.rf (kbFr.up (by decide) (by decide) (fr_jn_RO_spread_40_31 (fun h => ih h) h))
    replace h := (kbIf_some h).2
    exact kbFr.tr (kbFr.w kbFr.rf (by decide)) (kbFr.up (by decide) (by decide) (fr_jn_RO_spread_40_31 (fun h => ih h) h))
theorem fr_f_RO_spread_40 {n : Nat} {a0 : Int32} {μ : kbM} {x : Int32 × kbM} (h : f_RO_spread_40 n a0 μ = some x) : kbFr [40] [] μ x.2 := by
  unfold f_RO_spread_40 at h
  obtain ⟨x1, ex1, h⟩ := kb_bind h
  obtain ⟨x2, ex2, h⟩ := kb_bind h
  have fx2 := kbFr.tr (C := [40]) (S := []) kbFr.rf (kbFr.up (by decide) (by decide) (fr_lp_RO_spread_40_12 ex2))
  cases h
  exact fx2
theorem fr_jn_RO_spread_41_31 {n : Nat} {v2 : Int32} {v3 : Int32} {v4 : Int32} {μ : kbM} {rec : Int32 → Int32 → kbM → Option (kbM)} (hrec : ∀ {y0 : Int32} {y1 : Int32} {y2 : kbM} {x : kbM}, rec y0 y1 y2 = some x → kbFr [41] [] y2 x) {x : kbM} (h : jn_RO_spread_41_31 n rec v2 v3 v4 μ = some x) : kbFr [41] [] μ x := by
  unfold jn_RO_spread_41_31 at h
  exact kbFr.tr kbFr.rf (hrec h)
theorem fr_lp_RO_spread_41_12 {n : Nat} {v2 : Int32} {k : Nat} : ∀ {v3 : Int32} {v4 : Int32} {μ : kbM} {x : kbM}, lp_RO_spread_41_12 n v2 k v3 v4 μ = some x → kbFr [41] [] μ x := by
  induction k with
  | zero => intro v3 v4 μ x h; cases h
  | succ k ih =>
    intro v3 v4 μ x h
    unfold lp_RO_spread_41_12 at h
    rcases kb_ite h with h | h
    · skip
      cases h
      exact kbFr.rf
    rcases kb_ite h with h | h
    · skip
      exact kbFr.tr kbFr.rf (kbFr.up (by decide) (by decide) (fr_jn_RO_spread_41_31 (fun h => ih h) h))
    replace h := (kbIf_some h).2
    exact kbFr.tr (kbFr.w kbFr.rf (by decide)) (kbFr.up (by decide) (by decide) (fr_jn_RO_spread_41_31 (fun h => ih h) h))
theorem fr_f_RO_spread_41 {n : Nat} {a0 : Int32} {μ : kbM} {x : Int32 × kbM} (h : f_RO_spread_41 n a0 μ = some x) : kbFr [41] [] μ x.2 := by
  unfold f_RO_spread_41 at h
  obtain ⟨x1, ex1, h⟩ := kb_bind h
  obtain ⟨x2, ex2, h⟩ := kb_bind h
  have fx2 := kbFr.tr (C := [41]) (S := []) kbFr.rf (kbFr.up (by decide) (by decide) (fr_lp_RO_spread_41_12 ex2))
  cases h
  exact fx2
theorem fr_lp_RU_stepsFromLeft_12 {n : Nat} {v1 : Int32} {v3 : Int32} {k : Nat} : ∀ {v4 : Int32} {μ : kbM} {x : kbM}, lp_RU_stepsFromLeft_12 n v1 v3 k v4 μ = some x → kbFr [42] [] μ x := by
  induction k with
  | zero => intro v4 μ x h; cases h
  | succ k ih =>
    intro v4 μ x h
    unfold lp_RU_stepsFromLeft_12 at h
    rcases kb_ite h with h | h
    · skip
      cases h
      exact kbFr.rf
    replace h := (kbIf_some h).2
    exact kbFr.tr (kbFr.w kbFr.rf (by decide)) (ih h)
theorem fr_jn_RU_stepsFromLeft_158 {n : Nat} {v1 : Int32} {v3 : Int32} {v4 : Int32} {v5 : Int32} {v6 : Int32} {w1 : Int32} {w2 : Int32} {μ : kbM} {rec : Int32 → Int32 → kbM → Option (kbM)} (hrec : ∀ {y0 : Int32} {y1 : Int32} {y2 : kbM} {x : kbM}, rec y0 y1 y2 = some x → kbFr [42] [] y2 x) {x : kbM} (h : jn_RU_stepsFromLeft_158 n rec v1 v3 v4 v5 v6 w1 w2 μ = some x) : kbFr [42] [] μ x := by
  unfold jn_RU_stepsFromLeft_158 at h
  replace h := (kbIf_some h).2
  exact kbFr.tr (kbFr.w kbFr.rf (by decide)) (hrec h)
theorem fr_jn_RU_stepsFromLeft_132 {n : Nat} {v1 : Int32} {v3 : Int32} {v4 : Int32} {v5 : Int32} {v6 : Int32} {v7 : Int32} {w0 : Int32} {μ : kbM} {rec : Int32 → Int32 → kbM → Option (kbM)} (hrec : ∀ {y0 : Int32} {y1 : Int32} {y2 : kbM} {x : kbM}, rec y0 y1 y2 = some x → kbFr [42] [] y2 x) {x : kbM} (h : jn_RU_stepsFromLeft_132 n rec v1 v3 v4 v5 v6 v7 w0 μ = some x) : kbFr [42] [] μ x := by
  unfold jn_RU_stepsFromLeft_132 at h
  rcases kb_ite h with h | h
  · skip
    exact kbFr.tr kbFr.rf (kbFr.up (by decide) (by decide) (fr_jn_RU_stepsFromLeft_158 hrec h))
  exact kbFr.tr kbFr.rf (kbFr.up (by decide) (by decide) (fr_jn_RU_stepsFromLeft_158 hrec h))
theorem fr_jn_RU_stepsFromLeft_95 {n : Nat} {v1 : Int32} {v3 : Int32} {v4 : Int32} {v6 : Int32} {w0 : Int32} {μ : kbM} {rec : Int32 → Int32 → kbM → Option (kbM)} (hrec : ∀ {y0 : Int32} {y1 : Int32} {y2 : kbM} {x : kbM}, rec y0 y1 y2 = some x → kbFr [42] [] y2 x) {x : kbM} (h : jn_RU_stepsFromLeft_95 n rec v1 v3 v4 v6 w0 μ = some x) : kbFr [42] [] μ x := by
  unfold jn_RU_stepsFromLeft_95 at h
  replace h := (kbIf_some h).2
  replace h := (kbIf_some h).2
  rcases kb_ite h with h | h
  · skip
    replace h := (kbIf_some h).2
    exact kbFr.tr kbFr.rf (kbFr.up (by decide) (by decide) (fr_jn_RU_stepsFromLeft_132 hrec h))
  exact kbFr.tr kbFr.rf (kbFr.up (by decide) (by decide) (fr_jn_RU_stepsFromLeft_132 hrec h))
theorem fr_lp_RU_stepsFromLeft_63 {n : Nat} {v1 : Int32} {v3 : Int32} {v4 : Int32} {k : Nat} : ∀ {v5 : Int32} {v6 : Int32} {μ : kbM} {x : kbM}, lp_RU_stepsFromLeft_63 n v1 v3 v4 k v5 v6 μ = some x → kbFr [42] [] μ x := by
  induction k with
  | zero => intro v5 v6 μ x h; cases h
  | succ k ih =>
    intro v5 v6 μ x h
    unfold lp_RU_stepsFromLeft_63 at h
    rcases kb_ite h with h | h
    · skip
      cases h
      exact kbFr.rf
    replace h := (kbIf_some h).2
    replace h := (kbIf_some h).2
    rcases kb_ite h with h | h
    · skip
      exact kbFr.tr kbFr.rf (kbFr.up (by decide) (by decide) (fr_jn_RU_stepsFromLeft_95 (fun h => ih h) h))
    exact kbFr.tr kbFr.rf (kbFr.up (by decide) (by decide) (fr_jn_RU_stepsFromLeft_95 (fun h => ih h) h))
theorem fr_lp_RU_stepsFromLeft_36 {n : Nat} {v1 : Int32} {v3 : Int32} {k : Nat} : ∀ {v4 : Int32} {μ : kbM} {x : kbM}, lp_RU_stepsFromLeft_36 n v1 v3 k v4 μ = some x → kbFr [42] [] μ x := by
  induction k with
  | zero => intro v4 μ x h; cases h
  | succ k ih =>
    intro v4 μ x h
    unfold lp_RU_stepsFromLeft_36 at h
    rcases kb_ite h with h | h
    · skip
      cases h
      exact kbFr.rf
    obtain ⟨x3, ex3, h⟩ := kb_bind h
    have fx3 := kbFr.tr (C := [42]) (S := []) (kbFr.w kbFr.rf (by decide)) (kbFr.up (by decide) (by decide) (fr_lp_RU_stepsFromLeft_63 ex3))
    exact kbFr.tr fx3 (ih h)
theorem fr_f_RU_stepsFromLeft {n : Nat} {a1 : Int32} {a2 : Int32} {μ : kbM} {x : Int32 × kbM} (h : f_RU_stepsFromLeft n a1 a2 μ = some x) : kbFr [41, 42] [] μ x.2 := by
  unfold f_RU_stepsFromLeft at h
  obtain ⟨x1, ex1, h⟩ := kb_bind h
  have fx1 := kbFr.tr (C := [41, 42]) (S := []) kbFr.rf (kbFr.up (by decide) (by decide) (fr_f_RO_spread_41 ex1))
  obtain ⟨x2, ex2, h⟩ := kb_bind h
  have fx2 := kbFr.tr (C := [41, 42]) (S := []) fx1 (kbFr.up (by decide) (by decide) (fr_lp_RU_stepsFromLeft_12 ex2))
  obtain ⟨x4, ex4, h⟩ := kb_bind h
  have fx4 := kbFr.tr (C := [41, 42]) (S := []) fx2 (kbFr.up (by decide) (by decide) (fr_lp_RU_stepsFromLeft_36 ex4))
  replace h := (kbIf_some h).2
  cases h
  exact fx4
theorem fr_f_RU_steps {n : Nat} {a1 : Int32} {a2 : Int32} {μ : kbM} {x : Int32 × kbM} (h : f_RU_steps n a1 a2 μ = some x) : kbFr [40, 41, 42] [] μ x.2 := by
  unfold f_RU_steps at h
  obtain ⟨x1, ex1, h⟩ := kb_bind h
  have fx1 := kbFr.tr (C := [40, 41, 42]) (S := []) kbFr.rf (kbFr.up (by decide) (by decide) (fr_f_RO_spread_40 ex1))
  obtain ⟨x2, ex2, h⟩ := kb_bind h
  have fx2 := kbFr.tr (C := [40, 41, 42]) (S := []) fx1 (kbFr.up (by decide) (by decide) (fr_f_RU_stepsFromLeft ex2))
  cases h
  exact fx2
theorem fr_jn_RU_nearestWord_97 {n : Nat} {v2 : Int32} {v3 : Int32} {v4 : Int32} {v5 : Int32} {μ : kbM} {rec : Int32 → Int32 → Int32 → kbM → Option (Int32 × kbM)} (hrec : ∀ {y0 : Int32} {y1 : Int32} {y2 : Int32} {y3 : kbM} {x : Int32 × kbM}, rec y0 y1 y2 y3 = some x → kbFr [41, 42] [] y3 x.2) {x : Int32 × kbM} (h : jn_RU_nearestWord_97 n rec v2 v3 v4 v5 μ = some x) : kbFr [41, 42] [] μ x.2 := by
  unfold jn_RU_nearestWord_97 at h
  exact kbFr.tr kbFr.rf (hrec h)
theorem fr_jn_RU_nearestWord_95 {n : Nat} {v2 : Int32} {v3 : Int32} {v5 : Int32} {w0 : Int32} {μ : kbM} {rec : Int32 → Int32 → Int32 → kbM → Option (Int32 × kbM)} (hrec : ∀ {y0 : Int32} {y1 : Int32} {y2 : Int32} {y3 : kbM} {x : Int32 × kbM}, rec y0 y1 y2 y3 = some x → kbFr [41, 42] [] y3 x.2) {x : Int32 × kbM} (h : jn_RU_nearestWord_95 n rec v2 v3 v5 w0 μ = some x) : kbFr [41, 42] [] μ x.2 := by
  unfold jn_RU_nearestWord_95 at h
  exact kbFr.tr kbFr.rf (kbFr.up (by decide) (by decide) (fr_jn_RU_nearestWord_97 hrec h))
theorem fr_jn_RU_nearestWord_80 {n : Nat} {v2 : Int32} {v4 : Int32} {v5 : Int32} {v6 : Int32} {w0 : Int32} {μ : kbM} {rec : Int32 → Int32 → Int32 → kbM → Option (Int32 × kbM)} (hrec : ∀ {y0 : Int32} {y1 : Int32} {y2 : Int32} {y3 : kbM} {x : Int32 × kbM}, rec y0 y1 y2 y3 = some x → kbFr [41, 42] [] y3 x.2) {x : Int32 × kbM} (h : jn_RU_nearestWord_80 n rec v2 v4 v5 v6 w0 μ = some x) : kbFr [41, 42] [] μ x.2 := by
  unfold jn_RU_nearestWord_80 at h
  rcases kb_ite h with h | h
  · skip
    exact kbFr.tr kbFr.rf (kbFr.up (by decide) (by decide) (fr_jn_RU_nearestWord_95 hrec h))
  exact kbFr.tr kbFr.rf (kbFr.up (by decide) (by decide) (fr_jn_RU_nearestWord_95 hrec h))
theorem fr_lp_RU_nearestWord_18 {n : Nat} {v2 : Int32} {k : Nat} : ∀ {v3 : Int32} {v4 : Int32} {v5 : Int32} {μ : kbM} {x : Int32 × kbM}, lp_RU_nearestWord_18 n v2 k v3 v4 v5 μ = some x → kbFr [41, 42] [] μ x.2 := by
  induction k with
  | zero => intro v3 v4 v5 μ x h; cases h
  | succ k ih =>
    intro v3 v4 v5 μ x h
    unfold lp_RU_nearestWord_18 at h
    rcases kb_ite h with h | h
    · skip
      cases h
      exact kbFr.rf
    replace h := (kbIf_some h).2
    rcases kb_ite h with h | h
    · skip
      exact kbFr.tr kbFr.rf (kbFr.up (by decide) (by decide) (fr_jn_RU_nearestWord_97 (fun h => ih h) h))
    replace h := (kbIf_some h).2
    obtain ⟨x2, ex2, h⟩ := kb_bind h
    have fx2 := kbFr.tr (C := [41, 42]) (S := []) kbFr.rf (kbFr.up (by decide) (by decide) (fr_f_RU_stepsFromLeft ex2))
    rcases kb_ite h with h | h
    · skip
      exact kbFr.tr fx2 (kbFr.up (by decide) (by decide) (fr_jn_RU_nearestWord_80 (fun h => ih h) h))
    exact kbFr.tr fx2 (kbFr.up (by decide) (by decide) (fr_jn_RU_nearestWord_80 (fun h => ih h) h))
theorem fr_f_RU_nearestWord {n : Nat} {a1 : Int32} {μ : kbM} {x : Int32 × kbM} (h : f_RU_nearestWord n a1 μ = some x) : kbFr [40, 41, 42] [] μ x.2 := by
  unfold f_RU_nearestWord at h
  obtain ⟨x1, ex1, h⟩ := kb_bind h
  have fx1 := kbFr.tr (C := [40, 41, 42]) (S := []) kbFr.rf (kbFr.up (by decide) (by decide) (fr_f_RO_spread_40 ex1))
  obtain ⟨x3, ex3, h⟩ := kb_bind h
  have fx3 := kbFr.tr (C := [40, 41, 42]) (S := []) fx1 (kbFr.up (by decide) (by decide) (fr_lp_RU_nearestWord_18 ex3))
  cases h
  exact fx3
theorem fr_jn_RU_closestCouple_88 {n : Nat} {v1 : Int32} {v2 : Int32} {v3 : Int32} {v4 : Int32} {v5 : Int32} {μ : kbM} {rec : Int32 → Int32 → Int32 → kbM → Option (Int32 × Int32 × kbM)} (hrec : ∀ {y0 : Int32} {y1 : Int32} {y2 : Int32} {y3 : kbM} {x : Int32 × Int32 × kbM}, rec y0 y1 y2 y3 = some x → kbFr [41, 42] [] y3 x.2.2) {x : Int32 × Int32 × kbM} (h : jn_RU_closestCouple_88 n rec v1 v2 v3 v4 v5 μ = some x) : kbFr [41, 42] [] μ x.2.2 := by
  unfold jn_RU_closestCouple_88 at h
  exact kbFr.tr kbFr.rf (hrec h)
theorem fr_lp_RU_closestCouple_41 {n : Nat} {v3 : Int32} {v4 : Int32} {k : Nat} : ∀ {v1 : Int32} {v2 : Int32} {v5 : Int32} {μ : kbM} {x : Int32 × Int32 × kbM}, lp_RU_closestCouple_41 n v3 v4 k v1 v2 v5 μ = some x → kbFr [41, 42] [] μ x.2.2 := by
  induction k with
  | zero => intro v1 v2 v5 μ x h; cases h
  | succ k ih =>
    intro v1 v2 v5 μ x h
    unfold lp_RU_closestCouple_41 at h
    rcases kb_ite h with h | h
    · skip
      cases h
      exact kbFr.rf
    replace h := (kbIf_some h).2
    obtain ⟨x2, ex2, h⟩ := kb_bind h
    have fx2 := kbFr.tr (C := [41, 42]) (S := []) kbFr.rf (kbFr.up (by decide) (by decide) (fr_f_RU_stepsFromLeft ex2))
    rcases kb_ite h with h | h
    · skip
      exact kbFr.tr fx2 (kbFr.up (by decide) (by decide) (fr_jn_RU_closestCouple_88 (fun h => ih h) h))
    exact kbFr.tr fx2 (kbFr.up (by decide) (by decide) (fr_jn_RU_closestCouple_88 (fun h => ih h) h))
theorem fr_lp_RU_closestCouple_7 {n : Nat} {k : Nat} : ∀ {v1 : Int32} {v2 : Int32} {v3 : Int32} {μ : kbM} {x : Int32 × kbM}, lp_RU_closestCouple_7 n k v1 v2 v3 μ = some x → kbFr [40, 41, 42] [] μ x.2 := by
  induction k with
  | zero => intro v1 v2 v3 μ x h; cases h
  | succ k ih =>
    intro v1 v2 v3 μ x h
    unfold lp_RU_closestCouple_7 at h
    rcases kb_ite h with h | h
    · skip
      cases h
      exact kbFr.rf
    replace h := (kbIf_some h).2
    obtain ⟨x1, ex1, h⟩ := kb_bind h
    have fx1 := kbFr.tr (C := [40, 41, 42]) (S := []) kbFr.rf (kbFr.up (by decide) (by decide) (fr_f_RO_spread_40 ex1))
    obtain ⟨x3, ex3, h⟩ := kb_bind h
    have fx3 := kbFr.tr (C := [40, 41, 42]) (S := []) fx1 (kbFr.up (by decide) (by decide) (fr_lp_RU_closestCouple_41 ex3))
    exact kbFr.tr fx3 (ih h)
theorem fr_f_RU_closestCouple {n : Nat} {μ : kbM} {x : Int32 × kbM} (h : f_RU_closestCouple n μ = some x) : kbFr [40, 41, 42] [] μ x.2 := by
  unfold f_RU_closestCouple at h
  obtain ⟨x4, ex4, h⟩ := kb_bind h
  have fx4 := kbFr.tr (C := [40, 41, 42]) (S := []) kbFr.rf (kbFr.up (by decide) (by decide) (fr_lp_RU_closestCouple_7 ex4))
  cases h
  exact fx4
theorem fr_f_CO_shorten {a1 : Int32} {a2 : Int32} {a3 : Int32} {μ : kbM} {x : kbM} (h : f_CO_shorten a1 a2 a3 μ = some x) : kbFr [49] [] μ x := by
  unfold f_CO_shorten at h
  replace h := (kbIf_some h).2
  replace h := (kbIf_some h).2
  cases h
  exact (kbFr.w kbFr.rf (by decide))
theorem fr_lp_CO_begin_11 {n : Nat} {k : Nat} : ∀ {v1 : Int32} {μ : kbM} {x : kbM}, lp_CO_begin_11 n k v1 μ = some x → kbFr [50] [] μ x := by
  induction k with
  | zero => intro v1 μ x h; cases h
  | succ k ih =>
    intro v1 μ x h
    unfold lp_CO_begin_11 at h
    rcases kb_ite h with h | h
    · skip
      cases h
      exact kbFr.rf
    replace h := (kbIf_some h).2
    exact kbFr.tr (kbFr.w kbFr.rf (by decide)) (ih h)
theorem fr_jn_CO_begin_91 {n : Nat} {v1 : Int32} {v2 : Int32} {μ : kbM} {rec : Int32 → kbM → Option (kbM)} (hrec : ∀ {y0 : Int32} {y1 : kbM} {x : kbM}, rec y0 y1 = some x → kbFr [49] [] y1 x) {x : kbM} (h : jn_CO_begin_91 n rec v1 v2 μ = some x) : kbFr [49] [] μ x := by
  unfold jn_CO_begin_91 at h
  exact kbFr.tr kbFr.rf (hrec h)
theorem fr_lp_CO_begin_48 {n : Nat} {v1 : Int32} {k : Nat} : ∀ {v2 : Int32} {μ : kbM} {x : kbM}, lp_CO_begin_48 n v1 k v2 μ = some x → kbFr [49] [] μ x := by
  induction k with
  | zero => intro v2 μ x h; cases h
  | succ k ih =>
    intro v2 μ x h
    unfold lp_CO_begin_48 at h
    rcases kb_ite h with h | h
    · skip
      cases h
      exact kbFr.rf
    obtain ⟨x2, ex2, h⟩ := kb_bind h
    rcases kb_ite h with h | h
    · skip
      exact kbFr.tr kbFr.rf (kbFr.up (by decide) (by decide) (fr_jn_CO_begin_91 (fun h => ih h) h))
    replace h := (kbIf_some h).2
    replace h := (kbIf_some h).2
    obtain ⟨x3, ex3, h⟩ := kb_bind h
    have fx3 := kbFr.tr (C := [49]) (S := []) kbFr.rf (kbFr.up (by decide) (by decide) (fr_f_CO_shorten ex3))
    exact kbFr.tr fx3 (kbFr.up (by decide) (by decide) (fr_jn_CO_begin_91 (fun h => ih h) h))
theorem fr_lp_CO_begin_35 {n : Nat} {k : Nat} : ∀ {v1 : Int32} {μ : kbM} {x : kbM}, lp_CO_begin_35 n k v1 μ = some x → kbFr [49] [] μ x := by
  induction k with
  | zero => intro v1 μ x h; cases h
  | succ k ih =>
    intro v1 μ x h
    unfold lp_CO_begin_35 at h
    rcases kb_ite h with h | h
    · skip
      cases h
      exact kbFr.rf
    obtain ⟨x4, ex4, h⟩ := kb_bind h
    have fx4 := kbFr.tr (C := [49]) (S := []) kbFr.rf (kbFr.up (by decide) (by decide) (fr_lp_CO_begin_48 ex4))
    exact kbFr.tr fx4 (ih h)
theorem fr_f_CO_begin {n : Nat} {μ : kbM} {x : kbM} (h : f_CO_begin n μ = some x) : kbFr [49, 50] [] μ x := by
  unfold f_CO_begin at h
  obtain ⟨x1, ex1, h⟩ := kb_bind h
  have fx1 := kbFr.tr (C := [49, 50]) (S := []) (kbFr.a kbFr.rf (by decide)) (kbFr.up (by decide) (by decide) (fr_lp_CO_begin_11 ex1))
  obtain ⟨x5, ex5, h⟩ := kb_bind h
  have fx5 := kbFr.tr (C := [49, 50]) (S := []) fx1 (kbFr.up (by decide) (by decide) (fr_lp_CO_begin_35 ex5))
  cases h
  exact fx5
theorem fr_jn_CO_catchUp_167 {n : Nat} {v1 : Int32} {v2 : Int32} {v3 : Int32} {v5 : Int32} {v6 : Int32} {v7 : Int32} {μ : kbM} {rec : Int32 → kbM → Option ((Int32 × kbM) ⊕ (kbM))} (hrec : ∀ {y0 : Int32} {y1 : kbM} {x : (Int32 × kbM) ⊕ (kbM)}, rec y0 y1 = some x → Sum.elim (fun z => kbFr [49] [] y1 z.2) (fun z => kbFr [49] [] y1 z) x) {x : (Int32 × kbM) ⊕ (kbM)} (h : jn_CO_catchUp_167 n rec v1 v2 v3 v5 v6 v7 μ = some x) : Sum.elim (fun z => kbFr [49] [] μ z.2) (fun z => kbFr [49] [] μ z) x := by
  unfold jn_CO_catchUp_167 at h
  have q := (hrec h)
  cases x with
  | inl z => exact kbFr.tr kbFr.rf (kbFr.up (by decide) (by decide) q)
  | inr z => exact kbFr.tr kbFr.rf (kbFr.up (by decide) (by decide) q)
theorem fr_lp_CO_catchUp_49 {n : Nat} {v1 : Int32} {v2 : Int32} {v3 : Int32} {v5 : Int32} {v6 : Int32} {k : Nat} : ∀ {v7 : Int32} {μ : kbM} {x : (Int32 × kbM) ⊕ (kbM)}, lp_CO_catchUp_49 n v1 v2 v3 v5 v6 k v7 μ = some x → Sum.elim (fun z => kbFr [49] [] μ z.2) (fun z => kbFr [49] [] μ z) x := by
  induction k with
  | zero => intro v7 μ x h; cases h
  | succ k ih =>
    intro v7 μ x h
    unfold lp_CO_catchUp_49 at h
    rcases kb_ite h with h | h
    · skip
      cases h
      exact kbFr.rf
    replace h := (kbIf_some h).2
    obtain ⟨x2, ex2, h⟩ := kb_bind h
    replace h := (kbIf_some h).2
    obtain ⟨x3, ex3, h⟩ := kb_bind h
    rcases kb_ite h with h | h
    · skip
      rcases kb_ite h with h | h
      · skip
        cases h
        exact kbFr.rf
      rcases kb_ite h with h | h
      · skip
        replace h := (kbIf_some h).2
        obtain ⟨x4, ex4, h⟩ := kb_bind h
        have fx4 := kbFr.tr (C := [49]) (S := []) kbFr.rf (kbFr.up (by decide) (by decide) (fr_f_CO_shorten ex4))
        have q := (fr_jn_CO_catchUp_167 (fun h => ih h) h)
        cases x with
        | inl z => exact kbFr.tr fx4 (kbFr.up (by decide) (by decide) q)
        | inr z => exact kbFr.tr fx4 (kbFr.up (by decide) (by decide) q)
      replace h := (kbIf_some h).2
      obtain ⟨x5, ex5, h⟩ := kb_bind h
      have fx5 := kbFr.tr (C := [49]) (S := []) kbFr.rf (kbFr.up (by decide) (by decide) (fr_f_CO_shorten ex5))
      have q := (fr_jn_CO_catchUp_167 (fun h => ih h) h)
      cases x with
      | inl z => exact kbFr.tr fx5 (kbFr.up (by decide) (by decide) q)
      | inr z => exact kbFr.tr fx5 (kbFr.up (by decide) (by decide) q)
    have q := (fr_jn_CO_catchUp_167 (fun h => ih h) h)
    cases x with
    | inl z => exact kbFr.tr kbFr.rf (kbFr.up (by decide) (by decide) q)
    | inr z => exact kbFr.tr kbFr.rf (kbFr.up (by decide) (by decide) q)
theorem fr_f_CO_catchUp {n : Nat} {a1 : Int32} {μ : kbM} {x : Int32 × kbM} (h : f_CO_catchUp n a1 μ = some x) : kbFr [49] [] μ x.2 := by
  unfold f_CO_catchUp at h
  replace h := (kbIf_some h).2
  replace h := (kbIf_some h).2
  obtain ⟨x1, ex1, h⟩ := kb_bind h
  rcases kb_orS h with ⟨r7, er7, h⟩ | ⟨x6, ex6, h⟩
  · skip
    have fr7 := kbFr.tr (C := [49]) (S := []) kbFr.rf (kbFr.up (by decide) (by decide) (fr_lp_CO_catchUp_49 er7))
    cases h
    exact fr7
  have fx6 := kbFr.tr (C := [49]) (S := []) kbFr.rf (kbFr.up (by decide) (by decide) (fr_lp_CO_catchUp_49 ex6))
  cases h
  exact fx6
theorem fr_lp_CO_shortestAmbiguous_6 {n : Nat} {k : Nat} : ∀ {v1 : Int32} {μ : kbM} {x : (Int32 × kbM) ⊕ (kbM)}, lp_CO_shortestAmbiguous_6 n k v1 μ = some x → Sum.elim (fun z => kbFr [49, 50] [] μ z.2) (fun z => kbFr [49, 50] [] μ z) x := by
  induction k with
  | zero => intro v1 μ x h; cases h
  | succ k ih =>
    intro v1 μ x h
    unfold lp_CO_shortestAmbiguous_6 at h
    rcases kb_ite h with h | h
    · skip
      cases h
      exact kbFr.rf
    obtain ⟨x2, ex2, h⟩ := kb_bind h
    rcases kb_ite h with h | h
    · skip
      cases h
      exact kbFr.rf
    replace h := (kbIf_some h).2
    obtain ⟨x3, ex3, h⟩ := kb_bind h
    have fx3 := kbFr.tr (C := [49, 50]) (S := []) (kbFr.w kbFr.rf (by decide)) (kbFr.up (by decide) (by decide) (fr_f_CO_catchUp ex3))
    rcases kb_ite h with h | h
    · skip
      have q := (ih h)
      cases x with
      | inl z => exact kbFr.tr fx3 (kbFr.up (by decide) (by decide) q)
      | inr z => exact kbFr.tr fx3 (kbFr.up (by decide) (by decide) q)
    replace h := (kbIf_some h).2
    cases h
    exact fx3
theorem fr_f_CO_shortestAmbiguous {n : Nat} {μ : kbM} {x : Int32 × kbM} (h : f_CO_shortestAmbiguous n μ = some x) : kbFr [49, 50] [] μ x.2 := by
  unfold f_CO_shortestAmbiguous at h
  obtain ⟨x1, ex1, h⟩ := kb_bind h
  have fx1 := kbFr.tr (C := [49, 50]) (S := []) kbFr.rf (kbFr.up (by decide) (by decide) (fr_f_CO_begin ex1))
  rcases kb_orS h with ⟨r5, er5, h⟩ | ⟨x4, ex4, h⟩
  · skip
    have fr5 := kbFr.tr (C := [49, 50]) (S := []) fx1 (kbFr.up (by decide) (by decide) (fr_lp_CO_shortestAmbiguous_6 er5))
    cases h
    exact fr5
  have fx4 := kbFr.tr (C := [49, 50]) (S := []) fx1 (kbFr.up (by decide) (by decide) (fr_lp_CO_shortestAmbiguous_6 ex4))
  cases h
  exact fx4
theorem fr_jn_PL_isUnderstood_33 {n : Nat} {w0 : Int32} {μ : kbM} {x : Int32 × kbM} (h : jn_PL_isUnderstood_33 n w0 μ = some x) : kbFr [] [] μ x.2 := by
  unfold jn_PL_isUnderstood_33 at h
  replace h := (kbIf_some h).2
  cases h
  exact kbFr.rf
theorem fr_f_PL_isUnderstood {n : Nat} {a1 : Int32} {a2 : Int32} {μ : kbM} {x : Int32 × kbM} (h : f_PL_isUnderstood n a1 a2 μ = some x) : kbFr [40, 41, 42] [] μ x.2 := by
  unfold f_PL_isUnderstood at h
  replace h := (kbIf_some h).2
  obtain ⟨x1, ex1, h⟩ := kb_bind h
  obtain ⟨x2, ex2, h⟩ := kb_bind h
  have fx2 := kbFr.tr (C := [40, 41, 42]) (S := []) kbFr.rf (kbFr.up (by decide) (by decide) (fr_f_RU_nearestWord ex2))
  rcases kb_ite h with h | h
  · skip
    exact kbFr.tr fx2 (kbFr.up (by decide) (by decide) (fr_jn_PL_isUnderstood_33 h))
  exact kbFr.tr fx2 (kbFr.up (by decide) (by decide) (fr_jn_PL_isUnderstood_33 h))
theorem fr_jn_PL_passing_49 {n : Nat} {v1 : Int32} {v2 : Int32} {v4 : Int32} {w0 : Int32} {w1 : Int32} {μ : kbM} {rec : Int32 → Int32 → kbM → Option (Int32 × kbM)} (hrec : ∀ {y0 : Int32} {y1 : Int32} {y2 : kbM} {x : Int32 × kbM}, rec y0 y1 y2 = some x → kbFr [40, 41, 42] [] y2 x.2) {x : Int32 × kbM} (h : jn_PL_passing_49 n rec v1 v2 v4 w0 w1 μ = some x) : kbFr [40, 41, 42] [] μ x.2 := by
  unfold jn_PL_passing_49 at h
  exact kbFr.tr kbFr.rf (hrec h)
theorem fr_jn_PL_passing_48 {n : Nat} {v1 : Int32} {v2 : Int32} {v4 : Int32} {w0 : Int32} {μ : kbM} {rec : Int32 → Int32 → kbM → Option (Int32 × kbM)} (hrec : ∀ {y0 : Int32} {y1 : Int32} {y2 : kbM} {x : Int32 × kbM}, rec y0 y1 y2 = some x → kbFr [40, 41, 42] [] y2 x.2) {x : Int32 × kbM} (h : jn_PL_passing_48 n rec v1 v2 v4 w0 μ = some x) : kbFr [40, 41, 42] [] μ x.2 := by
  unfold jn_PL_passing_48 at h
  exact kbFr.tr kbFr.rf (kbFr.up (by decide) (by decide) (fr_jn_PL_passing_49 hrec h))
theorem fr_lp_PL_passing_5 {n : Nat} {v1 : Int32} {v2 : Int32} {k : Nat} : ∀ {v3 : Int32} {v4 : Int32} {μ : kbM} {x : Int32 × kbM}, lp_PL_passing_5 n v1 v2 k v3 v4 μ = some x → kbFr [40, 41, 42] [] μ x.2 := by
  induction k with
  | zero => intro v3 v4 μ x h; cases h
  | succ k ih =>
    intro v3 v4 μ x h
    unfold lp_PL_passing_5 at h
    rcases kb_ite h with h | h
    · skip
      cases h
      exact kbFr.rf
    obtain ⟨x1, ex1, h⟩ := kb_bind h
    rcases kb_ite h with h | h
    · skip
      exact kbFr.tr kbFr.rf (kbFr.up (by decide) (by decide) (fr_jn_PL_passing_48 (fun h => ih h) h))
    obtain ⟨x2, ex2, h⟩ := kb_bind h
    have fx2 := kbFr.tr (C := [40, 41, 42]) (S := []) kbFr.rf (kbFr.up (by decide) (by decide) (fr_f_PL_isUnderstood ex2))
    rcases kb_ite h with h | h
    · skip
      exact kbFr.tr fx2 (kbFr.up (by decide) (by decide) (fr_jn_PL_passing_48 (fun h => ih h) h))
    exact kbFr.tr fx2 (kbFr.up (by decide) (by decide) (fr_jn_PL_passing_49 (fun h => ih h) h))
theorem fr_f_PL_passing {n : Nat} {a1 : Int32} {a2 : Int32} {μ : kbM} {x : Int32 × kbM} (h : f_PL_passing n a1 a2 μ = some x) : kbFr [40, 41, 42] [] μ x.2 := by
  unfold f_PL_passing at h
  obtain ⟨x3, ex3, h⟩ := kb_bind h
  have fx3 := kbFr.tr (C := [40, 41, 42]) (S := []) kbFr.rf (kbFr.up (by decide) (by decide) (fr_lp_PL_passing_5 ex3))
  cases h
  exact fx3
theorem fr_jn_PL_layGains_55_64 {n : Nat} {v1 : Int32} {v2 : Int32} {v4 : Int32} {μ : kbM} {rec : Int32 → kbM → Option (kbM)} (hrec : ∀ {y0 : Int32} {y1 : kbM} {x : kbM}, rec y0 y1 = some x → kbFr [40, 41, 42, 55] [] y1 x) {x : kbM} (h : jn_PL_layGains_55_64 n rec v1 v2 v4 μ = some x) : kbFr [40, 41, 42, 55] [] μ x := by
  unfold jn_PL_layGains_55_64 at h
  exact kbFr.tr kbFr.rf (hrec h)
theorem fr_jn_PL_layGains_55_55 {n : Nat} {v1 : Int32} {v2 : Int32} {v4 : Int32} {w1 : Int32} {w2 : Int32} {μ : kbM} {rec : Int32 → kbM → Option (kbM)} (hrec : ∀ {y0 : Int32} {y1 : kbM} {x : kbM}, rec y0 y1 = some x → kbFr [40, 41, 42, 55] [] y1 x) {x : kbM} (h : jn_PL_layGains_55_55 n rec v1 v2 v4 w1 w2 μ = some x) : kbFr [40, 41, 42, 55] [] μ x := by
  unfold jn_PL_layGains_55_55 at h
  replace h := (kbIf_some h).2
  exact kbFr.tr (kbFr.w kbFr.rf (by decide)) (kbFr.up (by decide) (by decide) (fr_jn_PL_layGains_55_64 hrec h))
theorem fr_lp_PL_layGains_55_3 {n : Nat} {v1 : Int32} {v2 : Int32} {k : Nat} : ∀ {v4 : Int32} {μ : kbM} {x : kbM}, lp_PL_layGains_55_3 n v1 v2 k v4 μ = some x → kbFr [40, 41, 42, 55] [] μ x := by
  induction k with
  | zero => intro v4 μ x h; cases h
  | succ k ih =>
    intro v4 μ x h
    unfold lp_PL_layGains_55_3 at h
    rcases kb_ite h with h | h
    · skip
      cases h
      exact kbFr.rf
    obtain ⟨x1, ex1, h⟩ := kb_bind h
    rcases kb_ite h with h | h
    · skip
      replace h := (kbIf_some h).2
      exact kbFr.tr (kbFr.w kbFr.rf (by decide)) (kbFr.up (by decide) (by decide) (fr_jn_PL_layGains_55_64 (fun h => ih h) h))
    obtain ⟨x2, ex2, h⟩ := kb_bind h
    have fx2 := kbFr.tr (C := [40, 41, 42, 55]) (S := []) kbFr.rf (kbFr.up (by decide) (by decide) (fr_f_PL_isUnderstood ex2))
    rcases kb_ite h with h | h
    · skip
      exact kbFr.tr fx2 (kbFr.up (by decide) (by decide) (fr_jn_PL_layGains_55_55 (fun h => ih h) h))
    replace h := (kbIf_some h).2
    exact kbFr.tr fx2 (kbFr.up (by decide) (by decide) (fr_jn_PL_layGains_55_55 (fun h => ih h) h))
theorem fr_f_PL_layGains_55 {n : Nat} {a1 : Int32} {a2 : Int32} {μ : kbM} {x : kbM} (h : f_PL_layGains_55 n a1 a2 μ = some x) : kbFr [40, 41, 42, 55] [] μ x := by
  unfold f_PL_layGains_55 at h
  obtain ⟨x3, ex3, h⟩ := kb_bind h
  have fx3 := kbFr.tr (C := [40, 41, 42, 55]) (S := []) kbFr.rf (kbFr.up (by decide) (by decide) (fr_lp_PL_layGains_55_3 ex3))
  cases h
  exact fx3
theorem fr_jn_PL_layGains_56_64 {n : Nat} {v1 : Int32} {v2 : Int32} {v4 : Int32} {μ : kbM} {rec : Int32 → kbM → Option (kbM)} (hrec : ∀ {y0 : Int32} {y1 : kbM} {x : kbM}, rec y0 y1 = some x → kbFr [40, 41, 42, 56] [] y1 x) {x : kbM} (h : jn_PL_layGains_56_64 n rec v1 v2 v4 μ = some x) : kbFr [40, 41, 42, 56] [] μ x := by
  unfold jn_PL_layGains_56_64 at h
  exact kbFr.tr kbFr.rf (hrec h)
theorem fr_jn_PL_layGains_56_55 {n : Nat} {v1 : Int32} {v2 : Int32} {v4 : Int32} {w1 : Int32} {w2 : Int32} {μ : kbM} {rec : Int32 → kbM → Option (kbM)} (hrec : ∀ {y0 : Int32} {y1 : kbM} {x : kbM}, rec y0 y1 = some x → kbFr [40, 41, 42, 56] [] y1 x) {x : kbM} (h : jn_PL_layGains_56_55 n rec v1 v2 v4 w1 w2 μ = some x) : kbFr [40, 41, 42, 56] [] μ x := by
  unfold jn_PL_layGains_56_55 at h
  replace h := (kbIf_some h).2
  exact kbFr.tr (kbFr.w kbFr.rf (by decide)) (kbFr.up (by decide) (by decide) (fr_jn_PL_layGains_56_64 hrec h))
theorem fr_lp_PL_layGains_56_3 {n : Nat} {v1 : Int32} {v2 : Int32} {k : Nat} : ∀ {v4 : Int32} {μ : kbM} {x : kbM}, lp_PL_layGains_56_3 n v1 v2 k v4 μ = some x → kbFr [40, 41, 42, 56] [] μ x := by
  induction k with
  | zero => intro v4 μ x h; cases h
  | succ k ih =>
    intro v4 μ x h
    unfold lp_PL_layGains_56_3 at h
    rcases kb_ite h with h | h
    · skip
      cases h
      exact kbFr.rf
    obtain ⟨x1, ex1, h⟩ := kb_bind h
    rcases kb_ite h with h | h
    · skip
      replace h := (kbIf_some h).2
      exact kbFr.tr (kbFr.w kbFr.rf (by decide)) (kbFr.up (by decide) (by decide) (fr_jn_PL_layGains_56_64 (fun h => ih h) h))
    obtain ⟨x2, ex2, h⟩ := kb_bind h
    have fx2 := kbFr.tr (C := [40, 41, 42, 56]) (S := []) kbFr.rf (kbFr.up (by decide) (by decide) (fr_f_PL_isUnderstood ex2))
    rcases kb_ite h with h | h
    · skip
      exact kbFr.tr fx2 (kbFr.up (by decide) (by decide) (fr_jn_PL_layGains_56_55 (fun h => ih h) h))
    replace h := (kbIf_some h).2
    exact kbFr.tr fx2 (kbFr.up (by decide) (by decide) (fr_jn_PL_layGains_56_55 (fun h => ih h) h))
theorem fr_f_PL_layGains_56 {n : Nat} {a1 : Int32} {a2 : Int32} {μ : kbM} {x : kbM} (h : f_PL_layGains_56 n a1 a2 μ = some x) : kbFr [40, 41, 42, 56] [] μ x := by
  unfold f_PL_layGains_56 at h
  obtain ⟨x3, ex3, h⟩ := kb_bind h
  have fx3 := kbFr.tr (C := [40, 41, 42, 56]) (S := []) kbFr.rf (kbFr.up (by decide) (by decide) (fr_lp_PL_layGains_56_3 ex3))
  cases h
  exact fx3
theorem fr_jn_PL_settle_121 {n : Nat} {v3 : Int32} {v4 : Int32} {μ : kbM} {rec : Int32 → kbM → Option (kbM)} (hrec : ∀ {y0 : Int32} {y1 : kbM} {x : kbM}, rec y0 y1 = some x → kbFr [54] [] y1 x) {x : kbM} (h : jn_PL_settle_121 n rec v3 v4 μ = some x) : kbFr [54] [] μ x := by
  unfold jn_PL_settle_121 at h
  exact kbFr.tr kbFr.rf (hrec h)
theorem fr_jn_PL_settle_108 {n : Nat} {v3 : Int32} {v4 : Int32} {w1 : Int32} {μ : kbM} {rec : Int32 → kbM → Option (kbM)} (hrec : ∀ {y0 : Int32} {y1 : kbM} {x : kbM}, rec y0 y1 = some x → kbFr [54] [] y1 x) {x : kbM} (h : jn_PL_settle_108 n rec v3 v4 w1 μ = some x) : kbFr [54] [] μ x := by
  unfold jn_PL_settle_108 at h
  exact kbFr.tr (kbFr.w (kbFr.w kbFr.rf (by decide)) (by decide)) (kbFr.up (by decide) (by decide) (fr_jn_PL_settle_121 hrec h))
theorem fr_lp_PL_settle_46 {n : Nat} {v3 : Int32} {k : Nat} : ∀ {v4 : Int32} {μ : kbM} {x : kbM}, lp_PL_settle_46 n v3 k v4 μ = some x → kbFr [54] [] μ x := by
  induction k with
  | zero => intro v4 μ x h; cases h
  | succ k ih =>
    intro v4 μ x h
    unfold lp_PL_settle_46 at h
    rcases kb_ite h with h | h
    · skip
      cases h
      exact kbFr.rf
    obtain ⟨x3, ex3, h⟩ := kb_bind h
    rcases kb_ite h with h | h
    · skip
      exact kbFr.tr kbFr.rf (kbFr.up (by decide) (by decide) (fr_jn_PL_settle_121 (fun h => ih h) h))
    obtain ⟨x4, ex4, h⟩ := kb_bind h
    rcases kb_ite h with h | h
    · skip
      exact kbFr.tr kbFr.rf (kbFr.up (by decide) (by decide) (fr_jn_PL_settle_121 (fun h => ih h) h))
    rcases kb_ite h with h | h
    · skip
      exact kbFr.tr kbFr.rf (kbFr.up (by decide) (by decide) (fr_jn_PL_settle_108 (fun h => ih h) h))
    exact kbFr.tr kbFr.rf (kbFr.up (by decide) (by decide) (fr_jn_PL_settle_108 (fun h => ih h) h))
theorem fr_lp_PL_settle_32 {n : Nat} {k : Nat} : ∀ {v3 : Int32} {μ : kbM} {x : kbM}, lp_PL_settle_32 n k v3 μ = some x → kbFr [54] [] μ x := by
  induction k with
  | zero => intro v3 μ x h; cases h
  | succ k ih =>
    intro v3 μ x h
    unfold lp_PL_settle_32 at h
    rcases kb_ite h with h | h
    · skip
      cases h
      exact kbFr.rf
    obtain ⟨x5, ex5, h⟩ := kb_bind h
    have fx5 := kbFr.tr (C := [54]) (S := []) kbFr.rf (kbFr.up (by decide) (by decide) (fr_lp_PL_settle_46 ex5))
    exact kbFr.tr fx5 (ih h)
theorem fr_f_PL_settle {n : Nat} {a1 : Int32} {a2 : Int32} {μ : kbM} {x : kbM} (h : f_PL_settle n a1 a2 μ = some x) : kbFr [40, 41, 42, 54, 55, 56] [] μ x := by
  unfold f_PL_settle at h
  obtain ⟨x1, ex1, h⟩ := kb_bind h
  have fx1 := kbFr.tr (C := [40, 41, 42, 54, 55, 56]) (S := []) kbFr.rf (kbFr.up (by decide) (by decide) (fr_f_PL_layGains_55 ex1))
  obtain ⟨x2, ex2, h⟩ := kb_bind h
  have fx2 := kbFr.tr (C := [40, 41, 42, 54, 55, 56]) (S := []) fx1 (kbFr.up (by decide) (by decide) (fr_f_PL_layGains_56 ex2))
  obtain ⟨x6, ex6, h⟩ := kb_bind h
  have fx6 := kbFr.tr (C := [40, 41, 42, 54, 55, 56]) (S := []) (kbFr.w (kbFr.w fx2 (by decide)) (by decide)) (kbFr.up (by decide) (by decide) (fr_lp_PL_settle_32 ex6))
  cases h
  exact fx6
theorem fr_jn_PL_draw_36 {w0 : Int32} {μ : kbM} {x : Int32 × kbM} (h : jn_PL_draw_36 w0 μ = some x) : kbFr [] [] μ x.2 := by
  unfold jn_PL_draw_36 at h
  cases h
  exact kbFr.rf
theorem fr_f_PL_draw {a1 : Int32} {μ : kbM} {x : Int32 × kbM} (h : f_PL_draw a1 μ = some x) : kbFr [54] [] μ x.2 := by
  unfold f_PL_draw at h
  rcases kb_ite h with h | h
  · skip
    replace h := (kbIf_some h).2
    exact kbFr.tr (kbFr.w kbFr.rf (by decide)) (kbFr.up (by decide) (by decide) (fr_jn_PL_draw_36 h))
  exact kbFr.tr (kbFr.w kbFr.rf (by decide)) (kbFr.up (by decide) (by decide) (fr_jn_PL_draw_36 h))
theorem fr_jn_PL_freeze_43 {n : Nat} {μ : kbM} {x : kbM} (h : jn_PL_freeze_43 n μ = some x) : kbFr [] [] μ x := by
  unfold jn_PL_freeze_43 at h
  cases h
  exact kbFr.rf
theorem fr_jn_PL_freeze_167 {n : Nat} {v2 : Int32} {v3 : Int32} {w1 : Int32} {w2 : Int32} {μ : kbM} {rec : Int32 → kbM → Option (kbM)} (hrec : ∀ {y0 : Int32} {y1 : kbM} {x : kbM}, rec y0 y1 = some x → kbFr [40, 41, 42, 54] [] y1 x) {x : kbM} (h : jn_PL_freeze_167 n rec v2 v3 w1 w2 μ = some x) : kbFr [40, 41, 42, 54] [] μ x := by
  unfold jn_PL_freeze_167 at h
  exact kbFr.tr (kbFr.w kbFr.rf (by decide)) (hrec h)
theorem fr_jn_PL_freeze_152 {n : Nat} {v2 : Int32} {v3 : Int32} {v6 : Int32} {μ : kbM} {rec : Int32 → kbM → Option (kbM)} (hrec : ∀ {y0 : Int32} {y1 : kbM} {x : kbM}, rec y0 y1 = some x → kbFr [40, 41, 42, 54] [] y1 x) {x : kbM} (h : jn_PL_freeze_152 n rec v2 v3 v6 μ = some x) : kbFr [40, 41, 42, 54] [] μ x := by
  unfold jn_PL_freeze_152 at h
  rcases kb_ite h with h | h
  · skip
    exact kbFr.tr kbFr.rf (kbFr.up (by decide) (by decide) (fr_jn_PL_freeze_167 hrec h))
  exact kbFr.tr kbFr.rf (kbFr.up (by decide) (by decide) (fr_jn_PL_freeze_167 hrec h))
theorem fr_lp_PL_freeze_46 {n : Nat} {v2 : Int32} {k : Nat} : ∀ {v3 : Int32} {μ : kbM} {x : kbM}, lp_PL_freeze_46 n v2 k v3 μ = some x → kbFr [40, 41, 42, 54] [] μ x := by
  induction k with
  | zero => intro v3 μ x h; cases h
  | succ k ih =>
    intro v3 μ x h
    unfold lp_PL_freeze_46 at h
    rcases kb_ite h with h | h
    · skip
      cases h
      exact kbFr.rf
    obtain ⟨x1, ex1, h⟩ := kb_bind h
    have fx1 := kbFr.tr (C := [40, 41, 42, 54]) (S := []) kbFr.rf (kbFr.up (by decide) (by decide) (fr_f_PL_draw ex1))
    obtain ⟨x2, ex2, h⟩ := kb_bind h
    have fx2 := kbFr.tr (C := [40, 41, 42, 54]) (S := []) fx1 (kbFr.up (by decide) (by decide) (fr_f_PL_draw ex2))
    replace h := (kbIf_some h).2
    obtain ⟨x3, ex3, h⟩ := kb_bind h
    obtain ⟨x4, ex4, h⟩ := kb_bind h
    have fx4 := kbFr.tr (C := [40, 41, 42, 54]) (S := []) fx2 (kbFr.up (by decide) (by decide) (fr_f_PL_draw ex4))
    obtain ⟨x5, ex5, h⟩ := kb_bind h
    obtain ⟨x6, ex6, h⟩ := kb_bind h
    have fx6 := kbFr.tr (C := [40, 41, 42, 54]) (S := []) fx4 (kbFr.up (by decide) (by decide) (fr_f_RU_nearestWord ex6))
    rcases kb_ite h with h | h
    · skip
      replace h := (kbIf_some h).2
      exact kbFr.tr (kbFr.w (kbFr.w fx6 (by decide)) (by decide)) (kbFr.up (by decide) (by decide) (fr_jn_PL_freeze_152 (fun h => ih h) h))
    exact kbFr.tr fx6 (kbFr.up (by decide) (by decide) (fr_jn_PL_freeze_152 (fun h => ih h) h))
theorem fr_f_PL_freeze {n : Nat} {a1 : Int32} {a2 : Int32} {μ : kbM} {x : kbM} (h : f_PL_freeze n a1 a2 μ = some x) : kbFr [40, 41, 42, 54] [] μ x := by
  unfold f_PL_freeze at h
  rcases kb_ite h with h | h
  · skip
    exact kbFr.tr (kbFr.w (kbFr.w (kbFr.w (kbFr.w kbFr.rf (by decide)) (by decide)) (by decide)) (by decide)) (kbFr.up (by decide) (by decide) (fr_jn_PL_freeze_43 h))
  rcases kb_ite h with h | h
  · skip
    exact kbFr.tr (kbFr.w (kbFr.w (kbFr.w (kbFr.w kbFr.rf (by decide)) (by decide)) (by decide)) (by decide)) (kbFr.up (by decide) (by decide) (fr_jn_PL_freeze_43 h))
  obtain ⟨x7, ex7, h⟩ := kb_bind h
  have fx7 := kbFr.tr (C := [40, 41, 42, 54]) (S := []) (kbFr.w (kbFr.w (kbFr.w (kbFr.w kbFr.rf (by decide)) (by decide)) (by decide)) (by decide)) (kbFr.up (by decide) (by decide) (fr_lp_PL_freeze_46 ex7))
  cases h
  exact fx7
theorem fr_f_KB_feed {a1 : Int32} {a2 : Int32} {a3 : Int32} {a4 : Int32} {a5 : Int32} {μ : kbM} {x : Int32 × kbM} (h : f_KB_feed a1 a2 a3 a4 a5 μ = some x) : kbFr [1, 2] [] μ x.2 := by
  unfold f_KB_feed at h
  rcases kb_ite h with h | h
  · skip
    obtain ⟨x1, ex1, h⟩ := kb_bind h
    have fx1 := kbFr.tr (C := [1, 2]) (S := []) kbFr.rf (kbFr.up (by decide) (by decide) (fr_f_BT_append ex1))
    obtain ⟨x2, ex2, h⟩ := kb_bind h
    have fx2 := kbFr.tr (C := [1, 2]) (S := []) fx1 (kbFr.up (by decide) (by decide) (fr_f_BT_append ex2))
    obtain ⟨x3, ex3, h⟩ := kb_bind h
    have fx3 := kbFr.tr (C := [1, 2]) (S := []) fx2 (kbFr.up (by decide) (by decide) (fr_f_BT_append ex3))
    obtain ⟨x4, ex4, h⟩ := kb_bind h
    have fx4 := kbFr.tr (C := [1, 2]) (S := []) fx3 (kbFr.up (by decide) (by decide) (fr_f_BT_append ex4))
    obtain ⟨x5, ex5, h⟩ := kb_bind h
    have fx5 := kbFr.tr (C := [1, 2]) (S := []) fx4 (kbFr.up (by decide) (by decide) (fr_f_BT_append ex5))
    cases h
    exact fx5
  cases h
  exact kbFr.rf
theorem fr_f_KB_refuseAct {μ : kbM} {x : Int32 × kbM} (h : f_KB_refuseAct μ = some x) : kbFr [21] [] μ x.2 := by
  unfold f_KB_refuseAct at h
  cases h
  exact (kbFr.w kbFr.rf (by decide))
theorem fr_jn_KB_take_68 {n : Nat} {v1 : Int32} {v2 : Int32} {v3 : Int32} {w0 : Int32} {μ : kbM} {x : Int32 × kbM} (h : jn_KB_take_68 n v1 v2 v3 w0 μ = some x) : kbFr [12, 13, 14, 15, 16, 17, 18, 21, 38] [] μ x.2 := by
  unfold jn_KB_take_68 at h
  rcases kb_ite h with h | h
  · skip
    obtain ⟨x4, ex4, h⟩ := kb_bind h
    have fx4 := kbFr.tr (C := [12, 13, 14, 15, 16, 17, 18, 21, 38]) (S := []) kbFr.rf (kbFr.up (by decide) (by decide) (fr_f_KB_refuseAct ex4))
    cases h
    exact fx4
  obtain ⟨x1, ex1, h⟩ := kb_bind h
  have fx1 := kbFr.tr (C := [12, 13, 14, 15, 16, 17, 18, 21, 38]) (S := []) kbFr.rf (kbFr.up (by decide) (by decide) (fr_f_WO_insert_13 ex1))
  obtain ⟨x2, ex2, h⟩ := kb_bind h
  have fx2 := kbFr.tr (C := [12, 13, 14, 15, 16, 17, 18, 21, 38]) (S := []) fx1 (kbFr.up (by decide) (by decide) (fr_f_ST_keepAct_12 ex2))
  obtain ⟨x3, ex3, h⟩ := kb_bind h
  have fx3 := kbFr.tr (C := [12, 13, 14, 15, 16, 17, 18, 21, 38]) (S := []) fx2 (kbFr.up (by decide) (by decide) (fr_f_JO_renew ex3))
  cases h
  exact fx3
theorem fr_jn_KB_take_67 {n : Nat} {v1 : Int32} {v2 : Int32} {v3 : Int32} {μ : kbM} {x : Int32 × kbM} (h : jn_KB_take_67 n v1 v2 v3 μ = some x) : kbFr [12, 13, 14, 15, 16, 17, 18, 21, 38] [] μ x.2 := by
  unfold jn_KB_take_67 at h
  exact kbFr.tr kbFr.rf (kbFr.up (by decide) (by decide) (fr_jn_KB_take_68 h))
theorem fr_f_KB_take {n : Nat} {a1 : Int32} {a2 : Int32} {a3 : Int32} {μ : kbM} {x : Int32 × kbM} (h : f_KB_take n a1 a2 a3 μ = some x) : kbFr [12, 13, 14, 15, 16, 17, 18, 21, 38] [] μ x.2 := by
  unfold f_KB_take at h
  rcases kb_ite h with h | h
  · skip
    exact kbFr.tr kbFr.rf (kbFr.up (by decide) (by decide) (fr_jn_KB_take_67 h))
  obtain ⟨x5, ex5, h⟩ := kb_bind h
  rcases kb_ite h with h | h
  · skip
    exact kbFr.tr kbFr.rf (kbFr.up (by decide) (by decide) (fr_jn_KB_take_67 h))
  rcases kb_ite h with h | h
  · skip
    exact kbFr.tr kbFr.rf (kbFr.up (by decide) (by decide) (fr_jn_KB_take_67 h))
  obtain ⟨x6, ex6, h⟩ := kb_bind h
  rcases kb_ite h with h | h
  · skip
    exact kbFr.tr kbFr.rf (kbFr.up (by decide) (by decide) (fr_jn_KB_take_67 h))
  obtain ⟨x7, ex7, h⟩ := kb_bind h
  rcases kb_ite h with h | h
  · skip
    obtain ⟨x8, ex8, h⟩ := kb_bind h
    rcases kb_ite h with h | h
    · skip
      exact kbFr.tr kbFr.rf (kbFr.up (by decide) (by decide) (fr_jn_KB_take_67 h))
    obtain ⟨x9, ex9, h⟩ := kb_bind h
    rcases kb_ite h with h | h
    · skip
      exact kbFr.tr kbFr.rf (kbFr.up (by decide) (by decide) (fr_jn_KB_take_67 h))
    exact kbFr.tr kbFr.rf (kbFr.up (by decide) (by decide) (fr_jn_KB_take_68 h))
  exact kbFr.tr kbFr.rf (kbFr.up (by decide) (by decide) (fr_jn_KB_take_67 h))
theorem fr_f_KB_undo {n : Nat} {μ : kbM} {x : Int32 × kbM} (h : f_KB_undo n μ = some x) : kbFr [12, 13, 14, 15, 16, 17, 38] [] μ x.2 := by
  unfold f_KB_undo at h
  rcases kb_ite h with h | h
  · skip
    cases h
    exact kbFr.rf
  obtain ⟨x1, ex1, h⟩ := kb_bind h
  have fx1 := kbFr.tr (C := [12, 13, 14, 15, 16, 17, 38]) (S := []) kbFr.rf (kbFr.up (by decide) (by decide) (fr_f_ST_undoLast_12 ex1))
  obtain ⟨x2, ex2, h⟩ := kb_bind h
  have fx2 := kbFr.tr (C := [12, 13, 14, 15, 16, 17, 38]) (S := []) fx1 (kbFr.up (by decide) (by decide) (fr_f_JO_renew ex2))
  cases h
  exact fx2
theorem fr_f_KB_twoWays {n : Nat} {μ : kbM} {x : Int32 × kbM} (h : f_KB_twoWays n μ = some x) : kbFr [49, 50] [] μ x.2 := by
  unfold f_KB_twoWays at h
  obtain ⟨x1, ex1, h⟩ := kb_bind h
  have fx1 := kbFr.tr (C := [49, 50]) (S := []) kbFr.rf (kbFr.up (by decide) (by decide) (fr_f_CO_shortestAmbiguous ex1))
  cases h
  exact fx1
theorem fr_f_KB_tellApart {n : Nat} {μ : kbM} {x : Int32 × kbM} (h : f_KB_tellApart n μ = some x) : kbFr [52, 53] [] μ x.2 := by
  unfold f_KB_tellApart at h
  obtain ⟨x1, ex1, h⟩ := kb_bind h
  have fx1 := kbFr.tr (C := [52, 53]) (S := []) kbFr.rf (kbFr.up (by decide) (by decide) (fr_f_HO_fewestDoors ex1))
  cases h
  exact fx1
theorem fr_f_KB_forget {μ : kbM} {x : kbM} (h : f_KB_forget μ = some x) : kbFr [12] [] μ x := by
  unfold f_KB_forget at h
  cases h
  exact (kbFr.w kbFr.rf (by decide))
theorem fr_f_KB_image {μ : kbM} {x : kbM} (h : f_KB_image μ = some x) : kbFr [0, 22, 23, 24, 25, 26, 27, 28, 29, 30, 31] [] μ x := by
  unfold f_KB_image at h
  obtain ⟨x1, ex1, h⟩ := kb_bind h
  have fx1 := kbFr.tr (C := [0, 22, 23, 24, 25, 26, 27, 28, 29, 30, 31]) (S := []) kbFr.rf (kbFr.up (by decide) (by decide) (fr_f_ST_copyFrom_22_12 ex1))
  cases h
  exact (kbFr.w fx1 (by decide))
theorem fr_f_KB_restore {μ : kbM} {x : Int32 × kbM} (h : f_KB_restore μ = some x) : kbFr [12, 13, 14, 15, 16, 17, 18, 19, 20, 21, 38] [] μ x.2 := by
  unfold f_KB_restore at h
  rcases kb_ite h with h | h
  · skip
    cases h
    exact kbFr.rf
  obtain ⟨x1, ex1, h⟩ := kb_bind h
  have fx1 := kbFr.tr (C := [12, 13, 14, 15, 16, 17, 18, 19, 20, 21, 38]) (S := []) kbFr.rf (kbFr.up (by decide) (by decide) (fr_f_ST_copyFrom_12_22 ex1))
  obtain ⟨x2, ex2, h⟩ := kb_bind h
  have fx2 := kbFr.tr (C := [12, 13, 14, 15, 16, 17, 18, 19, 20, 21, 38]) (S := []) fx1 (kbFr.up (by decide) (by decide) (fr_f_JO_renew ex2))
  cases h
  exact fx2
