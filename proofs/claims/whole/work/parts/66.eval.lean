/-! THE RULE's CODE run by class and model -/
def cCode (μ : kbM) (C : List Int) : Prop := μ.1 35 4 = nI C.length ∧ ∀ i, i < C.length → μ.1 36 i = kI (C.getD i 0)
def mCode (μ : kbM) (C : List Int) : Prop := μ.1 61 2 = nI C.length ∧ ∀ i, i < C.length → μ.1 67 i = kI (zTrI (C.getD i 0))
theorem zGetD_mid {α : Type} {d : α} (P : List α) (c : α) (R : List α) : (P ++ c :: R).getD P.length d = c := by simp
theorem jo_valueOf {μ : kbM} {W : zW} (hW : cWords μ 13 14 15 16 17 W) (h10 : W.length ≤ 10) {a b : Nat} (ha : a < W.length) (hb : b < W.length) {c : Int} (h1 : -6 ≤ c) (h2 : c < 0) : f_JO_valueOf (kI c) (nI a) (nI b) μ = some (zNam W a b c) := by
  have hA := hW.2 a ha
  have hB := hW.2 b hb
  have ia : kbIn (nI a) 10 = true := by rw [kn_in (by omega)]; exact decide_eq_true (by omega)
  have ib : kbIn (nI b) 10 = true := by rw [kn_in (by omega)]; exact decide_eq_true (by omega)
  have ca : (nI a).toNatClampNeg = a := nI_clamp (by omega)
  have cb : (nI b).toNatClampNeg = b := nI_clamp (by omega)
  have hc : c = -1 ∨ c = -2 ∨ c = -3 ∨ c = -4 ∨ c = -5 ∨ c = -6 := by omega
  unfold f_JO_valueOf jn_JO_valueOf_96
  rcases hc with rfl | rfl | rfl | rfl | rfl | rfl
  · rw [show kI (-1) = -1 from rfl]; simp [ia, ca, kbIf, zNam, hA.2.2.1]
  · rw [show kI (-2) = -2 from rfl]; simp [ib, cb, kbIf, zNam, hB.2.2.1]
  · rw [show kI (-3) = -3 from rfl]; simp [ia, ca, kbIf, zNam, hA.2.2.2]
  · rw [show kI (-4) = -4 from rfl]; simp [ib, cb, kbIf, zNam, hB.2.2.2]
  · rw [show kI (-5) = -5 from rfl]; simp [ib, cb, kbIf, zNam, hB.2.1]
  · rw [show kI (-6) = -6 from rfl]
    have e : (nI a = nI b) ↔ a = b := nI_eq (by omega) (by omega)
    by_cases hab : a = b
    · subst hab; simp [zNam, zB]
    · simp [zNam, zB, e, hab]
theorem jo_loop (n : Nat) {W : zW} {C : List Int} {a b : Nat} (h10 : W.length ≤ 10) (ha : a < W.length) (hb : b < W.length) (hCl : C.length ≤ 600) (hCb : ∀ c ∈ C, -15 ≤ c ∧ c ≤ 9999) :
    ∀ (R P : List Int) (st : List Int32) (μ : kbM) (k d' : Nat), C = P ++ R → cWords μ 13 14 15 16 17 W → cCode μ C → zStk (μ.1 37) st → st.length ≤ 64 → zDep R st.length = some d' → R.length < k →
      ∃ μ', lp_JO_value_5 n (nI a) (nI b) k (nI st.length) (nI P.length) μ = some (nI d', μ') ∧ zStk (μ'.1 37) (zRun W a b R st) ∧ (zRun W a b R st).length = d' := by
  intro R
  induction R with
  | nil =>
    intro P st μ k d' hC hW hcc hst h64 hd hk
    obtain ⟨k, rfl⟩ : ∃ q, k = q + 1 := ⟨k - 1, by simp at hk; omega⟩
    have hPl : P.length = C.length := by rw [hC]; simp
    simp only [zDep, Option.some.injEq] at hd
    refine ⟨μ, ?_, hst, hd⟩
    unfold lp_JO_value_5
    rw [hcc.1, if_pos (by rw [nI_leI (by omega) (by omega)]; omega), hd]
  | cons c R ih =>
    intro P st μ k d' hC hW hcc hst h64 hd hk
    obtain ⟨k, rfl⟩ : ∃ q, k = q + 1 := ⟨k - 1, by simp at hk; omega⟩
    have hlen : P.length + (R.length + 1) = C.length := by rw [hC]; simp
    have hcb := hCb c (by rw [hC]; simp)
    have hci : μ.1 36 P.length = kI c := by rw [hcc.2 P.length (by omega), hC, zGetD_mid]
    have hC' : C = (P ++ [c]) ++ R := by rw [hC]; simp
    have hPc : (P ++ [c]).length = P.length + 1 := by simp
    -- what goes on with another stack
    have go : ∀ (st2 : List Int32) (w : Nat) (v : Int32), st2 = zStp W a b c st → zStk (upd (μ.1 37) w v) st2 → st2.length ≤ 64 → zDep R st2.length = some d' →
        ∃ μ', lp_JO_value_5 n (nI a) (nI b) k (nI st2.length) (nI (P.length + 1)) (kbW μ 37 w v) = some (nI d', μ') ∧ zStk (μ'.1 37) (zRun W a b (c :: R) st) ∧ (zRun W a b (c :: R) st).length = d' := by
      intro st2 w v e h1 h2 h3
      have hW2 : cWords (kbW μ 37 w v) 13 14 15 16 17 W := by
        unfold cWords
        rw [kW_ne (by decide), kW_ne (by decide), kW_ne (by decide), kW_ne (by decide), kW_ne (by decide)]
        exact hW
      have hc2 : cCode (kbW μ 37 w v) C := by
        unfold cCode
        rw [kW_ne (by decide), kW_ne (by decide)]
        exact hcc
      have := ih (P ++ [c]) st2 (kbW μ 37 w v) k d' hC' hW2 hc2 (by rw [kW_eq]; exact h1) h2 h3 (by simp at hk; omega)
      rw [hPc] at this
      simp only [zRun]
      rw [← e]
      exact this
    unfold lp_JO_value_5 jn_JO_value_101 jn_JO_value_59 jn_JO_value_140
    rw [hcc.1, if_neg (by rw [nI_leI (by omega) (by omega)]; omega), kn_in (by omega), decide_eq_true (by omega), kn_if_t, nI_clamp (by omega), hci, nI_1]
    have e6 : (kI c < -6) ↔ c < -6 := by rw [show (-6 : Int32) = kI (-6) from rfl, kI_lt (by omega) (by omega) (by omega) (by omega)]
    have e7 : (kI c = -7) ↔ c = -7 := by rw [show (-7 : Int32) = kI (-7) from rfl, kI_eq (by omega) (by omega) (by omega) (by omega)]
    have e0 : (kI c < 0) ↔ c < 0 := by rw [show (0 : Int32) = kI 0 from rfl, kI_lt (by omega) (by omega) (by omega) (by omega)]
    simp only [zDep] at hd
    by_cases h6 : -6 ≤ c
    · rw [if_pos h6] at hd
      have h63 : st.length < 64 := by
        by_cases h : st.length < 64
        · exact h
        · rw [if_neg h] at hd; cases hd
      rw [if_pos h63] at hd
      rw [if_neg (by rw [e6]; omega), if_neg (by rw [show (64 : Int32) = nI 64 from rfl, nI_leI (by decide) (by omega)]; omega), kn_in (by omega), decide_eq_true h63, nI_clamp (by omega), nI_1]
      by_cases h0 : c < 0
      · rw [if_pos (e0.mpr h0), jo_valueOf hW h10 ha hb h6 h0, kn_bs, kn_if_t]
        have e : zStp W a b c st = zNam W a b c :: st := by unfold zStp; rw [if_neg (by omega), if_pos h6]
        have := go (zNam W a b c :: st) st.length (zNam W a b c) e.symm (zStk_push hst _) (by simp; omega) (by simpa using hd)
        simpa using this
      · rw [if_neg (mt e0.mp h0), kn_if_t]
        have e : zStp W a b c st = kI c :: st := by unfold zStp; rw [if_pos (by omega)]
        have := go (kI c :: st) st.length (kI c) e.symm (zStk_push hst _) (by simp; omega) (by simpa using hd)
        simpa using this
    · rw [if_neg h6] at hd
      rw [if_pos (e6.mpr (by omega))]
      by_cases h7 : c = -7
      · rw [if_pos h7] at hd
        have h1 : 1 ≤ st.length := by
          by_cases h : 1 ≤ st.length
          · exact h
          · rw [if_neg h] at hd; cases hd
        rw [if_pos h1] at hd
        match st, hst, h64, hd, h1, go with
        | x :: r, hst, h64, hd, h1, go =>
          have e : ∀ v : Int32, v = zB (decide (x = 0)) → v :: r = zStp W a b c (x :: r) := fun v hv => by unfold zStp; rw [if_neg (by omega), if_neg h6, if_pos h7, hv]
          rw [if_pos (e7.mpr h7), if_neg (by rw [show (1 : Int32) = nI 1 from rfl, nI_ltI (by omega) (by decide)]; omega)]
          simp only [List.length_cons] at h64 hd ⊢
          rw [nI_pred, kn_in (by omega), decide_eq_true (by omega), kn_if_t, nI_clamp (by omega), zStk_top hst]
          by_cases hx : x = 0
          · rw [if_pos hx, kn_if_t]
            have := go (1 :: r) r.length 1 (e 1 (by simp [hx, zB])) (zStk_push (zStk_tail hst) _) (by simpa using h64) (by simpa using hd)
            simpa using this
          · rw [if_neg hx, kn_if_t]
            have := go (0 :: r) r.length 0 (e 0 (by simp [hx, zB])) (zStk_push (zStk_tail hst) _) (by simpa using h64) (by simpa using hd)
            simpa using this
      · rw [if_neg h7] at hd
        have h2 : 2 ≤ st.length := by
          by_cases h : 2 ≤ st.length
          · exact h
          · rw [if_neg h] at hd; cases hd
        rw [if_pos h2] at hd
        match st, hst, h64, hd, h2, go with
        | y :: x :: r, hst, h64, hd, h2, go =>
          have e : zOp c x y :: r = zStp W a b c (y :: x :: r) := by unfold zStp; rw [if_neg (by omega), if_neg h6, if_neg h7]
          rw [if_neg (mt e7.mp h7), if_neg (by rw [show (2 : Int32) = nI 2 from rfl, nI_ltI (by omega) (by decide)]; omega)]
          simp only [List.length_cons] at h64 hd ⊢
          rw [pk_m1, nI_pred, kn_in (by omega), decide_eq_true (by omega), kn_if_t, kn_in (by omega), decide_eq_true (by omega), kn_if_t, nI_clamp (by omega), nI_clamp (by omega)]
          have t1 : μ.1 37 (r.length + 1) = y := by have := zStk_top hst; simpa using this
          have t2 : μ.1 37 r.length = x := zStk_top (zStk_tail hst)
          rw [t1, t2, jo_joined (by omega) (by omega), kn_bs, kn_if_t]
          have := go (zOp c x y :: r) r.length (zOp c x y) e (zStk_push (zStk_tail (zStk_tail hst)) _) (by simp; omega) (by simpa using hd)
          simpa using this
theorem jo_value {n : Nat} (hn : 700 ≤ n) {μ : kbM} {W : zW} {C : List Int} {a b : Nat} (hW : cWords μ 13 14 15 16 17 W) (h10 : W.length ≤ 10) (ha : a < W.length) (hb : b < W.length) (hC : zCok C) (hne : C ≠ []) (hcc : cCode μ C) :
    ∃ μ', f_JO_value n (nI a) (nI b) μ = some ((zRun W a b C []).headD 0, μ') := by
  obtain ⟨h1, h2, h3⟩ := hC
  have hd : zDep C 0 = some 1 := h1.resolve_left hne
  obtain ⟨μ', e, hs, hl⟩ := jo_loop n h10 ha hb h2 h3 C [] [] μ n 1 rfl hW hcc (zStk_nil _) (by simp) hd (by omega)
  refine ⟨μ', ?_⟩
  unfold f_JO_value jn_JO_value_163
  rw [show (0 : Int32) = nI 0 from rfl] at *
  simp only [List.length_nil] at e
  rw [e, kn_bs]
  match hr : zRun W a b C [], hl, hs with
  | [x], _, hs =>
    have ht := zStk_top hs
    simp only [List.length_nil] at ht
    have i0 : ¬ (nI 1 < 1) := by decide
    have i1 : kbIn (nI 1 - 1) 64 = true := by decide
    have i2 : (nI 1 - 1).toNatClampNeg = 0 := by decide
    simp [i0, i1, i2, kbIf, ht]
