/-! THE STATE CHANGES: words come and go, acts are kept -/
theorem zIns_at {α : Type} (x d : α) : ∀ (p : Nat) (L : List α), p ≤ L.length → ∀ i, (L.insertIdx p x).getD i d = if i < p then L.getD i d else if i = p then x else L.getD (i - 1) d := by
  intro p
  induction p with
  | zero => intro L _ i; cases i <;> simp
  | succ p ih =>
    intro L hp i
    cases L with
    | nil => simp at hp
    | cons a L =>
      cases i with
      | zero => simp
      | succ i =>
        rw [List.insertIdx_succ_cons, List.getD_cons_succ, ih L (by simpa using hp) i]
        by_cases h1 : i < p
        · rw [if_pos h1, if_pos (show i + 1 < p + 1 by omega), List.getD_cons_succ]
        · rw [if_neg h1, if_neg (show ¬ i + 1 < p + 1 by omega)]
          by_cases h2 : i = p
          · rw [if_pos h2, if_pos (show i + 1 = p + 1 by omega)]
          · rw [if_neg h2, if_neg (show ¬ i + 1 = p + 1 by omega)]
            obtain ⟨q, rfl⟩ : ∃ q, i = q + 1 := ⟨i - 1, by omega⟩
            simp
theorem zErs_at {α : Type} (d : α) (L : List α) (p i : Nat) : (L.eraseIdx p).getD i d = if i < p then L.getD i d else L.getD (i + 1) d := by
  rw [List.getD_eq_getElem?_getD, List.getElem?_eraseIdx]
  split <;> rw [← List.getD_eq_getElem?_getD]
theorem zSet_at {α : Type} (x d : α) (L : List α) (p i : Nat) (hp : p < L.length) : (L.set p x).getD i d = if i = p then x else L.getD i d := by
  rw [List.getD_eq_getElem?_getD, List.getElem?_set]
  by_cases h : i = p
  · subst h; simp [hp]
  · rw [if_neg (Ne.symm h), if_neg h, ← List.getD_eq_getElem?_getD]
def kbMv (μ : kbM) (a b : Nat) : kbM := (fun c => if 14 ≤ c ∧ c ≤ 17 then upd (μ.1 c) b (μ.1 c a) else μ.1 c, μ.2)
theorem wo_move {a b : Nat} (ha : a < 10) (hb : b < 10) (μ : kbM) : f_WO_move_13 (nI a) (nI b) μ = some (kbMv μ a b) := by
  unfold f_WO_move_13
  simp (disch := omega) only [kn_if_t, kn_bs, kn_or_l, kn_or_r, kn_inT, nI_clamp, nI_leI, nI_ltI, nI_eq, nI_add, pk_mul, nI_1, kn_eq0, kn_lt0, kn_le0, kn_0le, kn_div, kn_rem, kn_or, kn_and, kn_or0, kn_ad0, kn_shl1, kn_bitB, zBt, zBf, zB1t, zB1f, zB_01, zB_10, kl_2, kl_3, kl_4, kl_5, kl_6, kl_7, kl_8, kl_10, kl_12, kl_13, if_pos, if_neg, ↓reduceIte, eq_self, not_true_eq_false, not_false_eq_true, Nat.add_zero, Nat.or_zero, reduceCtorEq, or_true, true_or, or_false, false_or, decide_true, decide_false, kn_sub1, sb_m1, pk_sub, kA_ne, kA_eq, ite_self, and_self, true_and, and_true]
  refine congrArg some (Prod.ext (funext fun c => ?_) rfl)
  rcases (show c = 14 ∨ c = 15 ∨ c = 16 ∨ c = 17 ∨ ¬ (14 ≤ c ∧ c ≤ 17) by omega) with rfl | rfl | rfl | rfl | h
  · simp [kbW, kbA, kbMv]
  · simp [kbW, kbA, kbMv]
  · simp [kbW, kbA, kbMv]
  · simp [kbW, kbA, kbMv]
  · have h1 : c ≠ 14 ∧ c ≠ 15 ∧ c ≠ 16 ∧ c ≠ 17 := by omega
    simp only [kbW, kbA, kbMv, if_neg h, h1.1, h1.2.1, h1.2.2.1, h1.2.2.2, if_false]
theorem kMv_in {μ : kbM} {a b c : Nat} (h : 14 ≤ c ∧ c ≤ 17) (q : Nat) : (kbMv μ a b).1 c q = if q = b then μ.1 c a else μ.1 c q := by
  simp only [kbMv, if_pos h, upd]
theorem kMv_out {μ : kbM} {a b c : Nat} (h : ¬ (14 ≤ c ∧ c ≤ 17)) : (kbMv μ a b).1 c = μ.1 c := by
  simp only [kbMv, if_neg h]
theorem c_insert {n : Nat} (hn : 100 ≤ n) {μ : kbM} {W : zW} {p r pt wt : Nat} (hc : cWords μ 13 14 15 16 17 W) (hl : W.length < 10) (hp : p ≤ W.length) (hr : r ≤ 244140624) : ∃ μ', f_WO_insert_13 n (nI p) (nI r) (nI pt) (nI wt) μ = some μ' ∧ cWords μ' 13 14 15 16 17 (W.insertIdx p (r, pt, wt)) := by
  obtain ⟨ν, e, hA, hB⟩ := kn_for (fun k (s : Int32 × kbM) => lp_WO_insert_13_28 n (nI p) (nI r) (nI pt) (nI wt) k s.1 s.2)
    (fun j s => s.1 = nI (W.length - j) ∧ (∀ c, 14 ≤ c ∧ c ≤ 17 → ∀ q, s.2.1 c q = if W.length - j < q ∧ q ≤ W.length then μ.1 c (q - 1) else μ.1 c q) ∧ ∀ c, ¬ (14 ≤ c ∧ c ≤ 17) → s.2.1 c = μ.1 c) (W.length - p)
    (fun ν => (∀ c, 14 ≤ c ∧ c ≤ 17 → ∀ q, ν.1 c q = if p < q ∧ q ≤ W.length then μ.1 c (q - 1) else μ.1 c q) ∧ ∀ c, ¬ (14 ≤ c ∧ c ≤ 17) → ν.1 c = μ.1 c)
    (fun k s hs => by
      obtain ⟨v, ν⟩ := s
      simp only at hs
      obtain ⟨rfl, h1, h2⟩ := hs
      refine ⟨ν, by simp (disch := omega) only [kn_if_t, kn_bs, kn_or_l, kn_or_r, kn_inT, nI_clamp, nI_leI, nI_ltI, nI_eq, nI_add, pk_mul, nI_1, kn_eq0, kn_lt0, kn_le0, kn_0le, kn_div, kn_rem, kn_or, kn_and, kn_or0, kn_ad0, kn_shl1, kn_bitB, zBt, zBf, zB1t, zB1f, zB_01, zB_10, kl_2, kl_3, kl_4, kl_5, kl_6, kl_7, kl_8, kl_10, kl_12, kl_13, if_pos, if_neg, ↓reduceIte, eq_self, not_true_eq_false, not_false_eq_true, Nat.add_zero, Nat.or_zero, reduceCtorEq, or_true, true_or, or_false, false_or, decide_true, decide_false, kn_sub1, sb_m1, pk_sub, kW_ne, kW_at, kW_no, kA_ne, kA_eq, ite_self, and_self, true_and, and_true, lp_WO_insert_13_28], fun c hc q => ?_, h2⟩
      have := h1 c hc q
      rw [show W.length - (W.length - p) = p by omega] at this
      exact this)
    (fun k j s hj hs => by
      obtain ⟨v, ν⟩ := s
      simp only at hs
      obtain ⟨rfl, h1, h2⟩ := hs
      refine Or.inr ⟨(nI (W.length - (j + 1)), kbMv ν (W.length - (j + 1)) (W.length - j)), ?_, rfl, fun c hc q => ?_, fun c hc => ?_⟩
      · have q := wo_move (a := W.length - (j + 1)) (b := W.length - j) (by omega) (by omega) ν
        simp (disch := omega) only [kn_if_t, kn_bs, kn_or_l, kn_or_r, kn_inT, nI_clamp, nI_leI, nI_ltI, nI_eq, nI_add, pk_mul, nI_1, kn_eq0, kn_lt0, kn_le0, kn_0le, kn_div, kn_rem, kn_or, kn_and, kn_or0, kn_ad0, kn_shl1, kn_bitB, zBt, zBf, zB1t, zB1f, zB_01, zB_10, kl_2, kl_3, kl_4, kl_5, kl_6, kl_7, kl_8, kl_10, kl_12, kl_13, if_pos, if_neg, ↓reduceIte, eq_self, not_true_eq_false, not_false_eq_true, Nat.add_zero, Nat.or_zero, reduceCtorEq, or_true, true_or, or_false, false_or, decide_true, decide_false, kn_sub1, sb_m1, pk_sub, kW_ne, kW_at, kW_no, kA_ne, kA_eq, ite_self, and_self, true_and, and_true, lp_WO_insert_13_28, q, Nat.sub_sub]
      · show (kbMv ν (W.length - (j + 1)) (W.length - j)).1 c q = _
        have h1' := h1 c hc
        try simp only at h1'
        rw [kMv_in hc, h1', h1']
        by_cases e : q = W.length - j
        · rw [if_pos e, if_neg (by omega), if_pos (by omega), e, Nat.sub_sub]
        · rw [if_neg e]
          by_cases e2 : W.length - j < q ∧ q ≤ W.length
          · rw [if_pos e2, if_pos (by omega)]
          · rw [if_neg e2, if_neg (by omega)]
      · show (kbMv ν (W.length - (j + 1)) (W.length - j)).1 c = _
        rw [kMv_out hc]; exact h2 c hc)
    (W.length - p) 0 n (nI W.length, μ) (by omega) (by omega) ⟨by simp, fun c _ q => by rw [if_neg (by omega)], fun _ _ => rfl⟩
  have e' : lp_WO_insert_13_28 n (nI p) (nI r) (nI pt) (nI wt) n (nI W.length) μ = some ν := e
  unfold f_WO_insert_13
  simp (disch := omega) only [kn_if_t, kn_bs, kn_or_l, kn_or_r, kn_inT, nI_clamp, nI_leI, nI_ltI, nI_eq, nI_add, pk_mul, nI_1, kn_eq0, kn_lt0, kn_le0, kn_0le, kn_div, kn_rem, kn_or, kn_and, kn_or0, kn_ad0, kn_shl1, kn_bitB, zBt, zBf, zB1t, zB1f, zB_01, zB_10, kl_2, kl_3, kl_4, kl_5, kl_6, kl_7, kl_8, kl_10, kl_12, kl_13, if_pos, if_neg, ↓reduceIte, eq_self, not_true_eq_false, not_false_eq_true, Nat.add_zero, Nat.or_zero, reduceCtorEq, or_true, true_or, or_false, false_or, decide_true, decide_false, kn_sub1, sb_m1, pk_sub, kW_ne, kW_at, kW_no, kA_ne, kA_eq, ite_self, and_self, true_and, and_true, hc.1, e', ro_size (n := n) (by omega) hr]
  refine ⟨_, rfl, ?_⟩
  have hlen : (W.insertIdx p (r, pt, wt)).length = W.length + 1 := List.length_insertIdx_of_le_length hp _
  refine ⟨?_, fun i hi => ?_⟩
  · rw [kW_at, hB 13 (by omega), hc.1, nI_1, hlen]
  · rw [hlen] at hi
    unfold zRowAt zPartAt zWorthAt
    rw [zIns_at _ _ p W hp i]
    simp (disch := omega) only [kn_if_t, kn_bs, kn_or_l, kn_or_r, kn_inT, nI_clamp, nI_leI, nI_ltI, nI_eq, nI_add, pk_mul, nI_1, kn_eq0, kn_lt0, kn_le0, kn_0le, kn_div, kn_rem, kn_or, kn_and, kn_or0, kn_ad0, kn_shl1, kn_bitB, zBt, zBf, zB1t, zB1f, zB_01, zB_10, kl_2, kl_3, kl_4, kl_5, kl_6, kl_7, kl_8, kl_10, kl_12, kl_13, if_pos, if_neg, ↓reduceIte, eq_self, not_true_eq_false, not_false_eq_true, Nat.add_zero, Nat.or_zero, reduceCtorEq, or_true, true_or, or_false, false_or, decide_true, decide_false, kn_sub1, sb_m1, pk_sub, kW_ne, kW_at, kW_no, kA_ne, kA_eq, ite_self, and_self, true_and, and_true]
    by_cases h1 : i = p
    · subst h1
      simp (disch := omega) only [kn_if_t, kn_bs, kn_or_l, kn_or_r, kn_inT, nI_clamp, nI_leI, nI_ltI, nI_eq, nI_add, pk_mul, nI_1, kn_eq0, kn_lt0, kn_le0, kn_0le, kn_div, kn_rem, kn_or, kn_and, kn_or0, kn_ad0, kn_shl1, kn_bitB, zBt, zBf, zB1t, zB1f, zB_01, zB_10, kl_2, kl_3, kl_4, kl_5, kl_6, kl_7, kl_8, kl_10, kl_12, kl_13, if_pos, if_neg, ↓reduceIte, eq_self, not_true_eq_false, not_false_eq_true, Nat.add_zero, Nat.or_zero, reduceCtorEq, or_true, true_or, or_false, false_or, decide_true, decide_false, kn_sub1, sb_m1, pk_sub, kW_ne, kW_at, kW_no, kA_ne, kA_eq, ite_self, and_self, true_and, and_true, Nat.lt_irrefl]
    · have g4 := hA 14 (by omega) i
      have g5 := hA 15 (by omega) i
      have g6 := hA 16 (by omega) i
      have g7 := hA 17 (by omega) i
      by_cases h2 : i < p
      · have w := hc.2 i (by omega)
        unfold zRowAt zPartAt zWorthAt at w
        rw [if_neg (by omega)] at g4 g5 g6 g7
        simp (disch := omega) only [kn_if_t, kn_bs, kn_or_l, kn_or_r, kn_inT, nI_clamp, nI_leI, nI_ltI, nI_eq, nI_add, pk_mul, nI_1, kn_eq0, kn_lt0, kn_le0, kn_0le, kn_div, kn_rem, kn_or, kn_and, kn_or0, kn_ad0, kn_shl1, kn_bitB, zBt, zBf, zB1t, zB1f, zB_01, zB_10, kl_2, kl_3, kl_4, kl_5, kl_6, kl_7, kl_8, kl_10, kl_12, kl_13, if_pos, if_neg, ↓reduceIte, eq_self, not_true_eq_false, not_false_eq_true, Nat.add_zero, Nat.or_zero, reduceCtorEq, or_true, true_or, or_false, false_or, decide_true, decide_false, kn_sub1, sb_m1, pk_sub, kW_ne, kW_at, kW_no, kA_ne, kA_eq, ite_self, and_self, true_and, and_true, g4, g5, g6, g7]
        exact w
      · have w := hc.2 (i - 1) (by omega)
        unfold zRowAt zPartAt zWorthAt at w
        rw [if_pos (by omega)] at g4 g5 g6 g7
        simp (disch := omega) only [kn_if_t, kn_bs, kn_or_l, kn_or_r, kn_inT, nI_clamp, nI_leI, nI_ltI, nI_eq, nI_add, pk_mul, nI_1, kn_eq0, kn_lt0, kn_le0, kn_0le, kn_div, kn_rem, kn_or, kn_and, kn_or0, kn_ad0, kn_shl1, kn_bitB, zBt, zBf, zB1t, zB1f, zB_01, zB_10, kl_2, kl_3, kl_4, kl_5, kl_6, kl_7, kl_8, kl_10, kl_12, kl_13, if_pos, if_neg, ↓reduceIte, eq_self, not_true_eq_false, not_false_eq_true, Nat.add_zero, Nat.or_zero, reduceCtorEq, or_true, true_or, or_false, false_or, decide_true, decide_false, kn_sub1, sb_m1, pk_sub, kW_ne, kW_at, kW_no, kA_ne, kA_eq, ite_self, and_self, true_and, and_true, g4, g5, g6, g7]
        exact w
theorem c_remove {n : Nat} (hn : 100 ≤ n) {μ : kbM} {W : zW} {p : Nat} (hc : cWords μ 13 14 15 16 17 W) (hl : W.length ≤ 10) (hp : p < W.length) : ∃ μ', f_WO_remove_13 n (nI p) μ = some μ' ∧ cWords μ' 13 14 15 16 17 (W.eraseIdx p) := by
  obtain ⟨ν, e, hA, hB⟩ := kn_for (fun k (s : Int32 × kbM) => lp_WO_remove_13_17 n k s.1 s.2)
    (fun j s => s.1 = nI (p + 1 + j) ∧ (∀ c, 14 ≤ c ∧ c ≤ 17 → ∀ q, s.2.1 c q = if p ≤ q ∧ q < p + j then μ.1 c (q + 1) else μ.1 c q) ∧ ∀ c, ¬ (14 ≤ c ∧ c ≤ 17) → s.2.1 c = μ.1 c) (W.length - (p + 1))
    (fun ν => (∀ c, 14 ≤ c ∧ c ≤ 17 → ∀ q, ν.1 c q = if p ≤ q ∧ q < p + (W.length - (p + 1)) then μ.1 c (q + 1) else μ.1 c q) ∧ ∀ c, ¬ (14 ≤ c ∧ c ≤ 17) → ν.1 c = μ.1 c)
    (fun k s hs => by
      obtain ⟨v, ν⟩ := s
      simp only at hs
      obtain ⟨rfl, h1, h2⟩ := hs
      have g := h2 13 (by omega)
      try simp only at g
      exact ⟨ν, by simp (disch := omega) only [kn_if_t, kn_bs, kn_or_l, kn_or_r, kn_inT, nI_clamp, nI_leI, nI_ltI, nI_eq, nI_add, pk_mul, nI_1, kn_eq0, kn_lt0, kn_le0, kn_0le, kn_div, kn_rem, kn_or, kn_and, kn_or0, kn_ad0, kn_shl1, kn_bitB, zBt, zBf, zB1t, zB1f, zB_01, zB_10, kl_2, kl_3, kl_4, kl_5, kl_6, kl_7, kl_8, kl_10, kl_12, kl_13, if_pos, if_neg, ↓reduceIte, eq_self, not_true_eq_false, not_false_eq_true, Nat.add_zero, Nat.or_zero, reduceCtorEq, or_true, true_or, or_false, false_or, decide_true, decide_false, kn_sub1, sb_m1, pk_sub, kW_ne, kW_at, kW_no, kA_ne, kA_eq, ite_self, and_self, true_and, and_true, lp_WO_remove_13_17, g, hc.1], h1, h2⟩)
    (fun k j s hj hs => by
      obtain ⟨v, ν⟩ := s
      simp only at hs
      obtain ⟨rfl, h1, h2⟩ := hs
      have g := h2 13 (by omega)
      try simp only at g
      refine Or.inr ⟨(nI (p + 1 + (j + 1)), kbMv ν (p + 1 + j) (p + 1 + j - 1)), ?_, rfl, fun c hc q => ?_, fun c hc => ?_⟩
      · have q := wo_move (a := p + 1 + j) (b := p + 1 + j - 1) (by omega) (by omega) ν
        simp (disch := omega) only [kn_if_t, kn_bs, kn_or_l, kn_or_r, kn_inT, nI_clamp, nI_leI, nI_ltI, nI_eq, nI_add, pk_mul, nI_1, kn_eq0, kn_lt0, kn_le0, kn_0le, kn_div, kn_rem, kn_or, kn_and, kn_or0, kn_ad0, kn_shl1, kn_bitB, zBt, zBf, zB1t, zB1f, zB_01, zB_10, kl_2, kl_3, kl_4, kl_5, kl_6, kl_7, kl_8, kl_10, kl_12, kl_13, if_pos, if_neg, ↓reduceIte, eq_self, not_true_eq_false, not_false_eq_true, Nat.add_zero, Nat.or_zero, reduceCtorEq, or_true, true_or, or_false, false_or, decide_true, decide_false, kn_sub1, sb_m1, pk_sub, kW_ne, kW_at, kW_no, kA_ne, kA_eq, ite_self, and_self, true_and, and_true, lp_WO_remove_13_17, g, hc.1, q, ← Nat.add_assoc]
      · show (kbMv ν (p + 1 + j) (p + 1 + j - 1)).1 c q = _
        have h1' := h1 c hc
        try simp only at h1'
        rw [kMv_in hc, h1', h1']
        by_cases e : q = p + 1 + j - 1
        · rw [if_pos e, if_neg (by omega), if_pos (by omega), e]
          rw [show p + 1 + j - 1 + 1 = p + 1 + j by omega]
        · rw [if_neg e]
          by_cases e2 : p ≤ q ∧ q < p + j
          · rw [if_pos e2, if_pos (by omega)]
          · rw [if_neg e2, if_neg (by omega)]
      · show (kbMv ν (p + 1 + j) (p + 1 + j - 1)).1 c = _
        rw [kMv_out hc]; exact h2 c hc)
    (W.length - (p + 1)) 0 n (nI (p + 1), μ) (by omega) (by omega) ⟨rfl, fun c _ q => by rw [if_neg (by omega)], fun _ _ => rfl⟩
  have e' : lp_WO_remove_13_17 n n (nI (p + 1)) μ = some ν := e
  have g := hB 13 (by omega)
  have hlen : (W.eraseIdx p).length = W.length - 1 := List.length_eraseIdx_of_lt hp
  refine ⟨kbW ν 13 4 (nI (W.length - 1)), ?_, ?_, fun i hi => ?_⟩
  · simp (disch := omega) only [kn_if_t, kn_bs, kn_or_l, kn_or_r, kn_inT, nI_clamp, nI_leI, nI_ltI, nI_eq, nI_add, pk_mul, nI_1, kn_eq0, kn_lt0, kn_le0, kn_0le, kn_div, kn_rem, kn_or, kn_and, kn_or0, kn_ad0, kn_shl1, kn_bitB, zBt, zBf, zB1t, zB1f, zB_01, zB_10, kl_2, kl_3, kl_4, kl_5, kl_6, kl_7, kl_8, kl_10, kl_12, kl_13, if_pos, if_neg, ↓reduceIte, eq_self, not_true_eq_false, not_false_eq_true, Nat.add_zero, Nat.or_zero, reduceCtorEq, or_true, true_or, or_false, false_or, decide_true, decide_false, kn_sub1, sb_m1, pk_sub, kW_ne, kW_at, kW_no, kA_ne, kA_eq, ite_self, and_self, true_and, and_true, f_WO_remove_13, hc.1, e', g]
  · rw [kW_at, hlen]
  · rw [hlen] at hi
    unfold zRowAt zPartAt zWorthAt
    rw [zErs_at]
    have g4 := hA 14 (by omega) i
    have g5 := hA 15 (by omega) i
    have g6 := hA 16 (by omega) i
    have g7 := hA 17 (by omega) i
    by_cases h2 : i < p
    · have w := hc.2 i (by omega)
      unfold zRowAt zPartAt zWorthAt at w
      rw [if_neg (by omega)] at g4 g5 g6 g7
      simp (disch := omega) only [kn_if_t, kn_bs, kn_or_l, kn_or_r, kn_inT, nI_clamp, nI_leI, nI_ltI, nI_eq, nI_add, pk_mul, nI_1, kn_eq0, kn_lt0, kn_le0, kn_0le, kn_div, kn_rem, kn_or, kn_and, kn_or0, kn_ad0, kn_shl1, kn_bitB, zBt, zBf, zB1t, zB1f, zB_01, zB_10, kl_2, kl_3, kl_4, kl_5, kl_6, kl_7, kl_8, kl_10, kl_12, kl_13, if_pos, if_neg, ↓reduceIte, eq_self, not_true_eq_false, not_false_eq_true, Nat.add_zero, Nat.or_zero, reduceCtorEq, or_true, true_or, or_false, false_or, decide_true, decide_false, kn_sub1, sb_m1, pk_sub, kW_ne, kW_at, kW_no, kA_ne, kA_eq, ite_self, and_self, true_and, and_true, g4, g5, g6, g7]
      exact w
    · have w := hc.2 (i + 1) (by omega)
      unfold zRowAt zPartAt zWorthAt at w
      rw [if_pos (by omega)] at g4 g5 g6 g7
      simp (disch := omega) only [kn_if_t, kn_bs, kn_or_l, kn_or_r, kn_inT, nI_clamp, nI_leI, nI_ltI, nI_eq, nI_add, pk_mul, nI_1, kn_eq0, kn_lt0, kn_le0, kn_0le, kn_div, kn_rem, kn_or, kn_and, kn_or0, kn_ad0, kn_shl1, kn_bitB, zBt, zBf, zB1t, zB1f, zB_01, zB_10, kl_2, kl_3, kl_4, kl_5, kl_6, kl_7, kl_8, kl_10, kl_12, kl_13, if_pos, if_neg, ↓reduceIte, eq_self, not_true_eq_false, not_false_eq_true, Nat.add_zero, Nat.or_zero, reduceCtorEq, or_true, true_or, or_false, false_or, decide_true, decide_false, kn_sub1, sb_m1, pk_sub, kW_ne, kW_at, kW_no, kA_ne, kA_eq, ite_self, and_self, true_and, and_true, g4, g5, g6, g7]
      exact w
theorem c_change {μ : kbM} {W : zW} {p pt wt : Nat} (hc : cWords μ 13 14 15 16 17 W) (hl : W.length ≤ 10) (hp : p < W.length) : ∃ μ', f_WO_change_13 (nI p) (nI pt) (nI wt) μ = some μ' ∧ cWords μ' 13 14 15 16 17 (W.set p (zRowAt W p, pt, wt)) := by
  refine ⟨kbW (kbW μ 16 p (nI pt)) 17 p (nI wt), ?_, ?_, fun i hi => ?_⟩
  · simp (disch := omega) only [kn_if_t, kn_bs, kn_or_l, kn_or_r, kn_inT, nI_clamp, nI_leI, nI_ltI, nI_eq, nI_add, pk_mul, nI_1, kn_eq0, kn_lt0, kn_le0, kn_0le, kn_div, kn_rem, kn_or, kn_and, kn_or0, kn_ad0, kn_shl1, kn_bitB, zBt, zBf, zB1t, zB1f, zB_01, zB_10, kl_2, kl_3, kl_4, kl_5, kl_6, kl_7, kl_8, kl_10, kl_12, kl_13, if_pos, if_neg, ↓reduceIte, eq_self, not_true_eq_false, not_false_eq_true, Nat.add_zero, Nat.or_zero, reduceCtorEq, or_true, true_or, or_false, false_or, decide_true, decide_false, kn_sub1, sb_m1, pk_sub, kW_ne, kW_at, kW_no, kA_ne, kA_eq, ite_self, and_self, true_and, and_true, f_WO_change_13, jn_WO_change_13_26, hc.1]
  · rw [List.length_set]; simp (disch := omega) only [kn_if_t, kn_bs, kn_or_l, kn_or_r, kn_inT, nI_clamp, nI_leI, nI_ltI, nI_eq, nI_add, pk_mul, nI_1, kn_eq0, kn_lt0, kn_le0, kn_0le, kn_div, kn_rem, kn_or, kn_and, kn_or0, kn_ad0, kn_shl1, kn_bitB, zBt, zBf, zB1t, zB1f, zB_01, zB_10, kl_2, kl_3, kl_4, kl_5, kl_6, kl_7, kl_8, kl_10, kl_12, kl_13, if_pos, if_neg, ↓reduceIte, eq_self, not_true_eq_false, not_false_eq_true, Nat.add_zero, Nat.or_zero, reduceCtorEq, or_true, true_or, or_false, false_or, decide_true, decide_false, kn_sub1, sb_m1, pk_sub, kW_ne, kW_at, kW_no, kA_ne, kA_eq, ite_self, and_self, true_and, and_true, hc.1]
  · rw [List.length_set] at hi
    have w := hc.2 i hi
    unfold zRowAt zPartAt zWorthAt at w ⊢
    rw [zSet_at _ _ _ _ _ hp]
    by_cases h : i = p
    · subst h
      simp (disch := omega) only [kn_if_t, kn_bs, kn_or_l, kn_or_r, kn_inT, nI_clamp, nI_leI, nI_ltI, nI_eq, nI_add, pk_mul, nI_1, kn_eq0, kn_lt0, kn_le0, kn_0le, kn_div, kn_rem, kn_or, kn_and, kn_or0, kn_ad0, kn_shl1, kn_bitB, zBt, zBf, zB1t, zB1f, zB_01, zB_10, kl_2, kl_3, kl_4, kl_5, kl_6, kl_7, kl_8, kl_10, kl_12, kl_13, if_pos, if_neg, ↓reduceIte, eq_self, not_true_eq_false, not_false_eq_true, Nat.add_zero, Nat.or_zero, reduceCtorEq, or_true, true_or, or_false, false_or, decide_true, decide_false, kn_sub1, sb_m1, pk_sub, kW_ne, kW_at, kW_no, kA_ne, kA_eq, ite_self, and_self, true_and, and_true, w.1, w.2.1, and_self]
    · simp (disch := omega) only [kn_if_t, kn_bs, kn_or_l, kn_or_r, kn_inT, nI_clamp, nI_leI, nI_ltI, nI_eq, nI_add, pk_mul, nI_1, kn_eq0, kn_lt0, kn_le0, kn_0le, kn_div, kn_rem, kn_or, kn_and, kn_or0, kn_ad0, kn_shl1, kn_bitB, zBt, zBf, zB1t, zB1f, zB_01, zB_10, kl_2, kl_3, kl_4, kl_5, kl_6, kl_7, kl_8, kl_10, kl_12, kl_13, if_pos, if_neg, ↓reduceIte, eq_self, not_true_eq_false, not_false_eq_true, Nat.add_zero, Nat.or_zero, reduceCtorEq, or_true, true_or, or_false, false_or, decide_true, decide_false, kn_sub1, sb_m1, pk_sub, kW_ne, kW_at, kW_no, kA_ne, kA_eq, ite_self, and_self, true_and, and_true, w.1, w.2.1, w.2.2.1, w.2.2.2, and_self]
