theorem c_part {n : Nat} (hn : 100 ≤ n) {x : pX} {μ : kbM} {s : pS} (hs : cS μ x s) (ho : tOk' x s) : f_BT_partNamed n μ = some (zFdI (pPart x s)) := by
  have e : pPart x s = if pNm x 0 s = true then some 0 else if pNm x 1 s = true then some 1 else if pNm x 2 s = true then some 2 else none := rfl
  rw [e]
  unfold f_BT_partNamed jn_BT_partNamed_36
  simp only [c_named hn hs ho (sid := 0) (by decide), c_named hn hs ho (sid := 1) (by decide), c_named hn hs ho (sid := 2) (by decide), kn_bs]
  generalize pNm x 0 s = b1
  generalize pNm x 1 s = b2
  generalize pNm x 2 s = b3
  cases b1
  · cases b2
    · cases b3 <;> rfl
    · rfl
  · rfl
theorem c_wood {n : Nat} (hn : 100 ≤ n) {x : pX} {μ : kbM} {s : pS} (hs : cS μ x s) (ho : tOk' x s) : f_BT_woodNamed n μ = some (zFdI (pWood x s)) := by
  have e : pWood x s = if pNm x 3 s = true then some 0 else if pNm x 4 s = true then some 1 else if pNm x 5 s = true then some 2 else if pNm x 6 s = true then some 3 else none := rfl
  rw [e]
  unfold f_BT_woodNamed jn_BT_woodNamed_47
  simp only [c_named hn hs ho (sid := 3) (by decide), c_named hn hs ho (sid := 4) (by decide), c_named hn hs ho (sid := 5) (by decide), c_named hn hs ho (sid := 6) (by decide), kn_bs]
  generalize pNm x 3 s = b1
  generalize pNm x 4 s = b2
  generalize pNm x 5 s = b3
  generalize pNm x 6 s = b4
  cases b1
  · cases b2
    · cases b3
      · cases b4 <;> rfl
      · rfl
    · rfl
  · rfl
theorem c_line {n : Nat} (hn : 1000 ≤ n) {x : pX} {μ : kbM} {s : pS} (hs : cS μ x s) (ho : tOk' x s) (hb : bOk s.2) (h0 : s.1.1 ≠ 0) : ∃ μ', f_BT_line n μ = some μ' ∧ cR μ' x (pLine x s) := by
  have S := c_sign hn x (c := 59) (by decide) (by decide)
  have L : ∃ μ1, cR μ1 x (pLn x s) ∧ f_BT_line n μ = f_BT_passSign n (nI 59) μ1 := by
    unfold f_BT_line jn_BT_line_58 pLn
    rw [c_part (by omega) hs ho, kn_bs, c_wood (by omega) hs ho, kn_bs]
    cases hp : pPart x s with
    | some p =>
      have pl := zFind_lt _ _ _ _ _ hp
      obtain ⟨μ1, e1, r1⟩ := c_word hn hs ho hb (pt := p) (by omega)
      dsimp only
      rw [show zFdI (some p) = nI p from rfl, if_neg (by rw [kn_nm1 (by omega)]; exact id), e1, kn_bs, bnd_s]
      exact ⟨μ1, r1, rfl⟩
    | none =>
      dsimp only
      rw [show zFdI none = -1 from rfl, if_pos rfl]
      cases hw : pWood x s with
      | some w =>
        have wl := zFind_lt _ _ _ _ _ hw
        obtain ⟨μ1, e1, r1⟩ := c_door hn hs ho hb (wd := w) (by omega)
        dsimp only
        rw [show zFdI (some w) = nI w from rfl, if_neg (by rw [kn_nm1 (by omega)]; exact id), e1, kn_bs, bnd_s]
        exact ⟨μ1, r1, rfl⟩
      | none =>
        dsimp only
        rw [show zFdI none = -1 from rfl, if_pos rfl, c_named (by omega) hs ho (by decide), kn_bs]
        cases hj : pNm x 31 s
        · obtain ⟨μ1, e1, r1⟩ := c_fail hs (c := 1) (by decide) (by decide)
          rw [if_pos zF0, if_neg Bool.false_ne_true, kn_1, e1, kn_bs, bnd_s]
          exact ⟨μ1, r1, rfl⟩
        · obtain ⟨μ1, e1, r1⟩ := c_join hn hs ho hb
          rw [if_neg zT0, if_pos rfl, e1, kn_bs, bnd_s]
          exact ⟨μ1, r1, rfl⟩
  obtain ⟨μ1, r1, e1⟩ := L
  rw [e1]
  unfold pLine
  cases hp : pLn x s with
  | inl z =>
    rw [hp] at r1
    exact ⟨μ1, S.2 μ1 _ _ r1, r1⟩
  | inr s1 =>
    rw [hp] at r1
    have tl : tOk' x s1 := by
      have : ln x (pLn x) := by
        intro s s' ho hb h0 e
        unfold pLn at e
        split at e
        · rename_i p hp
          have := zFind_lt _ _ _ _ _ hp
          exact ln_word (by omega) s s' ho hb h0 e
        · split at e
          · rename_i w hw
            have := zFind_lt _ _ _ _ _ hw
            exact ln_door (by omega) s s' ho hb h0 e
          · split at e
            · exact ln_join s s' ho hb h0 e
            · cases e
      exact (this s s1 ho hb h0 hp).1
    exact S.1 μ1 s1 r1 tl
theorem c_lines {n : Nat} (hn : 1000 ≤ n) {x : pX} : ∀ j i k μ s, i + j = 600 → j < k → cS μ x s → tOk' x s → bOk s.2 → ∃ μ', lp_BT_parse_52 n k (nI i) μ = some μ' ∧ cR μ' x (pLines x j s) := by
  intro j
  induction j with
  | zero =>
    intro i k μ s h1 h2 hs ho hb
    obtain ⟨k, rfl⟩ : ∃ z, k = z + 1 := ⟨k - 1, by omega⟩
    obtain rfl : i = 600 := by omega
    refine ⟨μ, ?_, hs⟩
    simp only [lp_BT_parse_52]
    rw [if_pos (by decide)]
  | succ j ih =>
    intro i k μ s h1 h2 hs ho hb
    obtain ⟨k, rfl⟩ : ∃ z, k = z + 1 := ⟨k - 1, by omega⟩
    simp only [lp_BT_parse_52, pLines]
    rw [show (600 : Int32) = nI 600 from rfl, if_neg (show ¬ nI 600 ≤ nI i by rw [nI_leI (by decide) (by omega)]; omega)]
    by_cases h0 : s.1.1 = 0
    · rw [if_pos (show μ.1 1 7 = 0 by rw [kn_0, c_kind hs ho (by decide)]; exact h0), if_pos h0]
      exact ⟨μ, rfl, hs⟩
    · have h4 := (kOk.lt ho.2.1).2
      rw [if_neg (show ¬ μ.1 1 7 = 0 by rw [kn_0, c_kind hs ho (by decide)]; exact h0), if_neg h0, if_neg (show ¬ μ.1 1 7 = 4 by rw [kl_4, c_kind hs ho (by decide)]; exact h4), nI_1]
      obtain ⟨μ1, e1, r1⟩ := c_line hn hs ho hb h0
      rw [e1, kn_bs]
      cases hp : pLine x s with
      | inl z =>
        rw [hp] at r1
        have r1' : cF μ1 z.1 z.2 := r1
        refine ⟨μ1, ?_, r1⟩
        obtain ⟨k, rfl⟩ : ∃ z, k = z + 1 := ⟨k - 1, by omega⟩
        simp only [lp_BT_parse_52]
        rw [r1'.2.1, if_neg (show ¬ (4 : Int32) = 0 by decide), if_pos rfl, ite_self]
      | inr s1 =>
        rw [hp] at r1
        obtain ⟨a, b, d⟩ := ln_line s s1 ho hb h0 hp
        exact ih (i + 1) k μ1 s1 (by omega) (by omega) r1 a b
/-- the start of a book -/
def pS0 (x : pX) : pS := (pTok x 0, [], [], [])
def pBook (x : pX) : pR := pLines x 600 (pS0 x)
theorem pS0_ok {x : pX} (hx : xOk x) : tOk' x (pS0 x) ∧ bOk (pS0 x).2 := by
  have q := pTok_ok (x := x) (e := 0) (Nat.zero_le _)
  refine ⟨⟨hx, q.1, Nat.zero_le _⟩, ⟨Or.inl rfl, Nat.zero_le _, (fun c h => by cases h)⟩, ⟨Nat.zero_le _, (fun c h => by cases h), List.nodup_nil⟩, Nat.zero_le _, (fun c h => by cases h)⟩
theorem c_parse {n : Nat} (hn : 1000 ≤ n) {x : pX} (hx : xOk x) {μ : kbM} (h2 : ∀ i, i < x.2 → zByte (μ.1 2) i = nI (x.1 i)) : ∃ μ', f_BT_parse n (nI x.2) μ = some (μ'.1 1 10, μ') ∧ cR μ' x (pBook x) := by
  unfold f_BT_parse jn_BT_parse_84
  have T : cTx (kbW (kbW (kbW (kbW (kbW (kbW (kbW (kbW μ 1 6 (nI x.2)) 1 4 0) 3 4 0) 8 2 0) 1 5 0) 1 9 0) 1 10 0) 1 11 (-1)) x := by
    refine ⟨?_, fun i hi => ?_⟩
    · simp (disch := omega) only [kn_if_t, kn_bs, kn_or_l, kn_or_r, kn_inT, nI_clamp, nI_leI, nI_ltI, nI_eq, nI_add, pk_mul, nI_1, kn_eq0, kn_lt0, kn_le0, kn_0le, kn_div, kn_rem, kn_or, kn_and, kn_or0, kn_ad0, kn_shl1, kn_bitB, zBt, zBf, zB1t, zB1f, zB_01, zB_10, kl_2, kl_3, kl_4, kl_5, kl_6, kl_7, kl_8, kl_10, kl_12, kl_13, if_pos, if_neg, ↓reduceIte, eq_self, not_true_eq_false, not_false_eq_true, Nat.add_zero, Nat.or_zero, reduceCtorEq, or_true, true_or, or_false, false_or, decide_true, decide_false, kn_sub1, sb_m1, pk_sub, kW_ne, kW_at, kW_no, kA_ne, kA_eq, ite_self, and_self, true_and, and_true]
    · rw [← h2 i hi]; simp (disch := omega) only [kn_if_t, kn_bs, kn_or_l, kn_or_r, kn_inT, nI_clamp, nI_leI, nI_ltI, nI_eq, nI_add, pk_mul, nI_1, kn_eq0, kn_lt0, kn_le0, kn_0le, kn_div, kn_rem, kn_or, kn_and, kn_or0, kn_ad0, kn_shl1, kn_bitB, zBt, zBf, zB1t, zB1f, zB_01, zB_10, kl_2, kl_3, kl_4, kl_5, kl_6, kl_7, kl_8, kl_10, kl_12, kl_13, if_pos, if_neg, ↓reduceIte, eq_self, not_true_eq_false, not_false_eq_true, Nat.add_zero, Nat.or_zero, reduceCtorEq, or_true, true_or, or_false, false_or, decide_true, decide_false, kn_sub1, sb_m1, pk_sub, kW_ne, kW_at, kW_no, kA_ne, kA_eq, ite_self, and_self, true_and, and_true]
  have k4 : (kbW (kbW (kbW (kbW (kbW (kbW (kbW (kbW μ 1 6 (nI x.2)) 1 4 0) 3 4 0) 8 2 0) 1 5 0) 1 9 0) 1 10 0) 1 11 (-1)).1 1 4 = 0 := by simp (disch := omega) only [kn_if_t, kn_bs, kn_or_l, kn_or_r, kn_inT, nI_clamp, nI_leI, nI_ltI, nI_eq, nI_add, pk_mul, nI_1, kn_eq0, kn_lt0, kn_le0, kn_0le, kn_div, kn_rem, kn_or, kn_and, kn_or0, kn_ad0, kn_shl1, kn_bitB, zBt, zBf, zB1t, zB1f, zB_01, zB_10, kl_2, kl_3, kl_4, kl_5, kl_6, kl_7, kl_8, kl_10, kl_12, kl_13, if_pos, if_neg, ↓reduceIte, eq_self, not_true_eq_false, not_false_eq_true, Nat.add_zero, Nat.or_zero, reduceCtorEq, or_true, true_or, or_false, false_or, decide_true, decide_false, kn_sub1, sb_m1, pk_sub, kW_ne, kW_at, kW_no, kA_ne, kA_eq, ite_self, and_self, true_and, and_true]
  have k10 : (kbW (kbW (kbW (kbW (kbW (kbW (kbW (kbW μ 1 6 (nI x.2)) 1 4 0) 3 4 0) 8 2 0) 1 5 0) 1 9 0) 1 10 0) 1 11 (-1)).1 1 10 = 0 := by simp (disch := omega) only [kn_if_t, kn_bs, kn_or_l, kn_or_r, kn_inT, nI_clamp, nI_leI, nI_ltI, nI_eq, nI_add, pk_mul, nI_1, kn_eq0, kn_lt0, kn_le0, kn_0le, kn_div, kn_rem, kn_or, kn_and, kn_or0, kn_ad0, kn_shl1, kn_bitB, zBt, zBf, zB1t, zB1f, zB_01, zB_10, kl_2, kl_3, kl_4, kl_5, kl_6, kl_7, kl_8, kl_10, kl_12, kl_13, if_pos, if_neg, ↓reduceIte, eq_self, not_true_eq_false, not_false_eq_true, Nat.add_zero, Nat.or_zero, reduceCtorEq, or_true, true_or, or_false, false_or, decide_true, decide_false, kn_sub1, sb_m1, pk_sub, kW_ne, kW_at, kW_no, kA_ne, kA_eq, ite_self, and_self, true_and, and_true]
  have k11 : (kbW (kbW (kbW (kbW (kbW (kbW (kbW (kbW μ 1 6 (nI x.2)) 1 4 0) 3 4 0) 8 2 0) 1 5 0) 1 9 0) 1 10 0) 1 11 (-1)).1 1 11 = -1 := kW_at
  have k9 : (kbW (kbW (kbW (kbW (kbW (kbW (kbW (kbW μ 1 6 (nI x.2)) 1 4 0) 3 4 0) 8 2 0) 1 5 0) 1 9 0) 1 10 0) 1 11 (-1)).1 1 9 = nI 0 := by simp (disch := omega) only [kn_if_t, kn_bs, kn_or_l, kn_or_r, kn_inT, nI_clamp, nI_leI, nI_ltI, nI_eq, nI_add, pk_mul, nI_1, kn_eq0, kn_lt0, kn_le0, kn_0le, kn_div, kn_rem, kn_or, kn_and, kn_or0, kn_ad0, kn_shl1, kn_bitB, zBt, zBf, zB1t, zB1f, zB_01, zB_10, kl_2, kl_3, kl_4, kl_5, kl_6, kl_7, kl_8, kl_10, kl_12, kl_13, if_pos, if_neg, ↓reduceIte, eq_self, not_true_eq_false, not_false_eq_true, Nat.add_zero, Nat.or_zero, reduceCtorEq, or_true, true_or, or_false, false_or, decide_true, decide_false, kn_sub1, sb_m1, pk_sub, kW_ne, kW_at, kW_no, kA_ne, kA_eq, ite_self, and_self, true_and, and_true]; rfl
  have O : cO (kbW (kbW (kbW (kbW (kbW (kbW (kbW (kbW μ 1 6 (nI x.2)) 1 4 0) 3 4 0) 8 2 0) 1 5 0) 1 9 0) 1 10 0) 1 11 (-1)) ([], [], []) := by
    refine ⟨⟨?_, (fun i hi => absurd hi (Nat.not_lt_zero i))⟩, ⟨?_, (fun i hi => absurd hi (Nat.not_lt_zero i))⟩, ?_, (fun i hi => absurd hi (Nat.not_lt_zero i))⟩
    · simp (disch := omega) only [kn_if_t, kn_bs, kn_or_l, kn_or_r, kn_inT, nI_clamp, nI_leI, nI_ltI, nI_eq, nI_add, pk_mul, nI_1, kn_eq0, kn_lt0, kn_le0, kn_0le, kn_div, kn_rem, kn_or, kn_and, kn_or0, kn_ad0, kn_shl1, kn_bitB, zBt, zBf, zB1t, zB1f, zB_01, zB_10, kl_2, kl_3, kl_4, kl_5, kl_6, kl_7, kl_8, kl_10, kl_12, kl_13, if_pos, if_neg, ↓reduceIte, eq_self, not_true_eq_false, not_false_eq_true, Nat.add_zero, Nat.or_zero, reduceCtorEq, or_true, true_or, or_false, false_or, decide_true, decide_false, kn_sub1, sb_m1, pk_sub, kW_ne, kW_at, kW_no, kA_ne, kA_eq, ite_self, and_self, true_and, and_true]; rfl
    · simp (disch := omega) only [kn_if_t, kn_bs, kn_or_l, kn_or_r, kn_inT, nI_clamp, nI_leI, nI_ltI, nI_eq, nI_add, pk_mul, nI_1, kn_eq0, kn_lt0, kn_le0, kn_0le, kn_div, kn_rem, kn_or, kn_and, kn_or0, kn_ad0, kn_shl1, kn_bitB, zBt, zBf, zB1t, zB1f, zB_01, zB_10, kl_2, kl_3, kl_4, kl_5, kl_6, kl_7, kl_8, kl_10, kl_12, kl_13, if_pos, if_neg, ↓reduceIte, eq_self, not_true_eq_false, not_false_eq_true, Nat.add_zero, Nat.or_zero, reduceCtorEq, or_true, true_or, or_false, false_or, decide_true, decide_false, kn_sub1, sb_m1, pk_sub, kW_ne, kW_at, kW_no, kA_ne, kA_eq, ite_self, and_self, true_and, and_true]; rfl
    · simp (disch := omega) only [kn_if_t, kn_bs, kn_or_l, kn_or_r, kn_inT, nI_clamp, nI_leI, nI_ltI, nI_eq, nI_add, pk_mul, nI_1, kn_eq0, kn_lt0, kn_le0, kn_0le, kn_div, kn_rem, kn_or, kn_and, kn_or0, kn_ad0, kn_shl1, kn_bitB, zBt, zBf, zB1t, zB1f, zB_01, zB_10, kl_2, kl_3, kl_4, kl_5, kl_6, kl_7, kl_8, kl_10, kl_12, kl_13, if_pos, if_neg, ↓reduceIte, eq_self, not_true_eq_false, not_false_eq_true, Nat.add_zero, Nat.or_zero, reduceCtorEq, or_true, true_or, or_false, false_or, decide_true, decide_false, kn_sub1, sb_m1, pk_sub, kW_ne, kW_at, kW_no, kA_ne, kA_eq, ite_self, and_self, true_and, and_true]; rfl
  generalize kbW (kbW (kbW (kbW (kbW (kbW (kbW (kbW μ 1 6 (nI x.2)) 1 4 0) 3 4 0) 8 2 0) 1 5 0) 1 9 0) 1 10 0) 1 11 (-1) = κ at T k4 k10 k11 k9 O
  obtain ⟨μ1, e1, s1, a, b, c⟩ := bt_adv hn hx T (Nat.zero_le _) k9 k10
  have hs : cS μ1 x (pS0 x) := ⟨⟨T.sm (s1.up (by decide)), by rw [s1.2 4 (by decide)]; exact k4, by rw [s1.2 10 (by decide)]; exact k10, by rw [s1.2 11 (by decide)]; exact k11, a, b, c⟩, O.sm (s1.up (by decide))⟩
  obtain ⟨p1, p2⟩ := pS0_ok hx
  obtain ⟨μ2, e2, r2⟩ := c_lines hn 600 0 n μ1 _ rfl (by omega) hs p1 p2
  rw [e1, kn_bs, show (0 : Int32) = nI 0 from rfl, e2, kn_bs]
  exact ⟨μ2, rfl, r2⟩
