/-! telegraph, frost -/
def zTold (W : zW) (D : List (Nat × Nat)) (w i d : Nat) : Bool := decide (zNear W (zHr D w d (zRowAt W i)) = nI i)
theorem c_told {n : Nat} (hn : 100 ≤ n) {μ : kbM} {W : zW} {D : List (Nat × Nat)} {w : Nat} (h : hOk W D w) (hc : cH μ W D w) {d i : Nat} (hd : d < D.length) (hi : i < W.length) : ∃ μ', f_PL_isUnderstood n (nI i) (nI d) μ = some (zB (zTold W D w i d), μ') ∧ cH μ' W D w := by
  have h10 := h.l10
  have q := c_hr (n := n) (by omega) h hc hd (h.row hi)
  obtain ⟨μ1, e1⟩ := ru_nearest (n := n) (by omega) h.1 (zHr_le (D := D) (w := w) (d := d) (h.row hi)) hc.1
  have f1 := fr_f_RU_nearestWord e1
  refine ⟨μ1, ?_, hc.fr f1 (by decide)⟩
  by_cases e : zNear W (zHr D w d (zRowAt W i)) = nI i
  · simp (disch := omega) only [kn_if_t, kn_bs, kn_or_l, kn_or_r, kn_inT, nI_clamp, nI_leI, nI_ltI, nI_eq, nI_add, pk_mul, nI_1, kn_eq0, kn_lt0, kn_le0, kn_0le, kn_div, kn_rem, kn_or, kn_and, kn_or0, kn_ad0, kn_shl1, kn_bitB, zBt, zBf, zB1t, zB1f, zB_01, zB_10, kl_2, kl_3, kl_4, kl_5, kl_6, kl_7, kl_8, kl_10, kl_12, kl_13, if_pos, if_neg, ↓reduceIte, eq_self, not_true_eq_false, not_false_eq_true, Nat.add_zero, Nat.or_zero, reduceCtorEq, or_true, true_or, or_false, false_or, decide_true, decide_false, kn_sub1, sb_m1, pk_sub, kW_ne, kW_at, kW_no, kA_ne, kA_eq, ite_self, and_self, true_and, and_true, f_PL_isUnderstood, jn_PL_isUnderstood_33, (hc.1.2 i hi).1, q, e1, e, zTold]
  · simp (disch := omega) only [kn_if_t, kn_bs, kn_or_l, kn_or_r, kn_inT, nI_clamp, nI_leI, nI_ltI, nI_eq, nI_add, pk_mul, nI_1, kn_eq0, kn_lt0, kn_le0, kn_0le, kn_div, kn_rem, kn_or, kn_and, kn_or0, kn_ad0, kn_shl1, kn_bitB, zBt, zBf, zB1t, zB1f, zB_01, zB_10, kl_2, kl_3, kl_4, kl_5, kl_6, kl_7, kl_8, kl_10, kl_12, kl_13, if_pos, if_neg, ↓reduceIte, eq_self, not_true_eq_false, not_false_eq_true, Nat.add_zero, Nat.or_zero, reduceCtorEq, or_true, true_or, or_false, false_or, decide_true, decide_false, kn_sub1, sb_m1, pk_sub, kW_ne, kW_at, kW_no, kA_ne, kA_eq, ite_self, and_self, true_and, and_true, f_PL_isUnderstood, jn_PL_isUnderstood_33, (hc.1.2 i hi).1, q, e1, e, zTold]
theorem m_told {n : Nat} (hn : 100 ≤ n) {μ : kbM} {W : zW} {D : List (Nat × Nat)} {w : Nat} (h : hOk W D w) (hc : mH μ W D w) {d i : Nat} (hd : d < D.length) (hi : i < W.length) : ∃ μ', f_MD_isTold n (nI i) (nI d) μ = some (zB (zTold W D w i d), μ') ∧ mH μ' W D w := by
  have h10 := h.l10
  have q := m_hr (n := n) (by omega) h hc hd (h.row hi)
  obtain ⟨μ1, e1⟩ := md_nearestTo (n := n) (by omega) h.1 (zHr_le (D := D) (w := w) (d := d) (h.row hi)) hc.1
  have f1 := fr_f_MD_nearestTo e1
  refine ⟨μ1, ?_, hc.fr f1 (by decide) (by decide)⟩
  by_cases e : zNear W (zHr D w d (zRowAt W i)) = nI i
  · simp (disch := omega) only [kn_if_t, kn_bs, kn_or_l, kn_or_r, kn_inT, nI_clamp, nI_leI, nI_ltI, nI_eq, nI_add, pk_mul, nI_1, kn_eq0, kn_lt0, kn_le0, kn_0le, kn_div, kn_rem, kn_or, kn_and, kn_or0, kn_ad0, kn_shl1, kn_bitB, zBt, zBf, zB1t, zB1f, zB_01, zB_10, kl_2, kl_3, kl_4, kl_5, kl_6, kl_7, kl_8, kl_10, kl_12, kl_13, if_pos, if_neg, ↓reduceIte, eq_self, not_true_eq_false, not_false_eq_true, Nat.add_zero, Nat.or_zero, reduceCtorEq, or_true, true_or, or_false, false_or, decide_true, decide_false, kn_sub1, sb_m1, pk_sub, kW_ne, kW_at, kW_no, kA_ne, kA_eq, ite_self, and_self, true_and, and_true, f_MD_isTold, jn_MD_isTold_24, (hc.1.2 i hi).1, q, e1, e, zTold]
  · simp (disch := omega) only [kn_if_t, kn_bs, kn_or_l, kn_or_r, kn_inT, nI_clamp, nI_leI, nI_ltI, nI_eq, nI_add, pk_mul, nI_1, kn_eq0, kn_lt0, kn_le0, kn_0le, kn_div, kn_rem, kn_or, kn_and, kn_or0, kn_ad0, kn_shl1, kn_bitB, zBt, zBf, zB1t, zB1f, zB_01, zB_10, kl_2, kl_3, kl_4, kl_5, kl_6, kl_7, kl_8, kl_10, kl_12, kl_13, if_pos, if_neg, ↓reduceIte, eq_self, not_true_eq_false, not_false_eq_true, Nat.add_zero, Nat.or_zero, reduceCtorEq, or_true, true_or, or_false, false_or, decide_true, decide_false, kn_sub1, sb_m1, pk_sub, kW_ne, kW_at, kW_no, kA_ne, kA_eq, ite_self, and_self, true_and, and_true, f_MD_isTold, jn_MD_isTold_24, (hc.1.2 i hi).1, q, e1, e, zTold]
def zTg (W : zW) (D : List (Nat × Nat)) (w d e i : Nat) : Bool := zCanB W D d i && zTold W D w i e
theorem c_passing {n : Nat} (hn : 100 ≤ n) {μ : kbM} {W : zW} {D : List (Nat × Nat)} {w : Nat} (h : hOk W D w) (hc : cH μ W D w) {d e : Nat} (hd : d < D.length) (he : e < D.length) : ∃ μ', f_PL_passing n (nI d) (nI e) μ = some (nI (zOr (fun i => zTg W D w d e i) W.length), μ') := by
  have h10 := h.l10
  obtain ⟨r, e1, h1⟩ := kn_for (fun k (s : Int32 × Int32 × kbM) => lp_PL_passing_5 n (nI d) (nI e) k s.1 s.2.1 s.2.2) (fun i s => s.1 = nI (zOr (fun i => zTg W D w d e i) i) ∧ s.2.1 = nI i ∧ cH s.2.2 W D w) W.length (fun r => r.1 = nI (zOr (fun i => zTg W D w d e i) W.length))
    (fun k s hs => by
      obtain ⟨a, b, ν⟩ := s
      simp only at hs
      obtain ⟨rfl, rfl, h1⟩ := hs
      exact ⟨(nI (zOr (fun i => zTg W D w d e i) W.length), ν), by simp (disch := omega) only [kn_if_t, kn_bs, kn_or_l, kn_or_r, kn_inT, nI_clamp, nI_leI, nI_ltI, nI_eq, nI_add, pk_mul, nI_1, kn_eq0, kn_lt0, kn_le0, kn_0le, kn_div, kn_rem, kn_or, kn_and, kn_or0, kn_ad0, kn_shl1, kn_bitB, zBt, zBf, zB1t, zB1f, zB_01, zB_10, kl_2, kl_3, kl_4, kl_5, kl_6, kl_7, kl_8, kl_10, kl_12, kl_13, if_pos, if_neg, ↓reduceIte, eq_self, not_true_eq_false, not_false_eq_true, Nat.add_zero, Nat.or_zero, reduceCtorEq, or_true, true_or, or_false, false_or, decide_true, decide_false, kn_sub1, sb_m1, pk_sub, kW_ne, kW_at, kW_no, kA_ne, kA_eq, ite_self, and_self, true_and, and_true, lp_PL_passing_5, h1.1.1], rfl⟩)
    (fun k i s hi hs => by
      obtain ⟨a, b, ν⟩ := s
      simp only at hs
      obtain ⟨rfl, rfl, h1⟩ := hs
      have q := c_can (n := n) (by omega) h h1 hd hi
      obtain ⟨ν1, e1, h2⟩ := c_told hn h h1 he hi
      have hz : zTg W D w d e i = (zCan (zHand D d) (zRowAt W i) && zTold W D w i e) := rfl
      cases hp : zCan (zHand D d) (zRowAt W i)
      · rw [hp] at q hz
        exact Or.inr ⟨(nI (zOr (fun i => zTg W D w d e i) i), nI (i + 1), ν), by simp (disch := omega) only [kn_if_t, kn_bs, kn_or_l, kn_or_r, kn_inT, nI_clamp, nI_leI, nI_ltI, nI_eq, nI_add, pk_mul, nI_1, kn_eq0, kn_lt0, kn_le0, kn_0le, kn_div, kn_rem, kn_or, kn_and, kn_or0, kn_ad0, kn_shl1, kn_bitB, zBt, zBf, zB1t, zB1f, zB_01, zB_10, kl_2, kl_3, kl_4, kl_5, kl_6, kl_7, kl_8, kl_10, kl_12, kl_13, if_pos, if_neg, ↓reduceIte, eq_self, not_true_eq_false, not_false_eq_true, Nat.add_zero, Nat.or_zero, reduceCtorEq, or_true, true_or, or_false, false_or, decide_true, decide_false, kn_sub1, sb_m1, pk_sub, kW_ne, kW_at, kW_no, kA_ne, kA_eq, ite_self, and_self, true_and, and_true, lp_PL_passing_5, jn_PL_passing_48, jn_PL_passing_49, h1.1.1, q], by simp only [zOr_s, hz]; simp, rfl, h1⟩
      · rw [hp] at q hz
        cases ht : zTold W D w i e
        · rw [ht] at e1 hz
          exact Or.inr ⟨(nI (zOr (fun i => zTg W D w d e i) i), nI (i + 1), ν1), by simp (disch := omega) only [kn_if_t, kn_bs, kn_or_l, kn_or_r, kn_inT, nI_clamp, nI_leI, nI_ltI, nI_eq, nI_add, pk_mul, nI_1, kn_eq0, kn_lt0, kn_le0, kn_0le, kn_div, kn_rem, kn_or, kn_and, kn_or0, kn_ad0, kn_shl1, kn_bitB, zBt, zBf, zB1t, zB1f, zB_01, zB_10, kl_2, kl_3, kl_4, kl_5, kl_6, kl_7, kl_8, kl_10, kl_12, kl_13, if_pos, if_neg, ↓reduceIte, eq_self, not_true_eq_false, not_false_eq_true, Nat.add_zero, Nat.or_zero, reduceCtorEq, or_true, true_or, or_false, false_or, decide_true, decide_false, kn_sub1, sb_m1, pk_sub, kW_ne, kW_at, kW_no, kA_ne, kA_eq, ite_self, and_self, true_and, and_true, lp_PL_passing_5, jn_PL_passing_48, jn_PL_passing_49, h1.1.1, q, e1], by simp only [zOr_s, hz]; simp, rfl, h2⟩
        · rw [ht] at e1 hz
          exact Or.inr ⟨(nI (zOr (fun i => zTg W D w d e i) i ||| 2 ^ i), nI (i + 1), ν1), by simp (disch := omega) only [kn_if_t, kn_bs, kn_or_l, kn_or_r, kn_inT, nI_clamp, nI_leI, nI_ltI, nI_eq, nI_add, pk_mul, nI_1, kn_eq0, kn_lt0, kn_le0, kn_0le, kn_div, kn_rem, kn_or, kn_and, kn_or0, kn_ad0, kn_shl1, kn_bitB, zBt, zBf, zB1t, zB1f, zB_01, zB_10, kl_2, kl_3, kl_4, kl_5, kl_6, kl_7, kl_8, kl_10, kl_12, kl_13, if_pos, if_neg, ↓reduceIte, eq_self, not_true_eq_false, not_false_eq_true, Nat.add_zero, Nat.or_zero, reduceCtorEq, or_true, true_or, or_false, false_or, decide_true, decide_false, kn_sub1, sb_m1, pk_sub, kW_ne, kW_at, kW_no, kA_ne, kA_eq, ite_self, and_self, true_and, and_true, lp_PL_passing_5, jn_PL_passing_48, jn_PL_passing_49, h1.1.1, q, e1], by simp only [zOr_s, hz]; simp, rfl, h2⟩)
    W.length 0 n (0, 0, μ) (by omega) (by omega) ⟨rfl, rfl, hc⟩
  refine ⟨r.2, ?_⟩
  unfold f_PL_passing
  rw [show lp_PL_passing_5 n (nI d) (nI e) n 0 0 μ = some r from e1, kn_bs, h1]
theorem m_passing {n : Nat} (hn : 100 ≤ n) {μ : kbM} {W : zW} {D : List (Nat × Nat)} {w : Nat} (h : hOk W D w) (hc : mH μ W D w) {d e : Nat} (hd : d < D.length) (he : e < D.length) : ∃ r, lp_MD_telegraph_32 n (nI d) (nI e) n 0 0 μ = some r ∧ r.1 = nI (zOr (fun i => zTg W D w d e i) W.length) := by
  have h10 := h.l10
  have h6 := h.l6
  exact kn_for (fun k (s : Int32 × Int32 × kbM) => lp_MD_telegraph_32 n (nI d) (nI e) k s.1 s.2.1 s.2.2) (fun i s => s.1 = nI (zOr (fun i => zTg W D w d e i) i) ∧ s.2.1 = nI i ∧ mH s.2.2 W D w) W.length (fun r => r.1 = nI (zOr (fun i => zTg W D w d e i) W.length))
    (fun k s hs => by
      obtain ⟨a, b, ν⟩ := s
      simp only at hs
      obtain ⟨rfl, rfl, h1⟩ := hs
      exact ⟨(nI (zOr (fun i => zTg W D w d e i) W.length), ν), by simp (disch := omega) only [kn_if_t, kn_bs, kn_or_l, kn_or_r, kn_inT, nI_clamp, nI_leI, nI_ltI, nI_eq, nI_add, pk_mul, nI_1, kn_eq0, kn_lt0, kn_le0, kn_0le, kn_div, kn_rem, kn_or, kn_and, kn_or0, kn_ad0, kn_shl1, kn_bitB, zBt, zBf, zB1t, zB1f, zB_01, zB_10, kl_2, kl_3, kl_4, kl_5, kl_6, kl_7, kl_8, kl_10, kl_12, kl_13, if_pos, if_neg, ↓reduceIte, eq_self, not_true_eq_false, not_false_eq_true, Nat.add_zero, Nat.or_zero, reduceCtorEq, or_true, true_or, or_false, false_or, decide_true, decide_false, kn_sub1, sb_m1, pk_sub, kW_ne, kW_at, kW_no, kA_ne, kA_eq, ite_self, and_self, true_and, and_true, lp_MD_telegraph_32, h1.1.1], rfl⟩)
    (fun k i s hi hs => by
      obtain ⟨a, b, ν⟩ := s
      simp only at hs
      obtain ⟨rfl, rfl, h1⟩ := hs
      have q := m_can (n := n) (by omega) h hd hi
      obtain ⟨ν1, e1, h2⟩ := m_told hn h h1 he hi
      have hz : zTg W D w d e i = (zCan (zHand D d) (zRowAt W i) && zTold W D w i e) := rfl
      cases hp : zCan (zHand D d) (zRowAt W i)
      · rw [hp] at q hz
        exact Or.inr ⟨(nI (zOr (fun i => zTg W D w d e i) i), nI (i + 1), ν), by simp (disch := omega) only [kn_if_t, kn_bs, kn_or_l, kn_or_r, kn_inT, nI_clamp, nI_leI, nI_ltI, nI_eq, nI_add, pk_mul, nI_1, kn_eq0, kn_lt0, kn_le0, kn_0le, kn_div, kn_rem, kn_or, kn_and, kn_or0, kn_ad0, kn_shl1, kn_bitB, zBt, zBf, zB1t, zB1f, zB_01, zB_10, kl_2, kl_3, kl_4, kl_5, kl_6, kl_7, kl_8, kl_10, kl_12, kl_13, if_pos, if_neg, ↓reduceIte, eq_self, not_true_eq_false, not_false_eq_true, Nat.add_zero, Nat.or_zero, reduceCtorEq, or_true, true_or, or_false, false_or, decide_true, decide_false, kn_sub1, sb_m1, pk_sub, kW_ne, kW_at, kW_no, kA_ne, kA_eq, ite_self, and_self, true_and, and_true, lp_MD_telegraph_32, jn_MD_telegraph_78, jn_MD_telegraph_79, h1.1.1, (h1.2.1.2 d hd).2, (h1.1.2 i hi).1, q], by simp only [zOr_s, hz]; simp, rfl, h1⟩
      · rw [hp] at q hz
        cases ht : zTold W D w i e
        · rw [ht] at e1 hz
          exact Or.inr ⟨(nI (zOr (fun i => zTg W D w d e i) i), nI (i + 1), ν1), by simp (disch := omega) only [kn_if_t, kn_bs, kn_or_l, kn_or_r, kn_inT, nI_clamp, nI_leI, nI_ltI, nI_eq, nI_add, pk_mul, nI_1, kn_eq0, kn_lt0, kn_le0, kn_0le, kn_div, kn_rem, kn_or, kn_and, kn_or0, kn_ad0, kn_shl1, kn_bitB, zBt, zBf, zB1t, zB1f, zB_01, zB_10, kl_2, kl_3, kl_4, kl_5, kl_6, kl_7, kl_8, kl_10, kl_12, kl_13, if_pos, if_neg, ↓reduceIte, eq_self, not_true_eq_false, not_false_eq_true, Nat.add_zero, Nat.or_zero, reduceCtorEq, or_true, true_or, or_false, false_or, decide_true, decide_false, kn_sub1, sb_m1, pk_sub, kW_ne, kW_at, kW_no, kA_ne, kA_eq, ite_self, and_self, true_and, and_true, lp_MD_telegraph_32, jn_MD_telegraph_78, jn_MD_telegraph_79, h1.1.1, (h1.2.1.2 d hd).2, (h1.1.2 i hi).1, q, e1], by simp only [zOr_s, hz]; simp, rfl, h2⟩
        · rw [ht] at e1 hz
          exact Or.inr ⟨(nI (zOr (fun i => zTg W D w d e i) i ||| 2 ^ i), nI (i + 1), ν1), by simp (disch := omega) only [kn_if_t, kn_bs, kn_or_l, kn_or_r, kn_inT, nI_clamp, nI_leI, nI_ltI, nI_eq, nI_add, pk_mul, nI_1, kn_eq0, kn_lt0, kn_le0, kn_0le, kn_div, kn_rem, kn_or, kn_and, kn_or0, kn_ad0, kn_shl1, kn_bitB, zBt, zBf, zB1t, zB1f, zB_01, zB_10, kl_2, kl_3, kl_4, kl_5, kl_6, kl_7, kl_8, kl_10, kl_12, kl_13, if_pos, if_neg, ↓reduceIte, eq_self, not_true_eq_false, not_false_eq_true, Nat.add_zero, Nat.or_zero, reduceCtorEq, or_true, true_or, or_false, false_or, decide_true, decide_false, kn_sub1, sb_m1, pk_sub, kW_ne, kW_at, kW_no, kA_ne, kA_eq, ite_self, and_self, true_and, and_true, lp_MD_telegraph_32, jn_MD_telegraph_78, jn_MD_telegraph_79, h1.1.1, (h1.2.1.2 d hd).2, (h1.1.2 i hi).1, q, e1], by simp only [zOr_s, hz]; simp, rfl, h2⟩)
    W.length 0 n (0, 0, μ) (by omega) (by omega) ⟨rfl, rfl, hc⟩
def s_telegraph (A : zA) (u1 u2 : Int32) : Int32 × Int32 := if zIn u1 A.2.2.1.length = true ∧ zIn u2 A.2.2.1.length = true then (0, nI (zOr (fun i => zTg A.1.1.1 A.2.2.1 A.1.1.2 u1.toNatClampNeg u2.toNatClampNeg i) A.1.1.1.length)) else (1, 0)
theorem cl_telegraph {n : Nat} (hn : 100 ≤ n) {μ : kbM} {A : zA} (hA : zOk A) (h : rC μ A) (u1 u2 : Int32) : ∃ μ1, f_L_telegraph n u1 u2 μ = some ((s_telegraph A u1 u2).1, μ1) ∧ ((s_telegraph A u1 u2).1 = 0 → μ1.2 97 0 = (s_telegraph A u1 u2).2.toInt64) := by
  have h6 := hA.doors.1
  unfold f_L_telegraph f_KB_telegraph s_telegraph
  rw [kb_needDoor n h.doors h6]
  rcases zIn_cases u1 (c := A.2.2.1.length) (by omega) with ⟨a, ha, rfl⟩ | ⟨h1, -⟩
  · rw [zIn_n (by omega), decide_eq_true ha, if_pos rfl, kn_or_r, kb_needDoor n h.doors h6]
    rcases zIn_cases u2 (c := A.2.2.1.length) (by omega) with ⟨b, hb, rfl⟩ | ⟨h1, -⟩
    · obtain ⟨μ1, e⟩ := c_passing hn hA.H h.H ha hb
      rw [zIn_n (by omega), decide_eq_true hb, if_pos rfl, kn_or_r, e, kn_bs, nI_clamp (by omega), nI_clamp (by omega)]
      exact ⟨_, rfl, fun _ => kX_at⟩
    · rw [h1]; exact ⟨μ, rfl, fun q => absurd q z1n⟩
  · rw [h1]; exact ⟨μ, rfl, fun q => absurd q z1n⟩
theorem md_telegraph {n : Nat} (hn : 100 ≤ n) {μ : kbM} {A : zA} (hA : zOk A) (h0 : rM μ A) (u1 u2 : Int32) : ∃ v μ2, f_MD_telegraph n u1 u2 μ = some (v, μ2) ∧ μ2.1 57 3 = (s_telegraph A u1 u2).1 ∧ ((s_telegraph A u1 u2).1 = 0 → v = (s_telegraph A u1 u2).2) := by
  have h6 := hA.doors.1
  have h := h0.c0 0
  unfold f_MD_telegraph s_telegraph jn_MD_telegraph_21 f_MD_fail
  rw [md_isDoor h.doors h6, md_isDoor h.doors h6]
  simp only [kn_bs]
  rcases zIn_cases u1 (c := A.2.2.1.length) (by omega) with ⟨a, ha, rfl⟩ | ⟨h1, -⟩
  · rw [zIn_n (by omega), decide_eq_true ha, if_neg (show ¬ zB true = 0 by decide)]
    rcases zIn_cases u2 (c := A.2.2.1.length) (by omega) with ⟨b, hb, rfl⟩ | ⟨h1, -⟩
    · obtain ⟨r, e, hr⟩ := m_passing hn hA.H h.H ha hb
      have f := fr_lp_MD_telegraph_32 e
      rw [zIn_n (by omega), decide_eq_true hb, if_neg (show ¬ zB true = 0 by decide), e, kn_bs, hr, nI_clamp (by omega), nI_clamp (by omega)]
      exact ⟨_, _, rfl, (fr_57 f (by decide) (by decide)).trans kW_at, fun _ => rfl⟩
    · rw [h1]; exact ⟨_, _, rfl, kW_at, fun q => absurd q z1n⟩
  · rw [h1]; exact ⟨_, _, rfl, kW_at, fun q => absurd q z1n⟩
theorem op_30 {n : Nat} (hn : 5000 ≤ n) {μ : kbM} (hI : kbInv μ) (u1 u2 : Int32) : ∃ μ', c_law_30 n u1 u2 μ = some μ' ∧ kbInv μ' := by
  obtain ⟨A, hA, hC, hM⟩ := hI
  obtain ⟨μ1, h1, h4⟩ := cl_telegraph (n := n) (by omega) hA hC u1 u2
  have f1 := fr_f_L_telegraph h1
  have hC1 := hC.fr f1 (by decide) (by decide)
  have hM1 := hM.fr f1 (by decide) (by decide)
  obtain ⟨v, μ2, h2, h3, h5⟩ := md_telegraph (n := n) (by omega) hA hM1 u1 u2
  have f2 := fr_f_MD_telegraph h2
  refine ⟨μ2, law_int h1 h2 h3 (fun q => ?_), A, hA, hC1.fr f2 (by decide) (by decide), hM1.fr f2 (by decide) (by decide)⟩
  rw [fr_at2 f2 (by decide) (by decide), h4 q, h5 q]
/-! powers, slices -/
theorem md_power {n k : Nat} (hn : 100 ≤ n) (hk : k < 20) : f_MD_power n (nI k) = some (nI (5 ^ k)) := by
  have e : lp_MD_power_4 n (nI k) n 1 0 = some (nI (zFold (fun _ a => a * 5) 1 k)) := kn_loop (fun j (s : Nat) i => lp_MD_power_4 n (nI k) j (nI s) (nI i)) (fun _ a => a * 5) 1 k _
    (fun j => by simp (disch := omega) only [kn_if_t, kn_bs, kn_or_l, kn_or_r, kn_inT, nI_clamp, nI_leI, nI_ltI, nI_eq, nI_add, pk_mul, nI_1, kn_eq0, kn_lt0, kn_le0, kn_0le, kn_div, kn_rem, kn_or, kn_and, kn_or0, kn_ad0, kn_shl1, kn_bitB, zBt, zBf, zB1t, zB1f, zB_01, zB_10, kl_2, kl_3, kl_4, kl_5, kl_6, kl_7, kl_8, kl_10, kl_12, kl_13, if_pos, if_neg, ↓reduceIte, eq_self, not_true_eq_false, not_false_eq_true, Nat.add_zero, Nat.or_zero, reduceCtorEq, or_true, true_or, or_false, false_or, decide_true, decide_false, kn_sub1, sb_m1, pk_sub, kW_ne, kW_at, kW_no, kA_ne, kA_eq, ite_self, and_self, true_and, and_true, lp_MD_power_4])
    (fun j i hi => by simp (disch := omega) only [kn_if_t, kn_bs, kn_or_l, kn_or_r, kn_inT, nI_clamp, nI_leI, nI_ltI, nI_eq, nI_add, pk_mul, nI_1, kn_eq0, kn_lt0, kn_le0, kn_0le, kn_div, kn_rem, kn_or, kn_and, kn_or0, kn_ad0, kn_shl1, kn_bitB, zBt, zBf, zB1t, zB1f, zB_01, zB_10, kl_2, kl_3, kl_4, kl_5, kl_6, kl_7, kl_8, kl_10, kl_12, kl_13, if_pos, if_neg, ↓reduceIte, eq_self, not_true_eq_false, not_false_eq_true, Nat.add_zero, Nat.or_zero, reduceCtorEq, or_true, true_or, or_false, false_or, decide_true, decide_false, kn_sub1, sb_m1, pk_sub, kW_ne, kW_at, kW_no, kA_ne, kA_eq, ite_self, and_self, true_and, and_true, lp_MD_power_4]) k 0 n (by omega) (by omega)
  have z : ∀ k, zFold (fun _ a => a * 5) 1 k = 5 ^ k := by
    intro k
    induction k with
    | zero => rfl
    | succ k ih => show zFold (fun _ a => a * 5) 1 k * 5 = 5 ^ (k + 1); rw [ih, Nat.pow_succ]
  unfold f_MD_power
  rw [e, kn_bs, z]
theorem five_pos (k : Nat) : 0 < 5 ^ k := Nat.pow_pos (by decide)
theorem ro_slice {v z a b : Nat} (hv : v < 2 ^ 31) (hab : a ≤ b) (hbz : b ≤ z) (hz : z ≤ 12) : f_RO_slice (nI v) (nI z) (nI a) (nI b) = some (nI (v / 5 ^ (z - b) % 5 ^ (b - a))) := by
  have p1 := five_lt (j := z - b) (by omega)
  have p2 := five_lt (j := b - a) (by omega)
  have p3 := five_pos (z - b)
  have p4 := five_pos (b - a)
  have g1 := fv_at (z - b) (by omega)
  have g2 := fv_at (b - a) (by omega)
  have p5 : v / 5 ^ (z - b) ≤ v := Nat.div_le_self _ _
  have n1 : ¬ 5 ^ (z - b) = 0 := by omega
  have n2 : ¬ 5 ^ (b - a) = 0 := by omega
  unfold f_RO_slice jn_RO_slice_20
  simp (disch := omega) only [kn_if_t, kn_bs, kn_or_l, kn_or_r, kn_inT, nI_clamp, nI_leI, nI_ltI, nI_eq, nI_add, pk_mul, nI_1, kn_eq0, kn_lt0, kn_le0, kn_0le, kn_div, kn_rem, kn_or, kn_and, kn_or0, kn_ad0, kn_shl1, kn_bitB, zBt, zBf, zB1t, zB1f, zB_01, zB_10, kl_2, kl_3, kl_4, kl_5, kl_6, kl_7, kl_8, kl_10, kl_12, kl_13, if_pos, if_neg, ↓reduceIte, eq_self, not_true_eq_false, not_false_eq_true, Nat.add_zero, Nat.or_zero, reduceCtorEq, or_true, true_or, or_false, false_or, decide_true, decide_false, kn_sub1, sb_m1, pk_sub, kW_ne, kW_at, kW_no, kA_ne, kA_eq, ite_self, and_self, true_and, and_true, g1, g2, n1, n2]
/-! frost -/
def zSd (s : Int32) : Int32 := s * 1103515245 + 12345
def zRn (s : Int32) : Nat := (kbUsh (zSd s) 16).toBitVec.toNat % 2 ^ 15
theorem b_32767 (i : Nat) : bt 32767 i = decide (i < 15) := by
  rcases Nat.lt_or_ge i 32 with h | h
  · exact (by decide +kernel : ∀ i, i < 32 → bt 32767 i = decide (i < 15)) i h
  · rw [b_big h, decide_eq_false (by omega)]
theorem zRn_sh (x : Int32) : kbShr x 16 &&& 32767 = kbUsh x 16 &&& 32767 := by
  unfold kbShr kbUsh
  apply b_ext
  intro i hi
  rw [b_and, b_and, show (16 : Int32) = nI 16 from rfl, b_sshr 16 (by omega) x hi, b_ushr 16 (by omega), b_32767]
  by_cases h : i < 15
  · rw [if_pos (by omega)]
  · rw [decide_eq_false h, Bool.and_false, Bool.and_false]
theorem zRn_lt (s : Int32) : zRn s < 32768 := Nat.mod_lt _ (by decide)
theorem zRn_eq (s : Int32) : kbUsh (zSd s) 16 &&& 32767 = nI (zRn s) := pk_and _ 15 (by decide)
theorem pl_draw {μ : kbM} {s : Int32} (h : μ.1 54 7 = s) {m : Nat} (h0 : 0 < m) (hm : m < 1000) : f_PL_draw (nI m) μ = some (nI (zRn s % m), kbW μ 54 7 (zSd s)) := by
  have q := zRn_lt s
  have e := zRn_eq s
  have d : decide (¬ m = 0) = true := decide_eq_true (by omega)
  unfold zSd at e ⊢
  simp (disch := omega) only [kn_if_t, kn_bs, kn_or_l, kn_or_r, kn_inT, nI_clamp, nI_leI, nI_ltI, nI_eq, nI_add, pk_mul, nI_1, kn_eq0, kn_lt0, kn_le0, kn_0le, kn_div, kn_rem, kn_or, kn_and, kn_or0, kn_ad0, kn_shl1, kn_bitB, zBt, zBf, zB1t, zB1f, zB_01, zB_10, kl_2, kl_3, kl_4, kl_5, kl_6, kl_7, kl_8, kl_10, kl_12, kl_13, if_pos, if_neg, ↓reduceIte, eq_self, not_true_eq_false, not_false_eq_true, Nat.add_zero, Nat.or_zero, reduceCtorEq, or_true, true_or, or_false, false_or, decide_true, decide_false, kn_sub1, sb_m1, pk_sub, kW_ne, kW_at, kW_no, kA_ne, kA_eq, ite_self, and_self, true_and, and_true, f_PL_draw, jn_PL_draw_36, h, e, kn_0lt, d]
theorem md_draw {μ : kbM} {s : Int32} (h : μ.1 57 51 = s) {m : Nat} (h0 : 0 < m) (hm : m < 1000) : f_MD_drawOf (nI m) μ = some (nI (zRn s % m), kbW μ 57 51 (zSd s)) := by
  have q := zRn_lt s
  have e := zRn_eq s
  have d : decide (¬ m = 0) = true := decide_eq_true (by omega)
  have e2 := zRn_sh (s * 1103515245 + 12345)
  unfold zSd at e ⊢
  simp (disch := omega) only [kn_if_t, kn_bs, kn_or_l, kn_or_r, kn_inT, nI_clamp, nI_leI, nI_ltI, nI_eq, nI_add, pk_mul, nI_1, kn_eq0, kn_lt0, kn_le0, kn_0le, kn_div, kn_rem, kn_or, kn_and, kn_or0, kn_ad0, kn_shl1, kn_bitB, zBt, zBf, zB1t, zB1f, zB_01, zB_10, kl_2, kl_3, kl_4, kl_5, kl_6, kl_7, kl_8, kl_10, kl_12, kl_13, if_pos, if_neg, ↓reduceIte, eq_self, not_true_eq_false, not_false_eq_true, Nat.add_zero, Nat.or_zero, reduceCtorEq, or_true, true_or, or_false, false_or, decide_true, decide_false, kn_sub1, sb_m1, pk_sub, kW_ne, kW_at, kW_no, kA_ne, kA_eq, ite_self, and_self, true_and, and_true, f_MD_drawOf, h, e2, e, d]
def zFz (v how : Nat) : Nat := if how = 0 then (if zSize v = 0 then 0 else v % 5 ^ (zSize v - 1)) else if how = 1 then v / 5 else if how = 2 ∧ zSize v < 12 then 4 * 5 ^ zSize v + v else v
theorem zFz_le {v how : Nat} (h : v ≤ 244140624) : zFz v how ≤ 244140624 := by
  unfold zFz
  split
  · split
    · omega
    · have := Nat.mod_le v (5 ^ (zSize v - 1)); omega
  · split
    · omega
    · split
      · rename_i q
        have h1 := (zSize_le (zSize v) v).mp (Nat.le_refl _)
        have h2 : 5 ^ (zSize v + 1) ≤ 5 ^ 12 := Nat.pow_le_pow_right (by decide) (by omega)
        rw [Nat.pow_succ, show (5 : Nat) ^ 12 = 244140625 by decide] at h2
        omega
      · omega
theorem pl_frozen {n : Nat} (hn : 100 ≤ n) {v how : Nat} (hv : v ≤ 244140624) (hh : how < 4) : f_PL_frozen n (nI v) (nI how) = some (nI (zFz v how)) := by
  have h12 := zSize_12.mpr hv
  have es := ro_size (n := n) (v := v) (by omega) hv
  unfold f_PL_frozen f_RO_withoutFirst f_RO_withoutLast f_RO_withFirst jn_RO_withFirst_24 zFz
  rcases (show how = 0 ∨ how = 1 ∨ how = 2 ∨ how = 3 by omega) with rfl | rfl | rfl | rfl
  · by_cases hz : zSize v = 0
    · rw [es, kn_bs, if_pos (show nI 0 = 0 from rfl), if_pos rfl, if_pos hz, hz]; rfl
    · have := ro_slice (v := v) (z := zSize v) (a := 1) (b := zSize v) (by omega) (by omega) (Nat.le_refl _) h12
      rw [Nat.sub_self, Nat.pow_zero, Nat.div_one] at this
      rw [es, kn_bs, if_pos (show nI 0 = 0 from rfl), if_pos rfl, if_neg hz, show f_RO_slice (nI v) (nI (zSize v)) 1 (nI (zSize v)) = _ from this]; rfl
  · rw [if_neg (show ¬ nI 1 = 0 by decide), if_pos (show nI 1 = 1 from rfl), if_neg (by decide), if_pos rfl, kl_5, kn_div (by omega) (by decide) (by decide)]; rfl
  · rw [if_neg (show ¬ nI 2 = 0 by decide), if_neg (show ¬ nI 2 = 1 by decide), if_pos (show nI 2 = 2 from rfl), if_neg (show ¬ (2 : Nat) = 0 by decide), if_neg (show ¬ (2 : Nat) = 1 by decide), es, kn_bs, kl_12]
    by_cases hz : zSize v < 12
    · have g := fv_at (zSize v) (by omega)
      rw [if_neg (by rw [nI_leI (by decide) (by omega)]; omega), kn_inT (by omega) (by omega), kn_if_t, nI_clamp (by omega), g, kl_4, pk_mul, nI_add, if_pos ⟨rfl, hz⟩]; rfl
    · rw [if_pos (by rw [nI_leI (by decide) (by omega)]; omega), if_neg (fun q => hz q.2)]; rfl
  · rw [if_neg (show ¬ nI 3 = 0 by decide), if_neg (show ¬ nI 3 = 1 by decide), if_neg (show ¬ nI 3 = 2 by decide), if_neg (by decide), if_neg (by decide), if_neg (fun q => absurd q.1 (by decide))]
theorem md_frozen {n : Nat} (hn : 100 ≤ n) {v how : Nat} (hv : v ≤ 244140624) (hh : how < 4) : f_MD_frozen n (nI v) (nI how) = some (nI (zFz v how)) := by
  have h12 := zSize_12.mpr hv
  have es := md_sizeOf (n := n) (v := v) (by omega) (by omega)
  unfold f_MD_frozen jn_MD_frozen_25 jn_MD_frozen_59 jn_MD_frozen_60 zFz
  rw [es, kn_bs]
  rcases (show how = 0 ∨ how = 1 ∨ how = 2 ∨ how = 3 by omega) with rfl | rfl | rfl | rfl
  · rw [if_pos (show nI 0 = 0 from rfl), if_pos rfl]
    by_cases hz : zSize v = 0
    · rw [if_pos (by rw [hz]; rfl), if_pos hz]; rfl
    · have p := five_lt (j := zSize v - 1) (by omega)
      have p0 := five_pos (zSize v - 1)
      rw [if_neg (by rw [kn_eq0 (by omega)]; exact hz), if_neg hz, kn_sub1 (by omega), md_power hn (by omega), kn_bs, decide_eq_true (show ¬ nI (5 ^ (zSize v - 1)) = 0 by rw [kn_eq0 (by omega)]; omega), kn_if_t, kn_rem (by omega) p0 p]
  · rw [if_neg (show ¬ nI 1 = 0 by decide), if_pos (show nI 1 = 1 from rfl), if_neg (by decide), if_pos rfl, kl_5, kn_div (by omega) (by decide) (by decide)]
  · rw [if_neg (show ¬ nI 2 = 0 by decide), if_neg (show ¬ nI 2 = 1 by decide), if_pos (show nI 2 = 2 from rfl), if_neg (show ¬ (2 : Nat) = 0 by decide), if_neg (show ¬ (2 : Nat) = 1 by decide), kl_12]
    by_cases hz : zSize v < 12
    · rw [if_neg (by rw [nI_leI (by decide) (by omega)]; omega), md_power hn (by omega), kn_bs, kl_4, pk_mul, nI_add, if_pos ⟨rfl, hz⟩]
    · rw [if_pos (by rw [nI_leI (by decide) (by omega)]; omega), if_neg (fun q => hz q.2)]
  · rw [if_neg (show ¬ nI 3 = 0 by decide), if_neg (show ¬ nI 3 = 1 by decide), if_neg (show ¬ nI 3 = 2 by decide), if_neg (by decide), if_neg (by decide), if_neg (fun q => absurd q.1 (by decide))]
def zFi (W : zW) (s : Int32) : Nat := zRn (zSd s) % W.length
def zFr (W : zW) (D : List (Nat × Nat)) (w : Nat) (s : Int32) : Nat := zFz (zHr D w (zRn s % D.length) (zRowAt W (zFi W s))) (zRn (zSd (zSd s)) % 4)
def zFs (W : zW) (D : List (Nat × Nat)) (w : Nat) (s : Int32 × Nat × Nat × Nat) : Int32 × Nat × Nat × Nat := (zSd (zSd (zSd s.1)), s.2.1 + (if zNear W (zFr W D w s.1) = nI (zFi W s.1) then 1 else 0), s.2.2.1 + (if zNear W (zFr W D w s.1) = nI (zFi W s.1) then zWorthAt W (zFi W s.1) else 0), s.2.2.2 + (if zFr W D w s.1 = 0 then 1 else 0))
def zFo (W : zW) (D : List (Nat × Nat)) (w : Nat) (seed : Int32) (k : Nat) : Int32 × Nat × Nat × Nat := zFold (fun _ s => zFs W D w s) (seed, 0, 0, 0) k
theorem zFo_s (W : zW) (D : List (Nat × Nat)) (w : Nat) (seed : Int32) (k : Nat) : zFo W D w seed (k + 1) = zFs W D w (zFo W D w seed k) := rfl
theorem c_freeze {n : Nat} (hn : 100 ≤ n) {μ : kbM} {W : zW} {D : List (Nat × Nat)} {w m : Nat} (h : hOk W D w) (hW : 0 < W.length) (hD : 0 < D.length) (hm : m ≤ 60) (hc : cH μ W D w) {seed : Int32} (g7 : μ.1 54 7 = seed) (g8 : μ.1 54 8 = 0) (g9 : μ.1 54 9 = 0) (g10 : μ.1 54 10 = 0) : ∃ ν, lp_PL_freeze_46 n (nI m) n 0 μ = some ν ∧ ν.1 54 8 = nI (zFo W D w seed m).2.1 ∧ ν.1 54 9 = nI (zFo W D w seed m).2.2.1 ∧ ν.1 54 10 = nI (zFo W D w seed m).2.2.2 := by
  have h10 := h.l10
  have h6 := h.l6
  exact kn_for (fun k (s : Int32 × kbM) => lp_PL_freeze_46 n (nI m) k s.1 s.2) (fun j s => s.1 = nI j ∧ cH s.2 W D w ∧ s.2.1 54 7 = (zFo W D w seed j).1 ∧ s.2.1 54 8 = nI (zFo W D w seed j).2.1 ∧ s.2.1 54 9 = nI (zFo W D w seed j).2.2.1 ∧ s.2.1 54 10 = nI (zFo W D w seed j).2.2.2) m (fun ν => ν.1 54 8 = nI (zFo W D w seed m).2.1 ∧ ν.1 54 9 = nI (zFo W D w seed m).2.2.1 ∧ ν.1 54 10 = nI (zFo W D w seed m).2.2.2)
    (fun k s hs => by
      obtain ⟨v, ν⟩ := s
      simp only at hs
      obtain ⟨rfl, h1, h2, h3⟩ := hs
      exact ⟨ν, by simp (disch := omega) only [kn_if_t, kn_bs, kn_or_l, kn_or_r, kn_inT, nI_clamp, nI_leI, nI_ltI, nI_eq, nI_add, pk_mul, nI_1, kn_eq0, kn_lt0, kn_le0, kn_0le, kn_div, kn_rem, kn_or, kn_and, kn_or0, kn_ad0, kn_shl1, kn_bitB, zBt, zBf, zB1t, zB1f, zB_01, zB_10, kl_2, kl_3, kl_4, kl_5, kl_6, kl_7, kl_8, kl_10, kl_12, kl_13, if_pos, if_neg, ↓reduceIte, eq_self, not_true_eq_false, not_false_eq_true, Nat.add_zero, Nat.or_zero, reduceCtorEq, or_true, true_or, or_false, false_or, decide_true, decide_false, kn_sub1, sb_m1, pk_sub, kW_ne, kW_at, kW_no, kA_ne, kA_eq, ite_self, and_self, true_and, and_true, lp_PL_freeze_46], h3⟩)
    (fun k j s hj hs => by
      obtain ⟨v, ν⟩ := s
      simp only at hs
      obtain ⟨rfl, h1, q7, q8, q9, q10⟩ := hs
      generalize hF : zFo W D w seed j = F at q7 q8 q9 q10
      obtain ⟨s0, o0, u0, n0⟩ := F
      simp only at q7 q8 q9 q10
      have hd : zRn s0 % D.length < D.length := Nat.mod_lt _ hD
      have hi : zFi W s0 < W.length := Nat.mod_lt _ hW
      have hh : zRn (zSd (zSd s0)) % 4 < 4 := Nat.mod_lt _ (by decide)
      have d1 := pl_draw q7 hD (by omega)
      have d2 := pl_draw (μ := kbW ν 54 7 (zSd s0)) kW_at hW (by omega)
      have hc2 : cH (kbW (kbW ν 54 7 (zSd s0)) 54 7 (zSd (zSd s0))) W D w := h1.congr (fun a ha => by rw [kW_ne (by revert a; decide), kW_ne (by revert a; decide)])
      have hr := c_hr (n := n) (by omega) h hc2 hd (h.row hi)
      have d3 := pl_draw (μ := kbW (kbW ν 54 7 (zSd s0)) 54 7 (zSd (zSd s0))) kW_at (m := 4) (by decide) (by decide)
      have hc3 : cH (kbW (kbW (kbW ν 54 7 (zSd s0)) 54 7 (zSd (zSd s0))) 54 7 (zSd (zSd (zSd s0)))) W D w := hc2.congr (fun a ha => by rw [kW_ne (by revert a; decide)])
      have hle := zHr_le (D := D) (w := w) (d := zRn s0 % D.length) (h.row hi)
      have fz := pl_frozen hn hle hh
      have hle2 : zFr W D w s0 ≤ 244140624 := zFz_le hle
      obtain ⟨ν1, en⟩ := ru_nearest (n := n) (by omega) h.1 hle2 hc3.1
      have f1 := fr_f_RU_nearestWord en
      have hcn := hc3.fr f1 (by decide)
      have k54 : ∀ q, ν1.1 54 q = (kbW (kbW (kbW ν 54 7 (zSd s0)) 54 7 (zSd (zSd s0))) 54 7 (zSd (zSd (zSd s0)))).1 54 q := fun q => by rw [fr_at f1 (by decide) (by decide)]
      have r7 : ν1.1 54 7 = zSd (zSd (zSd s0)) := by rw [k54, kW_at]
      have r8 : ν1.1 54 8 = nI o0 := by rw [k54, kW_no (by decide), kW_no (by decide), kW_no (by decide)]; exact q8
      have r9 : ν1.1 54 9 = nI u0 := by rw [k54, kW_no (by decide), kW_no (by decide), kW_no (by decide)]; exact q9
      have r10 : ν1.1 54 10 = nI n0 := by rw [k54, kW_no (by decide), kW_no (by decide), kW_no (by decide)]; exact q10
      have hw2 := (hc2.1.2 _ hi).1
      rw [show zRn (zSd s0) % W.length = zFi W s0 from rfl] at d2
      have en' : f_RU_nearestWord n (nI (zFz (zHr D w (zRn s0 % D.length) (zRowAt W (zFi W s0))) (zRn (zSd (zSd s0)) % 4))) (kbW (kbW (kbW ν 54 7 (zSd s0)) 54 7 (zSd (zSd s0))) 54 7 (zSd (zSd (zSd s0)))) = some (zNear W (zFr W D w s0), ν1) := en
      have eq4 : (zFz (zHr D w (zRn s0 % D.length) (zRowAt W (zFi W s0))) (zRn (zSd (zSd s0)) % 4)) = zFr W D w s0 := rfl
      have hD1 := h1.2.1.1
      have hW1 : (kbW ν 54 7 (zSd s0)).1 13 4 = nI W.length := by rw [kW_ne (by decide)]; exact h1.1.1
      have hwo := (hcn.1.2 _ hi).2.2.2
      have start : lp_PL_freeze_46 n (nI m) (k + 1) (nI j) ν = (if zNear W (zFr W D w s0) = nI (zFi W s0) then jn_PL_freeze_152 n (lp_PL_freeze_46 n (nI m) k) (nI m) (nI j) (nI (zFr W D w s0)) (kbW (kbW ν1 54 8 (nI (o0 + 1))) 54 9 (nI (u0 + zWorthAt W (zFi W s0)))) else jn_PL_freeze_152 n (lp_PL_freeze_46 n (nI m) k) (nI m) (nI j) (nI (zFr W D w s0)) ν1) := by
        simp only [lp_PL_freeze_46]
        rw [if_neg (by rw [nI_leI (by omega) (by omega)]; omega), hD1, d1, kn_bs]
        simp only
        rw [hW1, d2, kn_bs]
        simp only
        rw [kn_inT (by omega) (by omega), kn_if_t, nI_clamp (by omega), hw2, hr, kn_bs, kl_4, d3, kn_bs]
        simp only
        rw [fz, kn_bs, en', kn_bs, kn_if_t, eq4, r8, nI_1, kW_no (by decide), r9, kW_ne (by decide), hwo, nI_add]
      refine Or.inr ?_
      simp only [start, zFo_s, hF, zFs]
      by_cases e1 : zNear W (zFr W D w s0) = nI (zFi W s0)
      · rw [if_pos e1, if_pos e1, if_pos e1]
        by_cases e2 : zFr W D w s0 = 0
        · rw [if_pos e2]
          refine ⟨(nI (j + 1), kbW (kbW (kbW ν1 54 8 (nI (o0 + 1))) 54 9 (nI (u0 + zWorthAt W (zFi W s0)))) 54 10 (nI (n0 + 1))), by simp (disch := omega) only [kn_if_t, kn_bs, kn_or_l, kn_or_r, kn_inT, nI_clamp, nI_leI, nI_ltI, nI_eq, nI_add, pk_mul, nI_1, kn_eq0, kn_lt0, kn_le0, kn_0le, kn_div, kn_rem, kn_or, kn_and, kn_or0, kn_ad0, kn_shl1, kn_bitB, zBt, zBf, zB1t, zB1f, zB_01, zB_10, kl_2, kl_3, kl_4, kl_5, kl_6, kl_7, kl_8, kl_10, kl_12, kl_13, if_pos, if_neg, ↓reduceIte, eq_self, not_true_eq_false, not_false_eq_true, Nat.add_zero, Nat.or_zero, reduceCtorEq, or_true, true_or, or_false, false_or, decide_true, decide_false, kn_sub1, sb_m1, pk_sub, kW_ne, kW_at, kW_no, kA_ne, kA_eq, ite_self, and_self, true_and, and_true, jn_PL_freeze_152, jn_PL_freeze_167, e2, r10], rfl, ?_, ?_, ?_, ?_, ?_⟩
          · exact hcn.congr (fun a ha => by show (kbW (kbW (kbW ν1 54 8 (nI (o0 + 1))) 54 9 (nI (u0 + zWorthAt W (zFi W s0)))) 54 10 (nI (n0 + 1))).1 a = _; rw [kW_ne (by revert a; decide), kW_ne (by revert a; decide), kW_ne (by revert a; decide)])
          all_goals simp (disch := omega) only [kn_if_t, kn_bs, kn_or_l, kn_or_r, kn_inT, nI_clamp, nI_leI, nI_ltI, nI_eq, nI_add, pk_mul, nI_1, kn_eq0, kn_lt0, kn_le0, kn_0le, kn_div, kn_rem, kn_or, kn_and, kn_or0, kn_ad0, kn_shl1, kn_bitB, zBt, zBf, zB1t, zB1f, zB_01, zB_10, kl_2, kl_3, kl_4, kl_5, kl_6, kl_7, kl_8, kl_10, kl_12, kl_13, if_pos, if_neg, ↓reduceIte, eq_self, not_true_eq_false, not_false_eq_true, Nat.add_zero, Nat.or_zero, reduceCtorEq, or_true, true_or, or_false, false_or, decide_true, decide_false, kn_sub1, sb_m1, pk_sub, kW_ne, kW_at, kW_no, kA_ne, kA_eq, ite_self, and_self, true_and, and_true, r7]
        · rw [if_neg e2]
          refine ⟨(nI (j + 1), kbW (kbW (kbW ν1 54 8 (nI (o0 + 1))) 54 9 (nI (u0 + zWorthAt W (zFi W s0)))) 54 10 (nI n0)), by simp (disch := omega) only [kn_if_t, kn_bs, kn_or_l, kn_or_r, kn_inT, nI_clamp, nI_leI, nI_ltI, nI_eq, nI_add, pk_mul, nI_1, kn_eq0, kn_lt0, kn_le0, kn_0le, kn_div, kn_rem, kn_or, kn_and, kn_or0, kn_ad0, kn_shl1, kn_bitB, zBt, zBf, zB1t, zB1f, zB_01, zB_10, kl_2, kl_3, kl_4, kl_5, kl_6, kl_7, kl_8, kl_10, kl_12, kl_13, if_pos, if_neg, ↓reduceIte, eq_self, not_true_eq_false, not_false_eq_true, Nat.add_zero, Nat.or_zero, reduceCtorEq, or_true, true_or, or_false, false_or, decide_true, decide_false, kn_sub1, sb_m1, pk_sub, kW_ne, kW_at, kW_no, kA_ne, kA_eq, ite_self, and_self, true_and, and_true, jn_PL_freeze_152, jn_PL_freeze_167, e2, r10], rfl, ?_, ?_, ?_, ?_, ?_⟩
          · exact hcn.congr (fun a ha => by show (kbW (kbW (kbW ν1 54 8 (nI (o0 + 1))) 54 9 (nI (u0 + zWorthAt W (zFi W s0)))) 54 10 (nI n0)).1 a = _; rw [kW_ne (by revert a; decide), kW_ne (by revert a; decide), kW_ne (by revert a; decide)])
          all_goals simp (disch := omega) only [kn_if_t, kn_bs, kn_or_l, kn_or_r, kn_inT, nI_clamp, nI_leI, nI_ltI, nI_eq, nI_add, pk_mul, nI_1, kn_eq0, kn_lt0, kn_le0, kn_0le, kn_div, kn_rem, kn_or, kn_and, kn_or0, kn_ad0, kn_shl1, kn_bitB, zBt, zBf, zB1t, zB1f, zB_01, zB_10, kl_2, kl_3, kl_4, kl_5, kl_6, kl_7, kl_8, kl_10, kl_12, kl_13, if_pos, if_neg, ↓reduceIte, eq_self, not_true_eq_false, not_false_eq_true, Nat.add_zero, Nat.or_zero, reduceCtorEq, or_true, true_or, or_false, false_or, decide_true, decide_false, kn_sub1, sb_m1, pk_sub, kW_ne, kW_at, kW_no, kA_ne, kA_eq, ite_self, and_self, true_and, and_true, r7]
      · rw [if_neg e1, if_neg e1, if_neg e1]
        by_cases e2 : zFr W D w s0 = 0
        · rw [if_pos e2]
          refine ⟨(nI (j + 1), kbW ν1 54 10 (nI (n0 + 1))), by simp (disch := omega) only [kn_if_t, kn_bs, kn_or_l, kn_or_r, kn_inT, nI_clamp, nI_leI, nI_ltI, nI_eq, nI_add, pk_mul, nI_1, kn_eq0, kn_lt0, kn_le0, kn_0le, kn_div, kn_rem, kn_or, kn_and, kn_or0, kn_ad0, kn_shl1, kn_bitB, zBt, zBf, zB1t, zB1f, zB_01, zB_10, kl_2, kl_3, kl_4, kl_5, kl_6, kl_7, kl_8, kl_10, kl_12, kl_13, if_pos, if_neg, ↓reduceIte, eq_self, not_true_eq_false, not_false_eq_true, Nat.add_zero, Nat.or_zero, reduceCtorEq, or_true, true_or, or_false, false_or, decide_true, decide_false, kn_sub1, sb_m1, pk_sub, kW_ne, kW_at, kW_no, kA_ne, kA_eq, ite_self, and_self, true_and, and_true, jn_PL_freeze_152, jn_PL_freeze_167, e2, r10], rfl, ?_, ?_, ?_, ?_, ?_⟩
          · exact hcn.congr (fun a ha => by show (kbW ν1 54 10 (nI (n0 + 1))).1 a = _; rw [kW_ne (by revert a; decide)])
          all_goals simp (disch := omega) only [kn_if_t, kn_bs, kn_or_l, kn_or_r, kn_inT, nI_clamp, nI_leI, nI_ltI, nI_eq, nI_add, pk_mul, nI_1, kn_eq0, kn_lt0, kn_le0, kn_0le, kn_div, kn_rem, kn_or, kn_and, kn_or0, kn_ad0, kn_shl1, kn_bitB, zBt, zBf, zB1t, zB1f, zB_01, zB_10, kl_2, kl_3, kl_4, kl_5, kl_6, kl_7, kl_8, kl_10, kl_12, kl_13, if_pos, if_neg, ↓reduceIte, eq_self, not_true_eq_false, not_false_eq_true, Nat.add_zero, Nat.or_zero, reduceCtorEq, or_true, true_or, or_false, false_or, decide_true, decide_false, kn_sub1, sb_m1, pk_sub, kW_ne, kW_at, kW_no, kA_ne, kA_eq, ite_self, and_self, true_and, and_true, r7, r8, r9]
        · rw [if_neg e2]
          refine ⟨(nI (j + 1), kbW ν1 54 10 (nI n0)), by simp (disch := omega) only [kn_if_t, kn_bs, kn_or_l, kn_or_r, kn_inT, nI_clamp, nI_leI, nI_ltI, nI_eq, nI_add, pk_mul, nI_1, kn_eq0, kn_lt0, kn_le0, kn_0le, kn_div, kn_rem, kn_or, kn_and, kn_or0, kn_ad0, kn_shl1, kn_bitB, zBt, zBf, zB1t, zB1f, zB_01, zB_10, kl_2, kl_3, kl_4, kl_5, kl_6, kl_7, kl_8, kl_10, kl_12, kl_13, if_pos, if_neg, ↓reduceIte, eq_self, not_true_eq_false, not_false_eq_true, Nat.add_zero, Nat.or_zero, reduceCtorEq, or_true, true_or, or_false, false_or, decide_true, decide_false, kn_sub1, sb_m1, pk_sub, kW_ne, kW_at, kW_no, kA_ne, kA_eq, ite_self, and_self, true_and, and_true, jn_PL_freeze_152, jn_PL_freeze_167, e2, r10], rfl, ?_, ?_, ?_, ?_, ?_⟩
          · exact hcn.congr (fun a ha => by show (kbW ν1 54 10 (nI n0)).1 a = _; rw [kW_ne (by revert a; decide)])
          all_goals simp (disch := omega) only [kn_if_t, kn_bs, kn_or_l, kn_or_r, kn_inT, nI_clamp, nI_leI, nI_ltI, nI_eq, nI_add, pk_mul, nI_1, kn_eq0, kn_lt0, kn_le0, kn_0le, kn_div, kn_rem, kn_or, kn_and, kn_or0, kn_ad0, kn_shl1, kn_bitB, zBt, zBf, zB1t, zB1f, zB_01, zB_10, kl_2, kl_3, kl_4, kl_5, kl_6, kl_7, kl_8, kl_10, kl_12, kl_13, if_pos, if_neg, ↓reduceIte, eq_self, not_true_eq_false, not_false_eq_true, Nat.add_zero, Nat.or_zero, reduceCtorEq, or_true, true_or, or_false, false_or, decide_true, decide_false, kn_sub1, sb_m1, pk_sub, kW_ne, kW_at, kW_no, kA_ne, kA_eq, ite_self, and_self, true_and, and_true, r7, r8, r9])
    m 0 n (0, μ) (by omega) (by omega) ⟨rfl, hc, g7, g8, g9, g10⟩
