/-! hear, forget, image, restore -/
def zHeardSes (e : zSes) (T : List (Nat × Nat)) : zSes := (e.1, e.2.1, T, e.2.2.2)
def t_hear (A : zA) (u1 u2 : Int32) : zSes × Int32 × Int32 := if zIn u1 A.2.2.1.length = true then (if A.1.2.2.1.length < 8 ∧ zIsRow u2 = true then (zHeardSes A.1 (A.1.2.2.1 ++ [(u1.toNatClampNeg, u2.toNatClampNeg)]), 0, nI (A.1.2.2.1.length + 1)) else (zRf A.1 2, 0, -1)) else (A.1, 1, 0)
theorem cHeard_app {μ : kbM} {a b : Nat} (hab : a ≠ b) {T : List (Nat × Nat)} (h : cHeard μ a b T) (d v : Nat) : cHeard (kbW (kbW μ a T.length (nI d)) b T.length (nI v)) a b (T ++ [(d, v)]) := by
  intro i hi
  rw [List.length_append] at hi
  simp only [List.length_singleton] at hi
  rw [kW_ne hab]
  by_cases e : i = T.length
  · subst e
    rw [kW_at, kW_at, List.getD_eq_getElem?_getD, List.getElem?_append_right (Nat.le_refl _), Nat.sub_self]
    exact ⟨rfl, rfl⟩
  · have := h i (by omega)
    rw [kW_no e, kW_no e, kW_ne (Ne.symm hab), List.getD_eq_getElem?_getD, List.getElem?_append_left (by omega), ← List.getD_eq_getElem?_getD]
    exact this
theorem cl_hear {n : Nat} (hn : 2000 ≤ n) {μ : kbM} {A : zA} (hA : zOk A) (h : rC μ A) (u1 u2 : Int32) : ∃ μ1, f_L_hear n u1 u2 μ = some ((t_hear A u1 u2).2.1, μ1) ∧ ((t_hear A u1 u2).2.1 = 0 → μ1.2 97 0 = (t_hear A u1 u2).2.2.toInt64) ∧ rC μ1 ((t_hear A u1 u2).1, A.2) := by
  have h6 := hA.doors.1
  have h8 := hA.1.2.2.2.2.1
  unfold f_L_hear f_KB_hear t_hear jn_KB_hear_24
  rw [kb_needDoor n h.doors h6]
  rcases zIn_cases u1 (c := A.2.2.1.length) (by omega) with ⟨d, hd, rfl⟩ | ⟨h1, -⟩
  · rw [zIn_n (by omega), if_pos (decide_eq_true hd), if_pos (decide_eq_true hd), kn_or_r, h.1.2.2.2.1, kl_8, ro_isRow (by omega), kn_bs]
    by_cases hl : A.1.2.2.1.length < 8
    · rw [if_neg (by rw [nI_leI (by decide) (by omega)]; omega)]
      cases hr : zIsRow u2 with
      | false =>
        rw [if_neg (show ¬ (A.1.2.2.1.length < 8 ∧ false = true) from fun q => by cases q.2)]
        exact ⟨_, rfl, fun _ => kX_at, (c_refuse h (k := 2) (by decide)).kX _⟩
      | true =>
        obtain ⟨v, rfl, -, hv⟩ := zIsRow_t hr
        rw [if_neg (show ¬ zB true = 0 by decide), if_pos ⟨hl, rfl⟩, nI_clamp (by omega), nI_clamp (by omega)]
        have q : ∀ x : Int32 × kbM, x = (nI (A.1.2.2.1.length + 1), kbW (kbW (kbW μ 19 A.1.2.2.1.length (nI d)) 20 A.1.2.2.1.length (nI v)) 12 6 (nI (A.1.2.2.1.length + 1))) → ∃ μ1, some ((0 : Int32), kbX x.2 97 0 x.1.toInt64) = some ((0 : Int32), μ1) ∧ (True → μ1.2 97 0 = (nI (A.1.2.2.1.length + 1)).toInt64) ∧ rC μ1 (zHeardSes A.1 (A.1.2.2.1 ++ [(d, v)]), A.2) := by
          rintro x rfl
          refine ⟨_, rfl, fun _ => kX_at, rC.kX ?_ _⟩
          obtain ⟨g1, g2, g3, g4, g5, g6, g7⟩ := h.1
          refine h.ses (fun c hc => ?_) ⟨g1.cg (fun c hc => ?_), ?_, ?_, ?_, ?_, ?_, ?_⟩ ?_
          · rw [kW_ne (by revert c; decide), kW_ne (by revert c; decide), kW_ne (by revert c; decide)]
          · rw [kW_ne (by revert c; decide), kW_ne (by revert c; decide), kW_ne (by revert c; decide)]
          · rw [kW_no (by decide), kW_ne (by decide), kW_ne (by decide)]; exact g2
          · rw [kW_no (by decide), kW_ne (by decide), kW_ne (by decide)]; exact g3
          · rw [kW_at]; show _ = nI (A.1.2.2.1 ++ [(d, v)]).length; rw [List.length_append]; rfl
          · unfold cLog at g5 ⊢; rw [kW_ne (by decide), kW_ne (by decide), kW_ne (by decide)]; exact g5
          · have := cHeard_app (show (19 : Nat) ≠ 20 by decide) g6 d v
            unfold cHeard at this ⊢
            rw [kW_ne (by decide), kW_ne (show (20 : Nat) ≠ 12 by decide)]; exact this
          · rw [kW_ne (by decide), kW_ne (by decide), kW_ne (by decide)]; exact g7
          · have := h.2.2.2.2.2.1
            unfold cKnown at this ⊢
            rw [kW_ne (by decide), kW_ne (by decide), kW_ne (by decide)]; exact this
        simp (disch := omega) only [kn_if_t, kn_bs, kn_or_l, kn_or_r, kn_inT, nI_clamp, nI_leI, nI_ltI, nI_eq, nI_add, pk_mul, nI_1, kn_eq0, kn_lt0, kn_le0, kn_0le, kn_div, kn_rem, kn_or, kn_and, kn_or0, kn_ad0, kn_shl1, kn_bitB, zBt, zBf, zB1t, zB1f, zB_01, zB_10, kl_2, kl_3, kl_4, kl_5, kl_6, kl_7, kl_8, kl_10, kl_12, kl_13, if_pos, if_neg, ↓reduceIte, eq_self, not_true_eq_false, not_false_eq_true, Nat.add_zero, Nat.or_zero, reduceCtorEq, or_true, true_or, or_false, false_or, decide_true, decide_false, kn_sub1, sb_m1, pk_sub, kW_ne, kW_at, kW_no, kA_ne, kA_eq, ite_self, and_self, true_and, and_true, h.1.2.2.2.1]
        exact q _ rfl
    · rw [if_pos (by rw [nI_leI (by decide) (by omega)]; omega), if_neg (fun q => hl q.1)]
      exact ⟨_, rfl, fun _ => kX_at, (c_refuse h (k := 2) (by decide)).kX _⟩
  · rw [h1]
    exact ⟨μ, rfl, fun q => absurd q z1n, h⟩
theorem md_hear {n : Nat} (hn : 2000 ≤ n) {μ : kbM} {A : zA} (hA : zOk A) (h0 : rM μ A) (u1 u2 : Int32) : ∃ v μ2, f_MD_hear n u1 u2 μ = some (v, μ2) ∧ μ2.1 57 3 = (t_hear A u1 u2).2.1 ∧ ((t_hear A u1 u2).2.1 = 0 → v = (t_hear A u1 u2).2.2) ∧ rM μ2 ((t_hear A u1 u2).1, A.2) := by
  have h6 := hA.doors.1
  have h8 := hA.1.2.2.2.2.1
  have h := h0.c0 0
  unfold f_MD_hear t_hear jn_MD_hear_35 f_MD_fail
  rw [md_isDoor h.doors h6, show f_MD_refuse 2 (kbW μ 57 3 0) = _ from md_refuse (k := 2) (by decide)]
  simp only [kn_bs]
  rcases zIn_cases u1 (c := A.2.2.1.length) (by omega) with ⟨d, hd, rfl⟩ | ⟨h1, -⟩
  · rw [zIn_n (by omega), decide_eq_true hd, if_neg (show ¬ zB true = 0 by decide), if_pos rfl, h.1.2.2.2.1, kl_8, md_isRow (by omega)]
    simp only [kn_bs]
    by_cases hl : A.1.2.2.1.length < 8
    · rw [if_neg (by rw [nI_eq (by omega) (by decide)]; omega)]
      cases hr : zIsRow u2 with
      | false =>
        rw [if_neg (show ¬ (A.1.2.2.1.length < 8 ∧ false = true) from fun q => by cases q.2)]
        exact ⟨_, _, rfl, by rw [kW_ne (by decide)]; exact kW_at, fun _ => rfl, m_refuse h (k := 2) (by decide)⟩
      | true =>
        obtain ⟨v, rfl, -, hv⟩ := zIsRow_t hr
        rw [if_neg (show ¬ zB true = 0 by decide), if_pos ⟨hl, rfl⟩, nI_clamp (by omega), nI_clamp (by omega)]
        have q : ∀ x : Int32 × kbM, x = (nI (A.1.2.2.1.length + 1), kbW (kbW (kbW (kbW μ 57 3 0) 89 A.1.2.2.1.length (nI d)) 90 A.1.2.2.1.length (nI v)) 57 30 (nI (A.1.2.2.1.length + 1))) → ∃ w μ2, some x = some (w, μ2) ∧ μ2.1 57 3 = 0 ∧ (True → w = nI (A.1.2.2.1.length + 1)) ∧ rM μ2 (zHeardSes A.1 (A.1.2.2.1 ++ [(d, v)]), A.2) := by
          rintro x rfl
          refine ⟨_, _, rfl, ?_, fun _ => rfl, ?_⟩
          · rw [kW_no (by decide), kW_ne (by decide), kW_ne (by decide)]; exact kW_at
          obtain ⟨g1, g2, g3, g4, g5, g6, g7⟩ := h.1
          refine h.ses (fun c hc => ?_) (fun k hk => ?_) ⟨g1.cg ?_ (fun c hc => ?_), ?_, ?_, ?_, ?_, ?_, ?_⟩
          · rw [kW_ne (by revert c; decide), kW_ne (by revert c; decide), kW_ne (by revert c; decide)]
          · rw [kW_no (by revert k; decide), kW_ne (by decide), kW_ne (by decide)]
          · rw [kW_no (by decide), kW_ne (by decide), kW_ne (by decide)]
          · rw [kW_ne (by revert c; decide), kW_ne (by revert c; decide), kW_ne (by revert c; decide)]
          · rw [kW_no (by decide), kW_ne (by decide), kW_ne (by decide)]; exact g2
          · rw [kW_no (by decide), kW_ne (by decide), kW_ne (by decide)]; exact g3
          · rw [kW_at]; show _ = nI (A.1.2.2.1 ++ [(d, v)]).length; rw [List.length_append]; rfl
          · unfold mPast mPack at g5 ⊢; rw [kW_ne (by decide), kW_ne (by decide), kW_ne (by decide)]; exact g5
          · have := cHeard_app (show (89 : Nat) ≠ 90 by decide) g6 d v
            unfold cHeard at this ⊢
            rw [kW_ne (by decide), kW_ne (show (90 : Nat) ≠ 57 by decide)]; exact this
          · rw [kW_ne (by decide), kW_ne (by decide), kW_ne (by decide)]; exact g7
        have g4 := h.1.2.2.2.1
        simp (disch := omega) only [kn_if_t, kn_bs, kn_or_l, kn_or_r, kn_inT, nI_clamp, nI_leI, nI_ltI, nI_eq, nI_add, pk_mul, nI_1, kn_eq0, kn_lt0, kn_le0, kn_0le, kn_div, kn_rem, kn_or, kn_and, kn_or0, kn_ad0, kn_shl1, kn_bitB, zBt, zBf, zB1t, zB1f, zB_01, zB_10, kl_2, kl_3, kl_4, kl_5, kl_6, kl_7, kl_8, kl_10, kl_12, kl_13, if_pos, if_neg, ↓reduceIte, eq_self, not_true_eq_false, not_false_eq_true, Nat.add_zero, Nat.or_zero, reduceCtorEq, or_true, true_or, or_false, false_or, decide_true, decide_false, kn_sub1, sb_m1, pk_sub, kW_ne, kW_at, kA_ne, kA_eq, ite_self, and_self, true_and, and_true, g4]
        exact q _ rfl
    · rw [if_pos (by rw [show A.1.2.2.1.length = 8 by omega]), if_neg (fun q => hl q.1)]
      exact ⟨_, _, rfl, by rw [kW_ne (by decide)]; exact kW_at, fun _ => rfl, m_refuse h (k := 2) (by decide)⟩
  · rw [h1]
    exact ⟨_, _, rfl, kW_at, fun q => absurd q z1n, h.c0 1⟩
theorem ok_hear {A : zA} (hA : zOk A) (u1 u2 : Int32) : zOk ((t_hear A u1 u2).1, A.2) := by
  have h6 := hA.doors.1
  unfold t_hear
  rcases zIn_cases u1 (c := A.2.2.1.length) (by omega) with ⟨d, hd, rfl⟩ | ⟨h1, -⟩
  · rw [zIn_n (by omega), decide_eq_true hd, if_pos rfl]
    by_cases hl : A.1.2.2.1.length < 8 ∧ zIsRow u2 = true
    · obtain ⟨v, rfl, -, hv⟩ := zIsRow_t hl.2
      rw [if_pos hl, nI_clamp (by omega), nI_clamp (by omega)]
      obtain ⟨h1, h2, h3, h4, h5, h6⟩ := hA.1
      refine hA.ses ⟨h1, h2, h3, h4, ?_, fun q hq => ?_⟩
      · show (A.1.2.2.1 ++ [(d, v)]).length ≤ 8
        rw [List.length_append]; have := hl.1; simp only [List.length_singleton]; omega
      · rcases List.mem_append.mp hq with hq | hq
        · exact h6 q hq
        · simp only [List.mem_singleton] at hq
          rw [hq]; exact ⟨hd, hv⟩
    · rw [if_neg hl]; exact hA.ses (zRf_ok hA.1 2)
  · rw [h1]; exact hA
theorem op_26 {n : Nat} (hn : 5000 ≤ n) {μ : kbM} (hI : kbInv μ) (u1 u2 : Int32) : ∃ μ', c_law_26 n u1 u2 μ = some μ' ∧ kbInv μ' := by
  obtain ⟨A, hA, hC, hM⟩ := hI
  obtain ⟨μ1, h1, h4, hC1⟩ := cl_hear (n := n) (by omega) hA hC u1 u2
  have f1 := fr_f_L_hear h1
  have hM1 := hM.fr f1 (by decide) (by decide)
  obtain ⟨v, μ2, h2, h3, h5, hM2⟩ := md_hear (n := n) (by omega) hA hM1 u1 u2
  have f2 := fr_f_MD_hear h2
  refine ⟨μ2, law_int h1 h2 h3 (fun q => ?_), _, ok_hear hA u1 u2, hC1.fr f2 (by decide) (by decide), hM2⟩
  rw [fr_at2 f2 (by decide) (by decide), h4 q, h5 q]
theorem op_29 {n : Nat} {μ : kbM} (hI : kbInv μ) : ∃ μ', c_law_29 n μ = some μ' ∧ kbInv μ' := by
  obtain ⟨A, hA, hC, hM⟩ := hI
  refine ⟨kbW (kbW (kbW μ 12 6 0) 57 3 0) 57 30 0, rfl, (zHeardSes A.1 [], A.2), ?_, ?_, ?_⟩
  · obtain ⟨h1, h2, h3, h4, h5, h6⟩ := hA.1
    exact hA.ses ⟨h1, h2, h3, h4, Nat.zero_le _, fun q hq => by cases hq⟩
  · obtain ⟨g1, g2, g3, g4, g5, g6, g7⟩ := hC.1
    refine hC.ses (fun c hc => ?_) ⟨g1.cg (fun c hc => ?_), ?_, ?_, ?_, ?_, ?_, ?_⟩ ?_
    · rw [kW_ne (by revert c; decide), kW_ne (by revert c; decide), kW_ne (by revert c; decide)]
    · rw [kW_ne (by revert c; decide), kW_ne (by revert c; decide), kW_ne (by revert c; decide)]
    · rw [kW_ne (by decide), kW_ne (by decide), kW_no (by decide)]; exact g2
    · rw [kW_ne (by decide), kW_ne (by decide), kW_no (by decide)]; exact g3
    · rw [kW_ne (by decide), kW_ne (by decide), kW_at]; rfl
    · unfold cLog at g5 ⊢; rw [kW_ne (by decide), kW_ne (by decide), kW_ne (by decide)]; exact g5
    · intro i hi; cases hi
    · rw [kW_ne (by decide), kW_ne (by decide), kW_ne (by decide)]; exact g7
    · have := hC.2.2.2.2.2.1
      unfold cKnown at this ⊢
      rw [kW_ne (by decide), kW_ne (by decide), kW_ne (by decide)]; exact this
  · obtain ⟨g1, g2, g3, g4, g5, g6, g7⟩ := hM.1
    refine hM.ses (fun c hc => ?_) (fun k hk => ?_) ⟨g1.cg ?_ (fun c hc => ?_), ?_, ?_, ?_, ?_, ?_, ?_⟩
    · rw [kW_ne (by revert c; decide), kW_ne (by revert c; decide), kW_ne (by revert c; decide)]
    · rw [kW_no (by revert k; decide), kW_no (by revert k; decide), kW_ne (by decide)]
    · rw [kW_no (by decide), kW_no (by decide), kW_ne (by decide)]
    · rw [kW_ne (by revert c; decide), kW_ne (by revert c; decide), kW_ne (by revert c; decide)]
    · rw [kW_no (by decide), kW_no (by decide), kW_ne (by decide)]; exact g2
    · rw [kW_no (by decide), kW_no (by decide), kW_ne (by decide)]; exact g3
    · rw [kW_at]; rfl
    · unfold mPast mPack at g5 ⊢; rw [kW_ne (by decide), kW_ne (by decide), kW_ne (by decide)]; exact g5
    · intro i hi; cases hi
    · rw [kW_ne (by decide), kW_ne (by decide), kW_ne (by decide)]; exact g7
theorem st_copy_22 (μ : kbM) : ∃ μ', f_ST_copyFrom_22_12 μ = some μ' ∧ μ'.1 23 4 = μ.1 13 4 ∧ (∀ i, i < 10 → μ'.1 24 i = μ.1 14 i ∧ μ'.1 25 i = μ.1 15 i ∧ μ'.1 26 i = μ.1 16 i ∧ μ'.1 27 i = μ.1 17 i) ∧ (∀ i, i < 200 → μ'.1 28 i = μ.1 18 i) ∧ (∀ i, i < 8 → μ'.1 29 i = μ.1 19 i ∧ μ'.1 30 i = μ.1 20 i) ∧ (∀ i, i < 3 → μ'.1 31 i = μ.1 21 i) ∧ μ'.1 22 5 = μ.1 12 5 ∧ μ'.1 22 6 = μ.1 12 6 ∧ μ'.1 22 7 = μ.1 12 7 ∧ ∀ c, ¬ (22 ≤ c ∧ c ≤ 31) → μ'.1 c = μ.1 c := by
  unfold f_ST_copyFrom_22_12 f_WO_copyFrom_23_13
  rw [kn_bs]
  refine ⟨_, rfl, ?_, fun i hi => ⟨?_, ?_, ?_, ?_⟩, fun i hi => ?_, fun i hi => ⟨?_, ?_⟩, fun i hi => ?_, ?_, ?_, ?_, fun c hc => ?_⟩
  all_goals simp (disch := omega) only [kW_ne, kW_at, kW_no, kA_ne, kA_eq, sb_cpy0]
theorem st_copy_12 (μ : kbM) : ∃ μ', f_ST_copyFrom_12_22 μ = some μ' ∧ μ'.1 13 4 = μ.1 23 4 ∧ (∀ i, i < 10 → μ'.1 14 i = μ.1 24 i ∧ μ'.1 15 i = μ.1 25 i ∧ μ'.1 16 i = μ.1 26 i ∧ μ'.1 17 i = μ.1 27 i) ∧ (∀ i, i < 200 → μ'.1 18 i = μ.1 28 i) ∧ (∀ i, i < 8 → μ'.1 19 i = μ.1 29 i ∧ μ'.1 20 i = μ.1 30 i) ∧ (∀ i, i < 3 → μ'.1 21 i = μ.1 31 i) ∧ μ'.1 12 5 = μ.1 22 5 ∧ μ'.1 12 6 = μ.1 22 6 ∧ μ'.1 12 7 = μ.1 22 7 ∧ ∀ c, ¬ (12 ≤ c ∧ c ≤ 21) → μ'.1 c = μ.1 c := by
  unfold f_ST_copyFrom_12_22 f_WO_copyFrom_13_23
  rw [kn_bs]
  refine ⟨_, rfl, ?_, fun i hi => ⟨?_, ?_, ?_, ?_⟩, fun i hi => ?_, fun i hi => ⟨?_, ?_⟩, fun i hi => ?_, ?_, ?_, ?_, fun c hc => ?_⟩
  all_goals simp (disch := omega) only [kW_ne, kW_at, kW_no, kA_ne, kA_eq, sb_cpy0]
theorem cSes.copy {μ μ' : kbM} {o o' : Nat} {e : zSes} (hW : e.1.1.length ≤ 10) (hG : e.2.1.length ≤ 40) (hT : e.2.2.1.length ≤ 8) (h1 : μ'.1 (o' + 1) 4 = μ.1 (o + 1) 4) (h2 : ∀ i, i < 10 → μ'.1 (o' + 2) i = μ.1 (o + 2) i ∧ μ'.1 (o' + 3) i = μ.1 (o + 3) i ∧ μ'.1 (o' + 4) i = μ.1 (o + 4) i ∧ μ'.1 (o' + 5) i = μ.1 (o + 5) i) (h3 : ∀ i, i < 200 → μ'.1 (o' + 6) i = μ.1 (o + 6) i) (h4 : ∀ i, i < 8 → μ'.1 (o' + 7) i = μ.1 (o + 7) i ∧ μ'.1 (o' + 8) i = μ.1 (o + 8) i) (h5 : ∀ i, i < 3 → μ'.1 (o' + 9) i = μ.1 (o + 9) i) (h6 : μ'.1 o' 5 = μ.1 o 5) (h7 : μ'.1 o' 6 = μ.1 o 6) (h8 : μ'.1 o' 7 = μ.1 o 7) (h : cSes μ o e) : cSes μ' o' e := by
  obtain ⟨g1, g2, g3, g4, g5, g6, g7⟩ := h
  refine ⟨⟨by rw [h1]; exact g1.1, fun i hi => ?_⟩, by rw [h8]; exact g2, by rw [h6]; exact g3, by rw [h7]; exact g4, fun i hi q hq => ?_, fun i hi => ?_, fun i hi => by rw [h5 i hi]; exact g7 i hi⟩
  · have a := h2 i (by omega)
    rw [a.1, a.2.1, a.2.2.1, a.2.2.2]; exact g1.2 i hi
  · rw [h3 _ (by omega), h3 _ (by omega), h3 _ (by omega), h3 _ (by omega), h3 _ (by omega)]; exact g5 i hi q hq
  · have a := h4 i (by omega)
    rw [a.1, a.2]; exact g6 i hi
theorem m_be_93 {n : Nat} (hn : 2000 ≤ n) (μ : kbM) : ∃ μ', f_MD_be_93_73 n μ = some μ' ∧ (∀ q, q < 1280 → μ'.1 93 q = μ.1 73 q) ∧ ∀ c, c ≠ 93 → μ'.1 c = μ.1 c := by
  obtain ⟨ν, e, hA, hB⟩ := kn_for (fun k (s : Int32 × kbM) => lp_MD_be_93_73_2 n k s.1 s.2)
    (fun j s => s.1 = nI j ∧ (∀ q, q < j → s.2.1 93 q = μ.1 73 q) ∧ ∀ c, c ≠ 93 → s.2.1 c = μ.1 c) 1280
    (fun ν => (∀ q, q < 1280 → ν.1 93 q = μ.1 73 q) ∧ ∀ c, c ≠ 93 → ν.1 c = μ.1 c)
    (fun k s hs => by
      obtain ⟨v, ν⟩ := s
      simp only at hs
      obtain ⟨rfl, h1, h2⟩ := hs
      exact ⟨ν, by simp (disch := omega) only [kn_if_t, kn_bs, kn_or_l, kn_or_r, kn_inT, nI_clamp, nI_leI, nI_ltI, nI_eq, nI_add, pk_mul, nI_1, kn_eq0, kn_lt0, kn_le0, kn_0le, kn_div, kn_rem, kn_or, kn_and, kn_or0, kn_ad0, kn_shl1, kn_bitB, zBt, zBf, zB1t, zB1f, zB_01, zB_10, kl_2, kl_3, kl_4, kl_5, kl_6, kl_7, kl_8, kl_10, kl_12, kl_13, if_pos, if_neg, ↓reduceIte, eq_self, not_true_eq_false, not_false_eq_true, Nat.add_zero, Nat.or_zero, reduceCtorEq, or_true, true_or, or_false, false_or, decide_true, decide_false, kn_sub1, sb_m1, pk_sub, kW_ne, kW_at, kW_no, kA_ne, kA_eq, ite_self, and_self, true_and, and_true, lp_MD_be_93_73_2, show (1280 : Int32) = nI 1280 from rfl], h1, h2⟩)
    (fun k j s hj hs => by
      obtain ⟨v, ν⟩ := s
      simp only at hs
      obtain ⟨rfl, h1, h2⟩ := hs
      try simp only at h1 h2
      have g := h2 73 (by decide)
      refine Or.inr ⟨(nI (j + 1), kbW ν 93 j (μ.1 73 j)), by simp (disch := omega) only [kn_if_t, kn_bs, kn_or_l, kn_or_r, kn_inT, nI_clamp, nI_leI, nI_ltI, nI_eq, nI_add, pk_mul, nI_1, kn_eq0, kn_lt0, kn_le0, kn_0le, kn_div, kn_rem, kn_or, kn_and, kn_or0, kn_ad0, kn_shl1, kn_bitB, zBt, zBf, zB1t, zB1f, zB_01, zB_10, kl_2, kl_3, kl_4, kl_5, kl_6, kl_7, kl_8, kl_10, kl_12, kl_13, if_pos, if_neg, ↓reduceIte, eq_self, not_true_eq_false, not_false_eq_true, Nat.add_zero, Nat.or_zero, reduceCtorEq, or_true, true_or, or_false, false_or, decide_true, decide_false, kn_sub1, sb_m1, pk_sub, kW_ne, kW_at, kW_no, kA_ne, kA_eq, ite_self, and_self, true_and, and_true, lp_MD_be_93_73_2, show (1280 : Int32) = nI 1280 from rfl, g], rfl, fun q hq => ?_, fun c hc => ?_⟩
      · show (kbW ν 93 j (μ.1 73 j)).1 93 q = _
        by_cases e : q = j
        · subst e; exact kW_at
        · rw [kW_no e]; exact h1 q (by omega)
      · show (kbW ν 93 j (μ.1 73 j)).1 c = _
        rw [kW_ne hc]; exact h2 c hc)
    1280 0 n (0, μ) (by omega) (by omega) ⟨rfl, fun q hq => absurd hq (by omega), fun _ _ => rfl⟩
  refine ⟨ν, ?_, hA, hB⟩
  unfold f_MD_be_93_73
  rw [show lp_MD_be_93_73_2 n n 0 μ = some ν from e, kn_bs]
theorem m_be_94 {n : Nat} (hn : 2000 ≤ n) (μ : kbM) : ∃ μ', f_MD_be_94_89 n μ = some μ' ∧ (∀ q, q < 8 → μ'.1 94 q = μ.1 89 q) ∧ ∀ c, c ≠ 94 → μ'.1 c = μ.1 c := by
  obtain ⟨ν, e, hA, hB⟩ := kn_for (fun k (s : Int32 × kbM) => lp_MD_be_94_89_2 n k s.1 s.2)
    (fun j s => s.1 = nI j ∧ (∀ q, q < j → s.2.1 94 q = μ.1 89 q) ∧ ∀ c, c ≠ 94 → s.2.1 c = μ.1 c) 8
    (fun ν => (∀ q, q < 8 → ν.1 94 q = μ.1 89 q) ∧ ∀ c, c ≠ 94 → ν.1 c = μ.1 c)
    (fun k s hs => by
      obtain ⟨v, ν⟩ := s
      simp only at hs
      obtain ⟨rfl, h1, h2⟩ := hs
      exact ⟨ν, by simp (disch := omega) only [kn_if_t, kn_bs, kn_or_l, kn_or_r, kn_inT, nI_clamp, nI_leI, nI_ltI, nI_eq, nI_add, pk_mul, nI_1, kn_eq0, kn_lt0, kn_le0, kn_0le, kn_div, kn_rem, kn_or, kn_and, kn_or0, kn_ad0, kn_shl1, kn_bitB, zBt, zBf, zB1t, zB1f, zB_01, zB_10, kl_2, kl_3, kl_4, kl_5, kl_6, kl_7, kl_8, kl_10, kl_12, kl_13, if_pos, if_neg, ↓reduceIte, eq_self, not_true_eq_false, not_false_eq_true, Nat.add_zero, Nat.or_zero, reduceCtorEq, or_true, true_or, or_false, false_or, decide_true, decide_false, kn_sub1, sb_m1, pk_sub, kW_ne, kW_at, kW_no, kA_ne, kA_eq, ite_self, and_self, true_and, and_true, lp_MD_be_94_89_2, show (1280 : Int32) = nI 1280 from rfl], h1, h2⟩)
    (fun k j s hj hs => by
      obtain ⟨v, ν⟩ := s
      simp only at hs
      obtain ⟨rfl, h1, h2⟩ := hs
      try simp only at h1 h2
      have g := h2 89 (by decide)
      refine Or.inr ⟨(nI (j + 1), kbW ν 94 j (μ.1 89 j)), by simp (disch := omega) only [kn_if_t, kn_bs, kn_or_l, kn_or_r, kn_inT, nI_clamp, nI_leI, nI_ltI, nI_eq, nI_add, pk_mul, nI_1, kn_eq0, kn_lt0, kn_le0, kn_0le, kn_div, kn_rem, kn_or, kn_and, kn_or0, kn_ad0, kn_shl1, kn_bitB, zBt, zBf, zB1t, zB1f, zB_01, zB_10, kl_2, kl_3, kl_4, kl_5, kl_6, kl_7, kl_8, kl_10, kl_12, kl_13, if_pos, if_neg, ↓reduceIte, eq_self, not_true_eq_false, not_false_eq_true, Nat.add_zero, Nat.or_zero, reduceCtorEq, or_true, true_or, or_false, false_or, decide_true, decide_false, kn_sub1, sb_m1, pk_sub, kW_ne, kW_at, kW_no, kA_ne, kA_eq, ite_self, and_self, true_and, and_true, lp_MD_be_94_89_2, show (1280 : Int32) = nI 1280 from rfl, g], rfl, fun q hq => ?_, fun c hc => ?_⟩
      · show (kbW ν 94 j (μ.1 89 j)).1 94 q = _
        by_cases e : q = j
        · subst e; exact kW_at
        · rw [kW_no e]; exact h1 q (by omega)
      · show (kbW ν 94 j (μ.1 89 j)).1 c = _
        rw [kW_ne hc]; exact h2 c hc)
    8 0 n (0, μ) (by omega) (by omega) ⟨rfl, fun q hq => absurd hq (by omega), fun _ _ => rfl⟩
  refine ⟨ν, ?_, hA, hB⟩
  unfold f_MD_be_94_89
  rw [show lp_MD_be_94_89_2 n n 0 μ = some ν from e, kn_bs]
theorem m_be_95 {n : Nat} (hn : 2000 ≤ n) (μ : kbM) : ∃ μ', f_MD_be_95_90 n μ = some μ' ∧ (∀ q, q < 8 → μ'.1 95 q = μ.1 90 q) ∧ ∀ c, c ≠ 95 → μ'.1 c = μ.1 c := by
  obtain ⟨ν, e, hA, hB⟩ := kn_for (fun k (s : Int32 × kbM) => lp_MD_be_95_90_2 n k s.1 s.2)
    (fun j s => s.1 = nI j ∧ (∀ q, q < j → s.2.1 95 q = μ.1 90 q) ∧ ∀ c, c ≠ 95 → s.2.1 c = μ.1 c) 8
    (fun ν => (∀ q, q < 8 → ν.1 95 q = μ.1 90 q) ∧ ∀ c, c ≠ 95 → ν.1 c = μ.1 c)
    (fun k s hs => by
      obtain ⟨v, ν⟩ := s
      simp only at hs
      obtain ⟨rfl, h1, h2⟩ := hs
      exact ⟨ν, by simp (disch := omega) only [kn_if_t, kn_bs, kn_or_l, kn_or_r, kn_inT, nI_clamp, nI_leI, nI_ltI, nI_eq, nI_add, pk_mul, nI_1, kn_eq0, kn_lt0, kn_le0, kn_0le, kn_div, kn_rem, kn_or, kn_and, kn_or0, kn_ad0, kn_shl1, kn_bitB, zBt, zBf, zB1t, zB1f, zB_01, zB_10, kl_2, kl_3, kl_4, kl_5, kl_6, kl_7, kl_8, kl_10, kl_12, kl_13, if_pos, if_neg, ↓reduceIte, eq_self, not_true_eq_false, not_false_eq_true, Nat.add_zero, Nat.or_zero, reduceCtorEq, or_true, true_or, or_false, false_or, decide_true, decide_false, kn_sub1, sb_m1, pk_sub, kW_ne, kW_at, kW_no, kA_ne, kA_eq, ite_self, and_self, true_and, and_true, lp_MD_be_95_90_2, show (1280 : Int32) = nI 1280 from rfl], h1, h2⟩)
    (fun k j s hj hs => by
      obtain ⟨v, ν⟩ := s
      simp only at hs
      obtain ⟨rfl, h1, h2⟩ := hs
      try simp only at h1 h2
      have g := h2 90 (by decide)
      refine Or.inr ⟨(nI (j + 1), kbW ν 95 j (μ.1 90 j)), by simp (disch := omega) only [kn_if_t, kn_bs, kn_or_l, kn_or_r, kn_inT, nI_clamp, nI_leI, nI_ltI, nI_eq, nI_add, pk_mul, nI_1, kn_eq0, kn_lt0, kn_le0, kn_0le, kn_div, kn_rem, kn_or, kn_and, kn_or0, kn_ad0, kn_shl1, kn_bitB, zBt, zBf, zB1t, zB1f, zB_01, zB_10, kl_2, kl_3, kl_4, kl_5, kl_6, kl_7, kl_8, kl_10, kl_12, kl_13, if_pos, if_neg, ↓reduceIte, eq_self, not_true_eq_false, not_false_eq_true, Nat.add_zero, Nat.or_zero, reduceCtorEq, or_true, true_or, or_false, false_or, decide_true, decide_false, kn_sub1, sb_m1, pk_sub, kW_ne, kW_at, kW_no, kA_ne, kA_eq, ite_self, and_self, true_and, and_true, lp_MD_be_95_90_2, show (1280 : Int32) = nI 1280 from rfl, g], rfl, fun q hq => ?_, fun c hc => ?_⟩
      · show (kbW ν 95 j (μ.1 90 j)).1 95 q = _
        by_cases e : q = j
        · subst e; exact kW_at
        · rw [kW_no e]; exact h1 q (by omega)
      · show (kbW ν 95 j (μ.1 90 j)).1 c = _
        rw [kW_ne hc]; exact h2 c hc)
    8 0 n (0, μ) (by omega) (by omega) ⟨rfl, fun q hq => absurd hq (by omega), fun _ _ => rfl⟩
  refine ⟨ν, ?_, hA, hB⟩
  unfold f_MD_be_95_90
  rw [show lp_MD_be_95_90_2 n n 0 μ = some ν from e, kn_bs]
theorem m_be_96 {n : Nat} (hn : 2000 ≤ n) (μ : kbM) : ∃ μ', f_MD_be_96_68 n μ = some μ' ∧ (∀ q, q < 3 → μ'.1 96 q = μ.1 68 q) ∧ ∀ c, c ≠ 96 → μ'.1 c = μ.1 c := by
  obtain ⟨ν, e, hA, hB⟩ := kn_for (fun k (s : Int32 × kbM) => lp_MD_be_96_68_2 n k s.1 s.2)
    (fun j s => s.1 = nI j ∧ (∀ q, q < j → s.2.1 96 q = μ.1 68 q) ∧ ∀ c, c ≠ 96 → s.2.1 c = μ.1 c) 3
    (fun ν => (∀ q, q < 3 → ν.1 96 q = μ.1 68 q) ∧ ∀ c, c ≠ 96 → ν.1 c = μ.1 c)
    (fun k s hs => by
      obtain ⟨v, ν⟩ := s
      simp only at hs
      obtain ⟨rfl, h1, h2⟩ := hs
      exact ⟨ν, by simp (disch := omega) only [kn_if_t, kn_bs, kn_or_l, kn_or_r, kn_inT, nI_clamp, nI_leI, nI_ltI, nI_eq, nI_add, pk_mul, nI_1, kn_eq0, kn_lt0, kn_le0, kn_0le, kn_div, kn_rem, kn_or, kn_and, kn_or0, kn_ad0, kn_shl1, kn_bitB, zBt, zBf, zB1t, zB1f, zB_01, zB_10, kl_2, kl_3, kl_4, kl_5, kl_6, kl_7, kl_8, kl_10, kl_12, kl_13, if_pos, if_neg, ↓reduceIte, eq_self, not_true_eq_false, not_false_eq_true, Nat.add_zero, Nat.or_zero, reduceCtorEq, or_true, true_or, or_false, false_or, decide_true, decide_false, kn_sub1, sb_m1, pk_sub, kW_ne, kW_at, kW_no, kA_ne, kA_eq, ite_self, and_self, true_and, and_true, lp_MD_be_96_68_2, show (1280 : Int32) = nI 1280 from rfl], h1, h2⟩)
    (fun k j s hj hs => by
      obtain ⟨v, ν⟩ := s
      simp only at hs
      obtain ⟨rfl, h1, h2⟩ := hs
      try simp only at h1 h2
      have g := h2 68 (by decide)
      refine Or.inr ⟨(nI (j + 1), kbW ν 96 j (μ.1 68 j)), by simp (disch := omega) only [kn_if_t, kn_bs, kn_or_l, kn_or_r, kn_inT, nI_clamp, nI_leI, nI_ltI, nI_eq, nI_add, pk_mul, nI_1, kn_eq0, kn_lt0, kn_le0, kn_0le, kn_div, kn_rem, kn_or, kn_and, kn_or0, kn_ad0, kn_shl1, kn_bitB, zBt, zBf, zB1t, zB1f, zB_01, zB_10, kl_2, kl_3, kl_4, kl_5, kl_6, kl_7, kl_8, kl_10, kl_12, kl_13, if_pos, if_neg, ↓reduceIte, eq_self, not_true_eq_false, not_false_eq_true, Nat.add_zero, Nat.or_zero, reduceCtorEq, or_true, true_or, or_false, false_or, decide_true, decide_false, kn_sub1, sb_m1, pk_sub, kW_ne, kW_at, kW_no, kA_ne, kA_eq, ite_self, and_self, true_and, and_true, lp_MD_be_96_68_2, show (1280 : Int32) = nI 1280 from rfl, g], rfl, fun q hq => ?_, fun c hc => ?_⟩
      · show (kbW ν 96 j (μ.1 68 j)).1 96 q = _
        by_cases e : q = j
        · subst e; exact kW_at
        · rw [kW_no e]; exact h1 q (by omega)
      · show (kbW ν 96 j (μ.1 68 j)).1 c = _
        rw [kW_ne hc]; exact h2 c hc)
    3 0 n (0, μ) (by omega) (by omega) ⟨rfl, fun q hq => absurd hq (by omega), fun _ _ => rfl⟩
  refine ⟨ν, ?_, hA, hB⟩
  unfold f_MD_be_96_68
  rw [show lp_MD_be_96_68_2 n n 0 μ = some ν from e, kn_bs]
theorem m_be_73 {n : Nat} (hn : 2000 ≤ n) (μ : kbM) : ∃ μ', f_MD_be_73_93 n μ = some μ' ∧ (∀ q, q < 1280 → μ'.1 73 q = μ.1 93 q) ∧ ∀ c, c ≠ 73 → μ'.1 c = μ.1 c := by
  obtain ⟨ν, e, hA, hB⟩ := kn_for (fun k (s : Int32 × kbM) => lp_MD_be_73_93_2 n k s.1 s.2)
    (fun j s => s.1 = nI j ∧ (∀ q, q < j → s.2.1 73 q = μ.1 93 q) ∧ ∀ c, c ≠ 73 → s.2.1 c = μ.1 c) 1280
    (fun ν => (∀ q, q < 1280 → ν.1 73 q = μ.1 93 q) ∧ ∀ c, c ≠ 73 → ν.1 c = μ.1 c)
    (fun k s hs => by
      obtain ⟨v, ν⟩ := s
      simp only at hs
      obtain ⟨rfl, h1, h2⟩ := hs
      exact ⟨ν, by simp (disch := omega) only [kn_if_t, kn_bs, kn_or_l, kn_or_r, kn_inT, nI_clamp, nI_leI, nI_ltI, nI_eq, nI_add, pk_mul, nI_1, kn_eq0, kn_lt0, kn_le0, kn_0le, kn_div, kn_rem, kn_or, kn_and, kn_or0, kn_ad0, kn_shl1, kn_bitB, zBt, zBf, zB1t, zB1f, zB_01, zB_10, kl_2, kl_3, kl_4, kl_5, kl_6, kl_7, kl_8, kl_10, kl_12, kl_13, if_pos, if_neg, ↓reduceIte, eq_self, not_true_eq_false, not_false_eq_true, Nat.add_zero, Nat.or_zero, reduceCtorEq, or_true, true_or, or_false, false_or, decide_true, decide_false, kn_sub1, sb_m1, pk_sub, kW_ne, kW_at, kW_no, kA_ne, kA_eq, ite_self, and_self, true_and, and_true, lp_MD_be_73_93_2, show (1280 : Int32) = nI 1280 from rfl], h1, h2⟩)
    (fun k j s hj hs => by
      obtain ⟨v, ν⟩ := s
      simp only at hs
      obtain ⟨rfl, h1, h2⟩ := hs
      try simp only at h1 h2
      have g := h2 93 (by decide)
      refine Or.inr ⟨(nI (j + 1), kbW ν 73 j (μ.1 93 j)), by simp (disch := omega) only [kn_if_t, kn_bs, kn_or_l, kn_or_r, kn_inT, nI_clamp, nI_leI, nI_ltI, nI_eq, nI_add, pk_mul, nI_1, kn_eq0, kn_lt0, kn_le0, kn_0le, kn_div, kn_rem, kn_or, kn_and, kn_or0, kn_ad0, kn_shl1, kn_bitB, zBt, zBf, zB1t, zB1f, zB_01, zB_10, kl_2, kl_3, kl_4, kl_5, kl_6, kl_7, kl_8, kl_10, kl_12, kl_13, if_pos, if_neg, ↓reduceIte, eq_self, not_true_eq_false, not_false_eq_true, Nat.add_zero, Nat.or_zero, reduceCtorEq, or_true, true_or, or_false, false_or, decide_true, decide_false, kn_sub1, sb_m1, pk_sub, kW_ne, kW_at, kW_no, kA_ne, kA_eq, ite_self, and_self, true_and, and_true, lp_MD_be_73_93_2, show (1280 : Int32) = nI 1280 from rfl, g], rfl, fun q hq => ?_, fun c hc => ?_⟩
      · show (kbW ν 73 j (μ.1 93 j)).1 73 q = _
        by_cases e : q = j
        · subst e; exact kW_at
        · rw [kW_no e]; exact h1 q (by omega)
      · show (kbW ν 73 j (μ.1 93 j)).1 c = _
        rw [kW_ne hc]; exact h2 c hc)
    1280 0 n (0, μ) (by omega) (by omega) ⟨rfl, fun q hq => absurd hq (by omega), fun _ _ => rfl⟩
  refine ⟨ν, ?_, hA, hB⟩
  unfold f_MD_be_73_93
  rw [show lp_MD_be_73_93_2 n n 0 μ = some ν from e, kn_bs]
theorem m_be_89 {n : Nat} (hn : 2000 ≤ n) (μ : kbM) : ∃ μ', f_MD_be_89_94 n μ = some μ' ∧ (∀ q, q < 8 → μ'.1 89 q = μ.1 94 q) ∧ ∀ c, c ≠ 89 → μ'.1 c = μ.1 c := by
  obtain ⟨ν, e, hA, hB⟩ := kn_for (fun k (s : Int32 × kbM) => lp_MD_be_89_94_2 n k s.1 s.2)
    (fun j s => s.1 = nI j ∧ (∀ q, q < j → s.2.1 89 q = μ.1 94 q) ∧ ∀ c, c ≠ 89 → s.2.1 c = μ.1 c) 8
    (fun ν => (∀ q, q < 8 → ν.1 89 q = μ.1 94 q) ∧ ∀ c, c ≠ 89 → ν.1 c = μ.1 c)
    (fun k s hs => by
      obtain ⟨v, ν⟩ := s
      simp only at hs
      obtain ⟨rfl, h1, h2⟩ := hs
      exact ⟨ν, by simp (disch := omega) only [kn_if_t, kn_bs, kn_or_l, kn_or_r, kn_inT, nI_clamp, nI_leI, nI_ltI, nI_eq, nI_add, pk_mul, nI_1, kn_eq0, kn_lt0, kn_le0, kn_0le, kn_div, kn_rem, kn_or, kn_and, kn_or0, kn_ad0, kn_shl1, kn_bitB, zBt, zBf, zB1t, zB1f, zB_01, zB_10, kl_2, kl_3, kl_4, kl_5, kl_6, kl_7, kl_8, kl_10, kl_12, kl_13, if_pos, if_neg, ↓reduceIte, eq_self, not_true_eq_false, not_false_eq_true, Nat.add_zero, Nat.or_zero, reduceCtorEq, or_true, true_or, or_false, false_or, decide_true, decide_false, kn_sub1, sb_m1, pk_sub, kW_ne, kW_at, kW_no, kA_ne, kA_eq, ite_self, and_self, true_and, and_true, lp_MD_be_89_94_2, show (1280 : Int32) = nI 1280 from rfl], h1, h2⟩)
    (fun k j s hj hs => by
      obtain ⟨v, ν⟩ := s
      simp only at hs
      obtain ⟨rfl, h1, h2⟩ := hs
      try simp only at h1 h2
      have g := h2 94 (by decide)
      refine Or.inr ⟨(nI (j + 1), kbW ν 89 j (μ.1 94 j)), by simp (disch := omega) only [kn_if_t, kn_bs, kn_or_l, kn_or_r, kn_inT, nI_clamp, nI_leI, nI_ltI, nI_eq, nI_add, pk_mul, nI_1, kn_eq0, kn_lt0, kn_le0, kn_0le, kn_div, kn_rem, kn_or, kn_and, kn_or0, kn_ad0, kn_shl1, kn_bitB, zBt, zBf, zB1t, zB1f, zB_01, zB_10, kl_2, kl_3, kl_4, kl_5, kl_6, kl_7, kl_8, kl_10, kl_12, kl_13, if_pos, if_neg, ↓reduceIte, eq_self, not_true_eq_false, not_false_eq_true, Nat.add_zero, Nat.or_zero, reduceCtorEq, or_true, true_or, or_false, false_or, decide_true, decide_false, kn_sub1, sb_m1, pk_sub, kW_ne, kW_at, kW_no, kA_ne, kA_eq, ite_self, and_self, true_and, and_true, lp_MD_be_89_94_2, show (1280 : Int32) = nI 1280 from rfl, g], rfl, fun q hq => ?_, fun c hc => ?_⟩
      · show (kbW ν 89 j (μ.1 94 j)).1 89 q = _
        by_cases e : q = j
        · subst e; exact kW_at
        · rw [kW_no e]; exact h1 q (by omega)
      · show (kbW ν 89 j (μ.1 94 j)).1 c = _
        rw [kW_ne hc]; exact h2 c hc)
    8 0 n (0, μ) (by omega) (by omega) ⟨rfl, fun q hq => absurd hq (by omega), fun _ _ => rfl⟩
  refine ⟨ν, ?_, hA, hB⟩
  unfold f_MD_be_89_94
  rw [show lp_MD_be_89_94_2 n n 0 μ = some ν from e, kn_bs]
theorem m_be_90 {n : Nat} (hn : 2000 ≤ n) (μ : kbM) : ∃ μ', f_MD_be_90_95 n μ = some μ' ∧ (∀ q, q < 8 → μ'.1 90 q = μ.1 95 q) ∧ ∀ c, c ≠ 90 → μ'.1 c = μ.1 c := by
  obtain ⟨ν, e, hA, hB⟩ := kn_for (fun k (s : Int32 × kbM) => lp_MD_be_90_95_2 n k s.1 s.2)
    (fun j s => s.1 = nI j ∧ (∀ q, q < j → s.2.1 90 q = μ.1 95 q) ∧ ∀ c, c ≠ 90 → s.2.1 c = μ.1 c) 8
    (fun ν => (∀ q, q < 8 → ν.1 90 q = μ.1 95 q) ∧ ∀ c, c ≠ 90 → ν.1 c = μ.1 c)
    (fun k s hs => by
      obtain ⟨v, ν⟩ := s
      simp only at hs
      obtain ⟨rfl, h1, h2⟩ := hs
      exact ⟨ν, by simp (disch := omega) only [kn_if_t, kn_bs, kn_or_l, kn_or_r, kn_inT, nI_clamp, nI_leI, nI_ltI, nI_eq, nI_add, pk_mul, nI_1, kn_eq0, kn_lt0, kn_le0, kn_0le, kn_div, kn_rem, kn_or, kn_and, kn_or0, kn_ad0, kn_shl1, kn_bitB, zBt, zBf, zB1t, zB1f, zB_01, zB_10, kl_2, kl_3, kl_4, kl_5, kl_6, kl_7, kl_8, kl_10, kl_12, kl_13, if_pos, if_neg, ↓reduceIte, eq_self, not_true_eq_false, not_false_eq_true, Nat.add_zero, Nat.or_zero, reduceCtorEq, or_true, true_or, or_false, false_or, decide_true, decide_false, kn_sub1, sb_m1, pk_sub, kW_ne, kW_at, kW_no, kA_ne, kA_eq, ite_self, and_self, true_and, and_true, lp_MD_be_90_95_2, show (1280 : Int32) = nI 1280 from rfl], h1, h2⟩)
    (fun k j s hj hs => by
      obtain ⟨v, ν⟩ := s
      simp only at hs
      obtain ⟨rfl, h1, h2⟩ := hs
      try simp only at h1 h2
      have g := h2 95 (by decide)
      refine Or.inr ⟨(nI (j + 1), kbW ν 90 j (μ.1 95 j)), by simp (disch := omega) only [kn_if_t, kn_bs, kn_or_l, kn_or_r, kn_inT, nI_clamp, nI_leI, nI_ltI, nI_eq, nI_add, pk_mul, nI_1, kn_eq0, kn_lt0, kn_le0, kn_0le, kn_div, kn_rem, kn_or, kn_and, kn_or0, kn_ad0, kn_shl1, kn_bitB, zBt, zBf, zB1t, zB1f, zB_01, zB_10, kl_2, kl_3, kl_4, kl_5, kl_6, kl_7, kl_8, kl_10, kl_12, kl_13, if_pos, if_neg, ↓reduceIte, eq_self, not_true_eq_false, not_false_eq_true, Nat.add_zero, Nat.or_zero, reduceCtorEq, or_true, true_or, or_false, false_or, decide_true, decide_false, kn_sub1, sb_m1, pk_sub, kW_ne, kW_at, kW_no, kA_ne, kA_eq, ite_self, and_self, true_and, and_true, lp_MD_be_90_95_2, show (1280 : Int32) = nI 1280 from rfl, g], rfl, fun q hq => ?_, fun c hc => ?_⟩
      · show (kbW ν 90 j (μ.1 95 j)).1 90 q = _
        by_cases e : q = j
        · subst e; exact kW_at
        · rw [kW_no e]; exact h1 q (by omega)
      · show (kbW ν 90 j (μ.1 95 j)).1 c = _
        rw [kW_ne hc]; exact h2 c hc)
    8 0 n (0, μ) (by omega) (by omega) ⟨rfl, fun q hq => absurd hq (by omega), fun _ _ => rfl⟩
  refine ⟨ν, ?_, hA, hB⟩
  unfold f_MD_be_90_95
  rw [show lp_MD_be_90_95_2 n n 0 μ = some ν from e, kn_bs]
theorem m_be_68 {n : Nat} (hn : 2000 ≤ n) (μ : kbM) : ∃ μ', f_MD_be_68_96 n μ = some μ' ∧ (∀ q, q < 3 → μ'.1 68 q = μ.1 96 q) ∧ ∀ c, c ≠ 68 → μ'.1 c = μ.1 c := by
  obtain ⟨ν, e, hA, hB⟩ := kn_for (fun k (s : Int32 × kbM) => lp_MD_be_68_96_2 n k s.1 s.2)
    (fun j s => s.1 = nI j ∧ (∀ q, q < j → s.2.1 68 q = μ.1 96 q) ∧ ∀ c, c ≠ 68 → s.2.1 c = μ.1 c) 3
    (fun ν => (∀ q, q < 3 → ν.1 68 q = μ.1 96 q) ∧ ∀ c, c ≠ 68 → ν.1 c = μ.1 c)
    (fun k s hs => by
      obtain ⟨v, ν⟩ := s
      simp only at hs
      obtain ⟨rfl, h1, h2⟩ := hs
      exact ⟨ν, by simp (disch := omega) only [kn_if_t, kn_bs, kn_or_l, kn_or_r, kn_inT, nI_clamp, nI_leI, nI_ltI, nI_eq, nI_add, pk_mul, nI_1, kn_eq0, kn_lt0, kn_le0, kn_0le, kn_div, kn_rem, kn_or, kn_and, kn_or0, kn_ad0, kn_shl1, kn_bitB, zBt, zBf, zB1t, zB1f, zB_01, zB_10, kl_2, kl_3, kl_4, kl_5, kl_6, kl_7, kl_8, kl_10, kl_12, kl_13, if_pos, if_neg, ↓reduceIte, eq_self, not_true_eq_false, not_false_eq_true, Nat.add_zero, Nat.or_zero, reduceCtorEq, or_true, true_or, or_false, false_or, decide_true, decide_false, kn_sub1, sb_m1, pk_sub, kW_ne, kW_at, kW_no, kA_ne, kA_eq, ite_self, and_self, true_and, and_true, lp_MD_be_68_96_2, show (1280 : Int32) = nI 1280 from rfl], h1, h2⟩)
    (fun k j s hj hs => by
      obtain ⟨v, ν⟩ := s
      simp only at hs
      obtain ⟨rfl, h1, h2⟩ := hs
      try simp only at h1 h2
      have g := h2 96 (by decide)
      refine Or.inr ⟨(nI (j + 1), kbW ν 68 j (μ.1 96 j)), by simp (disch := omega) only [kn_if_t, kn_bs, kn_or_l, kn_or_r, kn_inT, nI_clamp, nI_leI, nI_ltI, nI_eq, nI_add, pk_mul, nI_1, kn_eq0, kn_lt0, kn_le0, kn_0le, kn_div, kn_rem, kn_or, kn_and, kn_or0, kn_ad0, kn_shl1, kn_bitB, zBt, zBf, zB1t, zB1f, zB_01, zB_10, kl_2, kl_3, kl_4, kl_5, kl_6, kl_7, kl_8, kl_10, kl_12, kl_13, if_pos, if_neg, ↓reduceIte, eq_self, not_true_eq_false, not_false_eq_true, Nat.add_zero, Nat.or_zero, reduceCtorEq, or_true, true_or, or_false, false_or, decide_true, decide_false, kn_sub1, sb_m1, pk_sub, kW_ne, kW_at, kW_no, kA_ne, kA_eq, ite_self, and_self, true_and, and_true, lp_MD_be_68_96_2, show (1280 : Int32) = nI 1280 from rfl, g], rfl, fun q hq => ?_, fun c hc => ?_⟩
      · show (kbW ν 68 j (μ.1 96 j)).1 68 q = _
        by_cases e : q = j
        · subst e; exact kW_at
        · rw [kW_no e]; exact h1 q (by omega)
      · show (kbW ν 68 j (μ.1 96 j)).1 c = _
        rw [kW_ne hc]; exact h2 c hc)
    3 0 n (0, μ) (by omega) (by omega) ⟨rfl, fun q hq => absurd hq (by omega), fun _ _ => rfl⟩
  refine ⟨ν, ?_, hA, hB⟩
  unfold f_MD_be_68_96
  rw [show lp_MD_be_68_96_2 n n 0 μ = some ν from e, kn_bs]
theorem mPast.copy {μ μ' : kbM} {c c' : Nat} {G : List (zAct × zSt)} (hG : G.length ≤ 40) (hl : ∀ q ∈ G, q.2.1.length ≤ 10) (h : ∀ q, q < 1280 → μ'.1 c' q = μ.1 c q) (q : mPast μ c G) : mPast μ' c' G := by
  intro i hi z hz
  exact (q i hi z hz).congr (hl z (List.mem_of_getElem? hz)) (fun j hj => h _ (by omega))
theorem cHeard.copy {μ μ' : kbM} {a b a' b' : Nat} {T : List (Nat × Nat)} (hT : T.length ≤ 8) (h1 : ∀ q, q < 8 → μ'.1 a' q = μ.1 a q) (h2 : ∀ q, q < 8 → μ'.1 b' q = μ.1 b q) (q : cHeard μ a b T) : cHeard μ' a' b' T := by
  intro i hi
  rw [h1 i (by omega), h2 i (by omega)]; exact q i hi
theorem zSesOk.past {d : Nat} {e : zSes} (h : zSesOk d e) : ∀ q ∈ e.2.1, q.2.1.length ≤ 10 := fun q hq => (h.2.2.1 q hq).1.1
theorem op_33 {n : Nat} (hn : 5000 ≤ n) {μ : kbM} (hI : kbInv μ) : ∃ μ', c_law_33 n μ = some μ' ∧ kbInv μ' := by
  obtain ⟨A, hA, hC, hM⟩ := hI
  have hs := hA.1
  obtain ⟨x, ex, c1, c2, c3, c4, c5, c6, c7, c8, c9⟩ := st_copy_22 μ
  have h1 : f_KB_image μ = some (kbW x 0 10 1) := by unfold f_KB_image; rw [ex, kn_bs]
  have f1 := fr_f_KB_image h1
  have hM0 := hM.fr f1 (by decide) (by decide)
  have hC1 : rC (kbW x 0 10 1) (A.1, some A.1, A.2.2) := by
    obtain ⟨r1, r2, r3, r4, r5, r6, r7, r8⟩ := hC
    have g : ∀ c, c ≠ 0 → ¬ (22 ≤ c ∧ c ≤ 31) → (kbW x 0 10 1).1 c = μ.1 c := fun c h0 h2 => by rw [kW_ne h0]; exact c9 c h2
    refine ⟨cSes.congr (fun c hc => g c (by revert c; decide) (by revert c; decide)) r1, by rw [kW_at]; rfl, fun e he => ?_, ?_, ?_, ?_, ?_, ?_⟩
    · cases he
      refine cSes.copy (o := 12) (μ := μ) hs.1.1.1 hs.2.1 hs.2.2.2.2.1 ?_ ?_ ?_ ?_ ?_ ?_ ?_ ?_ r1
      · rw [kW_ne (by decide)]; exact c1
      · intro i hi; rw [kW_ne (by decide), kW_ne (by decide), kW_ne (by decide), kW_ne (by decide)]; exact c2 i hi
      · intro i hi; rw [kW_ne (by decide)]; exact c3 i hi
      · intro i hi; rw [kW_ne (by decide), kW_ne (by decide)]; exact c4 i hi
      · intro i hi; rw [kW_ne (by decide)]; exact c5 i hi
      · rw [kW_ne (by decide)]; exact c6
      · rw [kW_ne (by decide)]; exact c7
      · rw [kW_ne (by decide)]; exact c8
    · unfold cDoors at r4 ⊢; rw [g 32 (by decide) (by decide), g 33 (by decide) (by decide), g 34 (by decide) (by decide)]; exact r4
    · unfold cCode at r5 ⊢; rw [g 35 (by decide) (by decide), g 36 (by decide) (by decide)]; exact r5
    · unfold cKnown at r6 ⊢; rw [g 38 (by decide) (by decide)]; exact r6
    · unfold cTape at r7 ⊢; rw [g 1 (by decide) (by decide), g 2 (by decide) (by decide)]; exact r7
    · rw [g 1 (by decide) (by decide)]; exact r8
  obtain ⟨r1, r2, r3, r4, r5, r6, r7⟩ := hM0
  obtain ⟨s1, s2, s3, s4, s5, s6, s7⟩ := r1
  -- the model
  obtain ⟨y1, e1, p1, q1, q1'⟩ := m_pack_92 (n := n) (by omega) (μ := kbW (kbW (kbW (kbW (kbW x 0 10 1) 57 3 0) 57 52 1) 57 53 (nI A.1.2.1.length)) 57 54 (nI A.1.2.2.1.length)) (W := A.1.1.1) (w := A.1.1.2) (o := 0) (s1.cg (by simp (disch := omega) only [kn_if_t, kn_bs, kn_or_l, kn_or_r, kn_inT, nI_clamp, nI_leI, nI_ltI, nI_eq, nI_add, pk_mul, nI_1, kn_eq0, kn_lt0, kn_le0, kn_0le, kn_div, kn_rem, kn_or, kn_and, kn_or0, kn_ad0, kn_shl1, kn_bitB, zBt, zBf, zB1t, zB1f, zB_01, zB_10, kl_2, kl_3, kl_4, kl_5, kl_6, kl_7, kl_8, kl_10, kl_12, kl_13, if_pos, if_neg, ↓reduceIte, eq_self, not_true_eq_false, not_false_eq_true, Nat.add_zero, Nat.or_zero, reduceCtorEq, or_true, true_or, or_false, false_or, decide_true, decide_false, kn_sub1, sb_m1, pk_sub, kW_ne, kW_at, kW_no, kA_ne, kA_eq, ite_self, and_self, true_and, and_true]) (fun c hc => by rw [kW_ne (by revert c; decide), kW_ne (by revert c; decide), kW_ne (by revert c; decide), kW_ne (by revert c; decide)])) hs.1.1.1 (by simp (disch := omega) only [kn_if_t, kn_bs, kn_or_l, kn_or_r, kn_inT, nI_clamp, nI_leI, nI_ltI, nI_eq, nI_add, pk_mul, nI_1, kn_eq0, kn_lt0, kn_le0, kn_0le, kn_div, kn_rem, kn_or, kn_and, kn_or0, kn_ad0, kn_shl1, kn_bitB, zBt, zBf, zB1t, zB1f, zB_01, zB_10, kl_2, kl_3, kl_4, kl_5, kl_6, kl_7, kl_8, kl_10, kl_12, kl_13, if_pos, if_neg, ↓reduceIte, eq_self, not_true_eq_false, not_false_eq_true, Nat.add_zero, Nat.or_zero, reduceCtorEq, or_true, true_or, or_false, false_or, decide_true, decide_false, kn_sub1, sb_m1, pk_sub, kW_ne, kW_at, kW_no, kA_ne, kA_eq, ite_self, and_self, true_and, and_true]; exact s2) (by decide)
  obtain ⟨y2, e2, p2, q2⟩ := m_be_93 (n := n) (by omega) y1
  obtain ⟨y3, e3, p3, q3⟩ := m_be_94 (n := n) (by omega) y2
  obtain ⟨y4, e4, p4, q4⟩ := m_be_95 (n := n) (by omega) y3
  obtain ⟨y5, e5, p5, q5⟩ := m_be_96 (n := n) (by omega) y4
  have h2 : f_MD_image n (kbW x 0 10 1) = some y5 := by
    have s3' : (kbW (kbW (kbW x 0 10 1) 57 3 0) 57 52 1).1 57 29 = nI A.1.2.1.length := by simp (disch := omega) only [kn_if_t, kn_bs, kn_or_l, kn_or_r, kn_inT, nI_clamp, nI_leI, nI_ltI, nI_eq, nI_add, pk_mul, nI_1, kn_eq0, kn_lt0, kn_le0, kn_0le, kn_div, kn_rem, kn_or, kn_and, kn_or0, kn_ad0, kn_shl1, kn_bitB, zBt, zBf, zB1t, zB1f, zB_01, zB_10, kl_2, kl_3, kl_4, kl_5, kl_6, kl_7, kl_8, kl_10, kl_12, kl_13, if_pos, if_neg, ↓reduceIte, eq_self, not_true_eq_false, not_false_eq_true, Nat.add_zero, Nat.or_zero, reduceCtorEq, or_true, true_or, or_false, false_or, decide_true, decide_false, kn_sub1, sb_m1, pk_sub, kW_ne, kW_at, kW_no, kA_ne, kA_eq, ite_self, and_self, true_and, and_true]; exact s3
    have s4' : (kbW (kbW (kbW (kbW x 0 10 1) 57 3 0) 57 52 1) 57 53 (nI A.1.2.1.length)).1 57 30 = nI A.1.2.2.1.length := by simp (disch := omega) only [kn_if_t, kn_bs, kn_or_l, kn_or_r, kn_inT, nI_clamp, nI_leI, nI_ltI, nI_eq, nI_add, pk_mul, nI_1, kn_eq0, kn_lt0, kn_le0, kn_0le, kn_div, kn_rem, kn_or, kn_and, kn_or0, kn_ad0, kn_shl1, kn_bitB, zBt, zBf, zB1t, zB1f, zB_01, zB_10, kl_2, kl_3, kl_4, kl_5, kl_6, kl_7, kl_8, kl_10, kl_12, kl_13, if_pos, if_neg, ↓reduceIte, eq_self, not_true_eq_false, not_false_eq_true, Nat.add_zero, Nat.or_zero, reduceCtorEq, or_true, true_or, or_false, false_or, decide_true, decide_false, kn_sub1, sb_m1, pk_sub, kW_ne, kW_at, kW_no, kA_ne, kA_eq, ite_self, and_self, true_and, and_true]; exact s4
    unfold f_MD_image
    have e1' : f_MD_pack_92 n 0 (kbW (kbW (kbW (kbW (kbW x 0 10 1) 57 3 0) 57 52 1) 57 53 (nI A.1.2.1.length)) 57 54 (nI A.1.2.2.1.length)) = some y1 := e1
    rw [s3', s4', e1', kn_bs, e2, kn_bs, e3, kn_bs, e4, kn_bs, e5, kn_bs]
  have f2 := fr_f_MD_image h2
  refine ⟨y5, ?_, (A.1, some A.1, A.2.2), ⟨hA.1, fun e he => ?_, hA.2.2⟩, hC1.fr f2 (by decide) (by decide), ?_⟩
  · unfold c_law_33
    rw [h1, kn_bs, h2, kn_bs]
  · cases he; exact hA.1
  · have g : ∀ c, c ≠ 57 → c ≠ 92 → c ≠ 93 → c ≠ 94 → c ≠ 95 → c ≠ 96 → y5.1 c = (kbW x 0 10 1).1 c := fun c a1 a2 a3 a4 a5 a6 => by
      rw [q5 c a6, q4 c a5, q3 c a4, q2 c a3, q1 c a2, kW_ne a1, kW_ne a1, kW_ne a1, kW_ne a1]
    have g7 : ∀ k, y5.1 57 k = (kbW (kbW (kbW (kbW (kbW x 0 10 1) 57 3 0) 57 52 1) 57 53 (nI A.1.2.1.length)) 57 54 (nI A.1.2.2.1.length)).1 57 k := fun k => by
      rw [q5 57 (by decide), q4 57 (by decide), q3 57 (by decide), q2 57 (by decide), q1 57 (by decide)]
    have g8 : ∀ k, k ≠ 3 → k ≠ 52 → k ≠ 53 → k ≠ 54 → y5.1 57 k = (kbW x 0 10 1).1 57 k := fun k a1 a2 a3 a4 => by
      rw [g7, kW_no a4, kW_no a3, kW_no a2, kW_no a1]
    refine ⟨⟨s1.cg (g8 27 (by decide) (by decide) (by decide) (by decide)) (fun c hc => g c (by revert c; decide) (by revert c; decide) (by revert c; decide) (by revert c; decide) (by revert c; decide) (by revert c; decide)), ?_, ?_, ?_, ?_, ?_, ?_⟩, ?_, fun e he => ?_, ?_, ?_, ?_, ?_⟩
    · rw [g8 28 (by decide) (by decide) (by decide) (by decide)]; exact s2
    · rw [g8 29 (by decide) (by decide) (by decide) (by decide)]; exact s3
    · rw [g8 30 (by decide) (by decide) (by decide) (by decide)]; exact s4
    · unfold mPast mPack at s5 ⊢; rw [g 73 (by decide) (by decide) (by decide) (by decide) (by decide) (by decide)]; exact s5
    · unfold cHeard at s6 ⊢; rw [g 89 (by decide) (by decide) (by decide) (by decide) (by decide) (by decide), g 90 (by decide) (by decide) (by decide) (by decide) (by decide) (by decide)]; exact s6
    · rw [g 68 (by decide) (by decide) (by decide) (by decide) (by decide) (by decide)]; exact s7
    · rw [g7, kW_no (by decide), kW_no (by decide), kW_at]; rfl
    · cases he
      refine ⟨p1.congr hs.1.1.1 (fun j hj => by rw [q5 92 (by decide), q4 92 (by decide), q3 92 (by decide), q2 92 (by decide)]), by rw [g7, kW_no (by decide), kW_at], by rw [g7, kW_at], ?_, ?_, ?_⟩
      · refine s5.copy hs.2.1 hs.past (fun q hq => ?_)
        rw [q5 93 (by decide), q4 93 (by decide), q3 93 (by decide), p2 q hq, q1 73 (by decide), kW_ne (by decide), kW_ne (by decide), kW_ne (by decide), kW_ne (by decide)]
      · refine s6.copy hs.2.2.2.2.1 (fun q hq => ?_) (fun q hq => ?_)
        · rw [q5 94 (by decide), q4 94 (by decide), p3 q hq, q2 89 (by decide), q1 89 (by decide), kW_ne (by decide), kW_ne (by decide), kW_ne (by decide), kW_ne (by decide)]
        · rw [q5 95 (by decide), p4 q hq, q3 90 (by decide), q2 90 (by decide), q1 90 (by decide), kW_ne (by decide), kW_ne (by decide), kW_ne (by decide), kW_ne (by decide)]
      · intro i hi
        rw [p5 i hi, q4 68 (by decide), q3 68 (by decide), q2 68 (by decide), q1 68 (by decide), kW_ne (by decide), kW_ne (by decide), kW_ne (by decide), kW_ne (by decide)]
        exact s7 i hi
    · unfold mDoors at r4 ⊢; rw [g 61 (by decide) (by decide) (by decide) (by decide) (by decide) (by decide), g 65 (by decide) (by decide) (by decide) (by decide) (by decide) (by decide), g 66 (by decide) (by decide) (by decide) (by decide) (by decide) (by decide)]; exact r4
    · unfold mCode at r5 ⊢; rw [g 61 (by decide) (by decide) (by decide) (by decide) (by decide) (by decide), g 67 (by decide) (by decide) (by decide) (by decide) (by decide) (by decide)]; exact r5
    · unfold mTape at r6 ⊢; rw [g8 13 (by decide) (by decide) (by decide) (by decide), g 69 (by decide) (by decide) (by decide) (by decide) (by decide) (by decide)]; exact r6
    · rw [g8 22 (by decide) (by decide) (by decide) (by decide)]; exact r7
