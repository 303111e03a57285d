/-! WHAT DOORS HEAR OF WORDS: count, word, door, which, listen -/
theorem zAll_fold (p : Nat → Bool) : ∀ c, zFold (fun i (s : Bool) => s && p i) true c = zAll p c := by
  intro c
  induction c with
  | zero => rfl
  | succ c ih => simp only [zFold, zAll, ih]
def zCanB (W : zW) (D : List (Nat × Nat)) (d i : Nat) : Bool := zCan (zHand D d) (zRowAt W i)
def zWordsOf (W : zW) (D : List (Nat × Nat)) (d : Nat) : Nat := zOr (fun i => zCanB W D d i) W.length
def zDoorsOf (W : zW) (D : List (Nat × Nat)) (i : Nat) : Nat := zOr (fun d => zCanB W D d i) D.length
theorem c_wordsOf {n : Nat} (hn : 100 ≤ n) {μ : kbM} {W : zW} {D : List (Nat × Nat)} {w : Nat} (h : hOk W D w) (hc : cH μ W D w) {d : Nat} (hd : d < D.length) : f_HO_wordsOfHand n (nI d) μ = some (nI (zWordsOf W D d)) := by
  have h10 := h.l10
  have e : lp_HO_wordsOfHand_4 n (nI d) μ n 0 0 = some (nI (zWordsOf W D d)) := kn_loop (fun k (s : Nat) i => lp_HO_wordsOfHand_4 n (nI d) μ k (nI s) (nI i)) (fun i a => a ||| (if zCanB W D d i = true then 2 ^ i else 0)) 0 W.length (nI (zWordsOf W D d))
    (fun k => by simp (disch := omega) only [kn_if_t, kn_bs, kn_or_l, kn_or_r, kn_inT, nI_clamp, nI_leI, nI_ltI, nI_eq, nI_add, pk_mul, nI_1, kn_eq0, kn_lt0, kn_le0, kn_0le, kn_div, kn_rem, kn_or, kn_and, kn_or0, kn_ad0, kn_shl1, kn_bitB, zBt, zBf, zB1t, zB1f, zB_01, zB_10, kl_2, kl_3, kl_4, kl_5, kl_6, kl_7, kl_8, kl_10, kl_12, kl_13, if_pos, if_neg, ↓reduceIte, eq_self, not_true_eq_false, not_false_eq_true, Nat.add_zero, Nat.or_zero, reduceCtorEq, or_true, true_or, or_false, false_or, decide_true, decide_false, kn_sub1, sb_m1, pk_sub, kW_ne, kW_at, kW_no, kA_ne, kA_eq, ite_self, and_self, true_and, and_true, lp_HO_wordsOfHand_4, hc.1.1] <;> rfl)
    (fun k i hi => by
      have q := c_can (n := n) (by omega) h hc hd hi
      cases hp : zCanB W D d i <;> (unfold zCanB at hp; simp (disch := omega) only [kn_if_t, kn_bs, kn_or_l, kn_or_r, kn_inT, nI_clamp, nI_leI, nI_ltI, nI_eq, nI_add, pk_mul, nI_1, kn_eq0, kn_lt0, kn_le0, kn_0le, kn_div, kn_rem, kn_or, kn_and, kn_or0, kn_ad0, kn_shl1, kn_bitB, zBt, zBf, zB1t, zB1f, zB_01, zB_10, kl_2, kl_3, kl_4, kl_5, kl_6, kl_7, kl_8, kl_10, kl_12, kl_13, if_pos, if_neg, ↓reduceIte, eq_self, not_true_eq_false, not_false_eq_true, Nat.add_zero, Nat.or_zero, reduceCtorEq, or_true, true_or, or_false, false_or, decide_true, decide_false, kn_sub1, sb_m1, pk_sub, kW_ne, kW_at, kW_no, kA_ne, kA_eq, ite_self, and_self, true_and, and_true, lp_HO_wordsOfHand_4, jn_HO_wordsOfHand_32, hc.1.1, q, hp, zCanB, Bool.false_eq_true])) W.length 0 n (by omega) (by omega)
  unfold f_HO_wordsOfHand
  rw [e, kn_bs]
theorem m_wordsOf {n : Nat} (hn : 100 ≤ n) {μ : kbM} {W : zW} {D : List (Nat × Nat)} {w : Nat} (h : hOk W D w) (hc : mH μ W D w) {d : Nat} (hd : d < D.length) : f_MD_wordsOf n (nI d) μ = some (nI (zWordsOf W D d)) := by
  have h10 := h.l10
  have h6 := h.l6
  have e : lp_MD_wordsOf_4 n (nI d) μ n 0 0 = some (nI (zWordsOf W D d)) := kn_loop (fun k (s : Nat) i => lp_MD_wordsOf_4 n (nI d) μ k (nI s) (nI i)) (fun i a => a ||| (if zCanB W D d i = true then 2 ^ i else 0)) 0 W.length (nI (zWordsOf W D d))
    (fun k => by simp (disch := omega) only [kn_if_t, kn_bs, kn_or_l, kn_or_r, kn_inT, nI_clamp, nI_leI, nI_ltI, nI_eq, nI_add, pk_mul, nI_1, kn_eq0, kn_lt0, kn_le0, kn_0le, kn_div, kn_rem, kn_or, kn_and, kn_or0, kn_ad0, kn_shl1, kn_bitB, zBt, zBf, zB1t, zB1f, zB_01, zB_10, kl_2, kl_3, kl_4, kl_5, kl_6, kl_7, kl_8, kl_10, kl_12, kl_13, if_pos, if_neg, ↓reduceIte, eq_self, not_true_eq_false, not_false_eq_true, Nat.add_zero, Nat.or_zero, reduceCtorEq, or_true, true_or, or_false, false_or, decide_true, decide_false, kn_sub1, sb_m1, pk_sub, kW_ne, kW_at, kW_no, kA_ne, kA_eq, ite_self, and_self, true_and, and_true, lp_MD_wordsOf_4, hc.1.1] <;> rfl)
    (fun k i hi => by
      have q := m_can (n := n) (by omega) h hd hi
      cases hp : zCanB W D d i <;> (unfold zCanB at hp; simp (disch := omega) only [kn_if_t, kn_bs, kn_or_l, kn_or_r, kn_inT, nI_clamp, nI_leI, nI_ltI, nI_eq, nI_add, pk_mul, nI_1, kn_eq0, kn_lt0, kn_le0, kn_0le, kn_div, kn_rem, kn_or, kn_and, kn_or0, kn_ad0, kn_shl1, kn_bitB, zBt, zBf, zB1t, zB1f, zB_01, zB_10, kl_2, kl_3, kl_4, kl_5, kl_6, kl_7, kl_8, kl_10, kl_12, kl_13, if_pos, if_neg, ↓reduceIte, eq_self, not_true_eq_false, not_false_eq_true, Nat.add_zero, Nat.or_zero, reduceCtorEq, or_true, true_or, or_false, false_or, decide_true, decide_false, kn_sub1, sb_m1, pk_sub, kW_ne, kW_at, kW_no, kA_ne, kA_eq, ite_self, and_self, true_and, and_true, lp_MD_wordsOf_4, jn_MD_wordsOf_38, hc.1.1, (hc.2.1.2 d hd).2, (hc.1.2 i hi).1, q, hp, zCanB, Bool.false_eq_true])) W.length 0 n (by omega) (by omega)
  unfold f_MD_wordsOf
  rw [e, kn_bs]
theorem c_doorsOf {n : Nat} (hn : 100 ≤ n) {μ : kbM} {W : zW} {D : List (Nat × Nat)} {w : Nat} (h : hOk W D w) (hc : cH μ W D w) {i : Nat} (hi : i < W.length) : f_HO_doorsThatCan n (nI i) μ = some (nI (zDoorsOf W D i)) := by
  have h10 := h.l10
  have h6 := h.l6
  have e : lp_HO_doorsThatCan_4 n (nI i) μ n 0 0 = some (nI (zDoorsOf W D i)) := kn_loop (fun k (s : Nat) d => lp_HO_doorsThatCan_4 n (nI i) μ k (nI s) (nI d)) (fun d a => a ||| (if zCanB W D d i = true then 2 ^ d else 0)) 0 D.length (nI (zDoorsOf W D i))
    (fun k => by simp (disch := omega) only [kn_if_t, kn_bs, kn_or_l, kn_or_r, kn_inT, nI_clamp, nI_leI, nI_ltI, nI_eq, nI_add, pk_mul, nI_1, kn_eq0, kn_lt0, kn_le0, kn_0le, kn_div, kn_rem, kn_or, kn_and, kn_or0, kn_ad0, kn_shl1, kn_bitB, zBt, zBf, zB1t, zB1f, zB_01, zB_10, kl_2, kl_3, kl_4, kl_5, kl_6, kl_7, kl_8, kl_10, kl_12, kl_13, if_pos, if_neg, ↓reduceIte, eq_self, not_true_eq_false, not_false_eq_true, Nat.add_zero, Nat.or_zero, reduceCtorEq, or_true, true_or, or_false, false_or, decide_true, decide_false, kn_sub1, sb_m1, pk_sub, kW_ne, kW_at, kW_no, kA_ne, kA_eq, ite_self, and_self, true_and, and_true, lp_HO_doorsThatCan_4, hc.2.1.1] <;> rfl)
    (fun k d hd => by
      have q := c_can (n := n) (by omega) h hc hd hi
      cases hp : zCanB W D d i <;> (unfold zCanB at hp; simp (disch := omega) only [kn_if_t, kn_bs, kn_or_l, kn_or_r, kn_inT, nI_clamp, nI_leI, nI_ltI, nI_eq, nI_add, pk_mul, nI_1, kn_eq0, kn_lt0, kn_le0, kn_0le, kn_div, kn_rem, kn_or, kn_and, kn_or0, kn_ad0, kn_shl1, kn_bitB, zBt, zBf, zB1t, zB1f, zB_01, zB_10, kl_2, kl_3, kl_4, kl_5, kl_6, kl_7, kl_8, kl_10, kl_12, kl_13, if_pos, if_neg, ↓reduceIte, eq_self, not_true_eq_false, not_false_eq_true, Nat.add_zero, Nat.or_zero, reduceCtorEq, or_true, true_or, or_false, false_or, decide_true, decide_false, kn_sub1, sb_m1, pk_sub, kW_ne, kW_at, kW_no, kA_ne, kA_eq, ite_self, and_self, true_and, and_true, lp_HO_doorsThatCan_4, jn_HO_doorsThatCan_32, hc.2.1.1, q, hp, zCanB, Bool.false_eq_true])) D.length 0 n (by omega) (by omega)
  unfold f_HO_doorsThatCan
  rw [e, kn_bs]
theorem m_doorsOf {n : Nat} (hn : 100 ≤ n) (z : Int32) {μ : kbM} {W : zW} {D : List (Nat × Nat)} {w : Nat} (h : hOk W D w) (hc : mH μ W D w) {i : Nat} (hi : i < W.length) : lp_MD_word_36 n (nI i) z μ n 0 0 = some (nI (zDoorsOf W D i)) := by
  have h10 := h.l10
  have h6 := h.l6
  exact kn_loop (fun k (s : Nat) d => lp_MD_word_36 n (nI i) z μ k (nI s) (nI d)) (fun d a => a ||| (if zCanB W D d i = true then 2 ^ d else 0)) 0 D.length (nI (zDoorsOf W D i))
    (fun k => by simp (disch := omega) only [kn_if_t, kn_bs, kn_or_l, kn_or_r, kn_inT, nI_clamp, nI_leI, nI_ltI, nI_eq, nI_add, pk_mul, nI_1, kn_eq0, kn_lt0, kn_le0, kn_0le, kn_div, kn_rem, kn_or, kn_and, kn_or0, kn_ad0, kn_shl1, kn_bitB, zBt, zBf, zB1t, zB1f, zB_01, zB_10, kl_2, kl_3, kl_4, kl_5, kl_6, kl_7, kl_8, kl_10, kl_12, kl_13, if_pos, if_neg, ↓reduceIte, eq_self, not_true_eq_false, not_false_eq_true, Nat.add_zero, Nat.or_zero, reduceCtorEq, or_true, true_or, or_false, false_or, decide_true, decide_false, kn_sub1, sb_m1, pk_sub, kW_ne, kW_at, kW_no, kA_ne, kA_eq, ite_self, and_self, true_and, and_true, lp_MD_word_36, hc.2.1.1] <;> rfl)
    (fun k d hd => by
      have q := m_can (n := n) (by omega) h hd hi
      cases hp : zCanB W D d i <;> (unfold zCanB at hp; simp (disch := omega) only [kn_if_t, kn_bs, kn_or_l, kn_or_r, kn_inT, nI_clamp, nI_leI, nI_ltI, nI_eq, nI_add, pk_mul, nI_1, kn_eq0, kn_lt0, kn_le0, kn_0le, kn_div, kn_rem, kn_or, kn_and, kn_or0, kn_ad0, kn_shl1, kn_bitB, zBt, zBf, zB1t, zB1f, zB_01, zB_10, kl_2, kl_3, kl_4, kl_5, kl_6, kl_7, kl_8, kl_10, kl_12, kl_13, if_pos, if_neg, ↓reduceIte, eq_self, not_true_eq_false, not_false_eq_true, Nat.add_zero, Nat.or_zero, reduceCtorEq, or_true, true_or, or_false, false_or, decide_true, decide_false, kn_sub1, sb_m1, pk_sub, kW_ne, kW_at, kW_no, kA_ne, kA_eq, ite_self, and_self, true_and, and_true, lp_MD_word_36, jn_MD_word_75, hc.2.1.1, (hc.2.1.2 d hd).2, (hc.1.2 i hi).1, q, hp, zCanB, Bool.false_eq_true])) D.length 0 n (by omega) (by omega)
/-! hearing all words at a door -/
def cEar (μ : kbM) (W : zW) (D : List (Nat × Nat)) (w d : Nat) : Prop := ∀ i, i < W.length → μ.1 52 (d * 10 + i) = nI (zHr D w d (zRowAt W i))
theorem c_hearWords {n : Nat} (hn : 100 ≤ n) {μ : kbM} {W : zW} {D : List (Nat × Nat)} {w : Nat} (h : hOk W D w) (hc : cH μ W D w) {d : Nat} (hd : d < D.length) : ∃ μ', f_HO_hearWords n (nI d) μ = some μ' ∧ cH μ' W D w ∧ cEar μ' W D w d ∧ ∀ d', d' ≠ d → cEar μ W D w d' → cEar μ' W D w d' := by
  have h10 := h.l10
  have h6 := h.l6
  have key := kn_for (fun k (s : Int32 × kbM) => lp_HO_hearWords_2 n (nI d) k s.1 s.2) (fun i s => s.1 = nI i ∧ cH s.2 W D w ∧ (∀ j, j < i → s.2.1 52 (d * 10 + j) = nI (zHr D w d (zRowAt W j))) ∧ ∀ d', d' ≠ d → cEar μ W D w d' → cEar s.2 W D w d') W.length
    (fun r => cH r W D w ∧ cEar r W D w d ∧ ∀ d', d' ≠ d → cEar μ W D w d' → cEar r W D w d')
    (fun k s hs => by
      obtain ⟨v, ν⟩ := s
      simp only at hs
      obtain ⟨rfl, h1, h2, h3⟩ := hs
      exact ⟨ν, by simp (disch := omega) only [kn_if_t, kn_bs, kn_or_l, kn_or_r, kn_inT, nI_clamp, nI_leI, nI_ltI, nI_eq, nI_add, pk_mul, nI_1, kn_eq0, kn_lt0, kn_le0, kn_0le, kn_div, kn_rem, kn_or, kn_and, kn_or0, kn_ad0, kn_shl1, kn_bitB, zBt, zBf, zB1t, zB1f, zB_01, zB_10, kl_2, kl_3, kl_4, kl_5, kl_6, kl_7, kl_8, kl_10, kl_12, kl_13, if_pos, if_neg, ↓reduceIte, eq_self, not_true_eq_false, not_false_eq_true, Nat.add_zero, Nat.or_zero, reduceCtorEq, or_true, true_or, or_false, false_or, decide_true, decide_false, kn_sub1, sb_m1, pk_sub, kW_ne, kW_at, kW_no, kA_ne, kA_eq, ite_self, and_self, true_and, and_true, lp_HO_hearWords_2, h1.1.1], h1, h2, h3⟩)
    (fun k i s hi hs => by
      obtain ⟨v, ν⟩ := s
      simp only at hs
      obtain ⟨rfl, h1, h2, h3⟩ := hs
      try simp only at h1 h2 h3
      have q := c_hr (n := n) (by omega) h h1 hd (h.row hi)
      refine Or.inr ⟨(nI (i + 1), kbW ν 52 (d * 10 + i) (nI (zHr D w d (zRowAt W i)))), by simp (disch := omega) only [kn_if_t, kn_bs, kn_or_l, kn_or_r, kn_inT, nI_clamp, nI_leI, nI_ltI, nI_eq, nI_add, pk_mul, nI_1, kn_eq0, kn_lt0, kn_le0, kn_0le, kn_div, kn_rem, kn_or, kn_and, kn_or0, kn_ad0, kn_shl1, kn_bitB, zBt, zBf, zB1t, zB1f, zB_01, zB_10, kl_2, kl_3, kl_4, kl_5, kl_6, kl_7, kl_8, kl_10, kl_12, kl_13, if_pos, if_neg, ↓reduceIte, eq_self, not_true_eq_false, not_false_eq_true, Nat.add_zero, Nat.or_zero, reduceCtorEq, or_true, true_or, or_false, false_or, decide_true, decide_false, kn_sub1, sb_m1, pk_sub, kW_ne, kW_at, kW_no, kA_ne, kA_eq, ite_self, and_self, true_and, and_true, lp_HO_hearWords_2, h1.1.1, (h1.1.2 i hi).1, q], rfl, ?_, ?_, ?_⟩
      · exact h1.congr fun a ha => kW_ne (by revert a; decide)
      · intro j hj
        by_cases e : j = i
        · subst e; exact kW_at
        · rw [kW_no (by omega)]; exact h2 j (by omega)
      · intro d' hd' hE j hj
        rw [kW_no (by omega)]; exact h3 d' hd' hE j hj)
    W.length 0 n (0, μ) (by omega) (by omega) ⟨rfl, hc, fun j hj => absurd hj (by omega), fun _ _ q => q⟩
  obtain ⟨r, e, h1⟩ := key
  refine ⟨r, ?_, h1⟩
  unfold f_HO_hearWords
  rw [show lp_HO_hearWords_2 n (nI d) n 0 μ = some r from e, kn_bs]
theorem c_alike {μ : kbM} {W : zW} {D : List (Nat × Nat)} {w : Nat} (h : hOk W D w) {d a b : Nat} (hE : cEar μ W D w d) (hd : d < D.length) (ha : a < W.length) (hb : b < W.length) : f_HO_soundsAlike (nI d) (nI a) (nI b) μ = some (zB (zHr D w d (zRowAt W a) == zHr D w d (zRowAt W b))) := by
  have h10 := h.l10
  have h6 := h.l6
  have h1 := h.hr d ha
  have h2 := h.hr d hb
  by_cases e : zHr D w d (zRowAt W a) = zHr D w d (zRowAt W b)
  · simp (disch := omega) only [kn_if_t, kn_bs, kn_or_l, kn_or_r, kn_inT, nI_clamp, nI_leI, nI_ltI, nI_eq, nI_add, pk_mul, nI_1, kn_eq0, kn_lt0, kn_le0, kn_0le, kn_div, kn_rem, kn_or, kn_and, kn_or0, kn_ad0, kn_shl1, kn_bitB, zBt, zBf, zB1t, zB1f, zB_01, zB_10, kl_2, kl_3, kl_4, kl_5, kl_6, kl_7, kl_8, kl_10, kl_12, kl_13, if_pos, if_neg, ↓reduceIte, eq_self, not_true_eq_false, not_false_eq_true, Nat.add_zero, Nat.or_zero, reduceCtorEq, or_true, true_or, or_false, false_or, decide_true, decide_false, kn_sub1, sb_m1, pk_sub, kW_ne, kW_at, kW_no, kA_ne, kA_eq, ite_self, and_self, true_and, and_true, f_HO_soundsAlike, jn_HO_soundsAlike_30, hE a ha, hE b hb, e, beq_self_eq_true]
  · simp (disch := omega) only [kn_if_t, kn_bs, kn_or_l, kn_or_r, kn_inT, nI_clamp, nI_leI, nI_ltI, nI_eq, nI_add, pk_mul, nI_1, kn_eq0, kn_lt0, kn_le0, kn_0le, kn_div, kn_rem, kn_or, kn_and, kn_or0, kn_ad0, kn_shl1, kn_bitB, zBt, zBf, zB1t, zB1f, zB_01, zB_10, kl_2, kl_3, kl_4, kl_5, kl_6, kl_7, kl_8, kl_10, kl_12, kl_13, if_pos, if_neg, ↓reduceIte, eq_self, not_true_eq_false, not_false_eq_true, Nat.add_zero, Nat.or_zero, reduceCtorEq, or_true, true_or, or_false, false_or, decide_true, decide_false, kn_sub1, sb_m1, pk_sub, kW_ne, kW_at, kW_no, kA_ne, kA_eq, ite_self, and_self, true_and, and_true, f_HO_soundsAlike, jn_HO_soundsAlike_30, hE a ha, hE b hb, e, beq_eq_false_iff_ne.mpr e]
/-- couples that sound alike -/
def zConf (W : zW) (D : List (Nat × Nat)) (w d : Nat) : Nat := zFold (fun a s => zFold (fun j s => s + (if (zHr D w d (zRowAt W a) == zHr D w d (zRowAt W (a + 1 + j))) = true then 1 else 0)) s (W.length - (a + 1))) 0 W.length
theorem c_conf {n : Nat} (hn : 100 ≤ n) {μ : kbM} {W : zW} {D : List (Nat × Nat)} {w : Nat} (h : hOk W D w) (hc : cH μ W D w) {d : Nat} (hd : d < D.length) : ∃ μ', f_HO_confounded n (nI d) μ = some (nI (zConf W D w d), μ') := by
  have h10 := h.l10
  have h6 := h.l6
  obtain ⟨μ1, e1, hc1, hE, -⟩ := c_hearWords hn h hc hd
  refine ⟨μ1, ?_⟩
  have inner : ∀ (a s : Nat), a < W.length → lp_HO_confounded_25 n (nI d) (nI a) μ1 n (nI s) (nI (a + 1)) = some (nI (zFold (fun j s => s + (if (zHr D w d (zRowAt W a) == zHr D w d (zRowAt W (a + 1 + j))) = true then 1 else 0)) s (W.length - (a + 1)))) := by
    intro a s ha
    exact kn_loop (fun k (s : Nat) i => lp_HO_confounded_25 n (nI d) (nI a) μ1 k (nI s) (nI (a + 1 + i))) (fun j s => s + (if (zHr D w d (zRowAt W a) == zHr D w d (zRowAt W (a + 1 + j))) = true then 1 else 0)) s (W.length - (a + 1)) _
      (fun k => by simp (disch := omega) only [kn_if_t, kn_bs, kn_or_l, kn_or_r, kn_inT, nI_clamp, nI_leI, nI_ltI, nI_eq, nI_add, pk_mul, nI_1, kn_eq0, kn_lt0, kn_le0, kn_0le, kn_div, kn_rem, kn_or, kn_and, kn_or0, kn_ad0, kn_shl1, kn_bitB, zBt, zBf, zB1t, zB1f, zB_01, zB_10, kl_2, kl_3, kl_4, kl_5, kl_6, kl_7, kl_8, kl_10, kl_12, kl_13, if_pos, if_neg, ↓reduceIte, eq_self, not_true_eq_false, not_false_eq_true, Nat.add_zero, Nat.or_zero, reduceCtorEq, or_true, true_or, or_false, false_or, decide_true, decide_false, kn_sub1, sb_m1, pk_sub, kW_ne, kW_at, kW_no, kA_ne, kA_eq, ite_self, and_self, true_and, and_true, lp_HO_confounded_25, hc1.1.1] <;> rfl)
      (fun k i hi => by
        have q := c_alike h hE hd ha (show a + 1 + i < W.length by omega)
        cases hp : (zHr D w d (zRowAt W a) == zHr D w d (zRowAt W (a + 1 + i))) <;> (rw [hp] at q; simp (disch := omega) only [kn_if_t, kn_bs, kn_or_l, kn_or_r, kn_inT, nI_clamp, nI_leI, nI_ltI, nI_eq, nI_add, pk_mul, nI_1, kn_eq0, kn_lt0, kn_le0, kn_0le, kn_div, kn_rem, kn_or, kn_and, kn_or0, kn_ad0, kn_shl1, kn_bitB, zBt, zBf, zB1t, zB1f, zB_01, zB_10, kl_2, kl_3, kl_4, kl_5, kl_6, kl_7, kl_8, kl_10, kl_12, kl_13, if_pos, if_neg, ↓reduceIte, eq_self, not_true_eq_false, not_false_eq_true, Nat.add_zero, Nat.or_zero, reduceCtorEq, or_true, true_or, or_false, false_or, decide_true, decide_false, kn_sub1, sb_m1, pk_sub, kW_ne, kW_at, kW_no, kA_ne, kA_eq, ite_self, and_self, true_and, and_true, lp_HO_confounded_25, jn_HO_confounded_54, hc1.1.1, q, hp, Bool.false_eq_true, ← Nat.add_assoc])) (W.length - (a + 1)) 0 n (by omega) (by omega)
  have e : lp_HO_confounded_9 n (nI d) μ1 n 0 0 = some (nI (zConf W D w d)) := kn_loop (fun k (s : Nat) i => lp_HO_confounded_9 n (nI d) μ1 k (nI s) (nI i)) (fun a s => zFold (fun j s => s + (if (zHr D w d (zRowAt W a) == zHr D w d (zRowAt W (a + 1 + j))) = true then 1 else 0)) s (W.length - (a + 1))) 0 W.length _
    (fun k => by simp (disch := omega) only [kn_if_t, kn_bs, kn_or_l, kn_or_r, kn_inT, nI_clamp, nI_leI, nI_ltI, nI_eq, nI_add, pk_mul, nI_1, kn_eq0, kn_lt0, kn_le0, kn_0le, kn_div, kn_rem, kn_or, kn_and, kn_or0, kn_ad0, kn_shl1, kn_bitB, zBt, zBf, zB1t, zB1f, zB_01, zB_10, kl_2, kl_3, kl_4, kl_5, kl_6, kl_7, kl_8, kl_10, kl_12, kl_13, if_pos, if_neg, ↓reduceIte, eq_self, not_true_eq_false, not_false_eq_true, Nat.add_zero, Nat.or_zero, reduceCtorEq, or_true, true_or, or_false, false_or, decide_true, decide_false, kn_sub1, sb_m1, pk_sub, kW_ne, kW_at, kW_no, kA_ne, kA_eq, ite_self, and_self, true_and, and_true, lp_HO_confounded_9, hc1.1.1] <;> rfl)
    (fun k i hi => by simp (disch := omega) only [kn_if_t, kn_bs, kn_or_l, kn_or_r, kn_inT, nI_clamp, nI_leI, nI_ltI, nI_eq, nI_add, pk_mul, nI_1, kn_eq0, kn_lt0, kn_le0, kn_0le, kn_div, kn_rem, kn_or, kn_and, kn_or0, kn_ad0, kn_shl1, kn_bitB, zBt, zBf, zB1t, zB1f, zB_01, zB_10, kl_2, kl_3, kl_4, kl_5, kl_6, kl_7, kl_8, kl_10, kl_12, kl_13, if_pos, if_neg, ↓reduceIte, eq_self, not_true_eq_false, not_false_eq_true, Nat.add_zero, Nat.or_zero, reduceCtorEq, or_true, true_or, or_false, false_or, decide_true, decide_false, kn_sub1, sb_m1, pk_sub, kW_ne, kW_at, kW_no, kA_ne, kA_eq, ite_self, and_self, true_and, and_true, lp_HO_confounded_9, hc1.1.1, inner i _ hi]) W.length 0 n (by omega) (by omega)
  unfold f_HO_confounded
  rw [e1, kn_bs, e, kn_bs]
theorem m_conf {n : Nat} (hn : 100 ≤ n) {μ : kbM} {W : zW} {D : List (Nat × Nat)} {w : Nat} (h : hOk W D w) (hc : mH μ W D w) {d : Nat} (hd : d < D.length) : f_MD_confounded n (nI d) μ = some (nI (zConf W D w d)) := by
  have h10 := h.l10
  have h6 := h.l6
  have inner : ∀ (a s : Nat), a < W.length → lp_MD_confounded_17 n (nI d) (nI a) μ n (nI s) (nI (a + 1)) = some (nI (zFold (fun j s => s + (if (zHr D w d (zRowAt W a) == zHr D w d (zRowAt W (a + 1 + j))) = true then 1 else 0)) s (W.length - (a + 1)))) := by
    intro a s ha
    have g1 := h.hr d ha
    exact kn_loop (fun k (s : Nat) i => lp_MD_confounded_17 n (nI d) (nI a) μ k (nI s) (nI (a + 1 + i))) (fun j s => s + (if (zHr D w d (zRowAt W a) == zHr D w d (zRowAt W (a + 1 + j))) = true then 1 else 0)) s (W.length - (a + 1)) _
      (fun k => by simp (disch := omega) only [kn_if_t, kn_bs, kn_or_l, kn_or_r, kn_inT, nI_clamp, nI_leI, nI_ltI, nI_eq, nI_add, pk_mul, nI_1, kn_eq0, kn_lt0, kn_le0, kn_0le, kn_div, kn_rem, kn_or, kn_and, kn_or0, kn_ad0, kn_shl1, kn_bitB, zBt, zBf, zB1t, zB1f, zB_01, zB_10, kl_2, kl_3, kl_4, kl_5, kl_6, kl_7, kl_8, kl_10, kl_12, kl_13, if_pos, if_neg, ↓reduceIte, eq_self, not_true_eq_false, not_false_eq_true, Nat.add_zero, Nat.or_zero, reduceCtorEq, or_true, true_or, or_false, false_or, decide_true, decide_false, kn_sub1, sb_m1, pk_sub, kW_ne, kW_at, kW_no, kA_ne, kA_eq, ite_self, and_self, true_and, and_true, lp_MD_confounded_17, hc.1.1] <;> rfl)
      (fun k i hi => by
        have hb : a + 1 + i < W.length := by omega
        have g2 := h.hr d hb
        have q1 := m_hr (n := n) (by omega) h hc hd (h.row ha)
        have q2 := m_hr (n := n) (by omega) h hc hd (h.row hb)
        by_cases hp : zHr D w d (zRowAt W a) = zHr D w d (zRowAt W (a + 1 + i))
        · simp (disch := omega) only [kn_if_t, kn_bs, kn_or_l, kn_or_r, kn_inT, nI_clamp, nI_leI, nI_ltI, nI_eq, nI_add, pk_mul, nI_1, kn_eq0, kn_lt0, kn_le0, kn_0le, kn_div, kn_rem, kn_or, kn_and, kn_or0, kn_ad0, kn_shl1, kn_bitB, zBt, zBf, zB1t, zB1f, zB_01, zB_10, kl_2, kl_3, kl_4, kl_5, kl_6, kl_7, kl_8, kl_10, kl_12, kl_13, if_pos, if_neg, ↓reduceIte, eq_self, not_true_eq_false, not_false_eq_true, Nat.add_zero, Nat.or_zero, reduceCtorEq, or_true, true_or, or_false, false_or, decide_true, decide_false, kn_sub1, sb_m1, pk_sub, kW_ne, kW_at, kW_no, kA_ne, kA_eq, ite_self, and_self, true_and, and_true, lp_MD_confounded_17, jn_MD_confounded_58, hc.1.1, (hc.1.2 a ha).1, (hc.1.2 _ hb).1, q1, q2, hp, beq_self_eq_true, ← Nat.add_assoc]
        · simp (disch := omega) only [kn_if_t, kn_bs, kn_or_l, kn_or_r, kn_inT, nI_clamp, nI_leI, nI_ltI, nI_eq, nI_add, pk_mul, nI_1, kn_eq0, kn_lt0, kn_le0, kn_0le, kn_div, kn_rem, kn_or, kn_and, kn_or0, kn_ad0, kn_shl1, kn_bitB, zBt, zBf, zB1t, zB1f, zB_01, zB_10, kl_2, kl_3, kl_4, kl_5, kl_6, kl_7, kl_8, kl_10, kl_12, kl_13, if_pos, if_neg, ↓reduceIte, eq_self, not_true_eq_false, not_false_eq_true, Nat.add_zero, Nat.or_zero, reduceCtorEq, or_true, true_or, or_false, false_or, decide_true, decide_false, kn_sub1, sb_m1, pk_sub, kW_ne, kW_at, kW_no, kA_ne, kA_eq, ite_self, and_self, true_and, and_true, lp_MD_confounded_17, jn_MD_confounded_58, hc.1.1, (hc.1.2 a ha).1, (hc.1.2 _ hb).1, q1, q2, hp, beq_eq_false_iff_ne.mpr hp, Bool.false_eq_true, ← Nat.add_assoc]) (W.length - (a + 1)) 0 n (by omega) (by omega)
  have e : lp_MD_confounded_4 n (nI d) μ n 0 0 = some (nI (zConf W D w d)) := kn_loop (fun k (s : Nat) i => lp_MD_confounded_4 n (nI d) μ k (nI s) (nI i)) (fun a s => zFold (fun j s => s + (if (zHr D w d (zRowAt W a) == zHr D w d (zRowAt W (a + 1 + j))) = true then 1 else 0)) s (W.length - (a + 1))) 0 W.length _
    (fun k => by simp (disch := omega) only [kn_if_t, kn_bs, kn_or_l, kn_or_r, kn_inT, nI_clamp, nI_leI, nI_ltI, nI_eq, nI_add, pk_mul, nI_1, kn_eq0, kn_lt0, kn_le0, kn_0le, kn_div, kn_rem, kn_or, kn_and, kn_or0, kn_ad0, kn_shl1, kn_bitB, zBt, zBf, zB1t, zB1f, zB_01, zB_10, kl_2, kl_3, kl_4, kl_5, kl_6, kl_7, kl_8, kl_10, kl_12, kl_13, if_pos, if_neg, ↓reduceIte, eq_self, not_true_eq_false, not_false_eq_true, Nat.add_zero, Nat.or_zero, reduceCtorEq, or_true, true_or, or_false, false_or, decide_true, decide_false, kn_sub1, sb_m1, pk_sub, kW_ne, kW_at, kW_no, kA_ne, kA_eq, ite_self, and_self, true_and, and_true, lp_MD_confounded_4, hc.1.1] <;> rfl)
    (fun k i hi => by simp (disch := omega) only [kn_if_t, kn_bs, kn_or_l, kn_or_r, kn_inT, nI_clamp, nI_leI, nI_ltI, nI_eq, nI_add, pk_mul, nI_1, kn_eq0, kn_lt0, kn_le0, kn_0le, kn_div, kn_rem, kn_or, kn_and, kn_or0, kn_ad0, kn_shl1, kn_bitB, zBt, zBf, zB1t, zB1f, zB_01, zB_10, kl_2, kl_3, kl_4, kl_5, kl_6, kl_7, kl_8, kl_10, kl_12, kl_13, if_pos, if_neg, ↓reduceIte, eq_self, not_true_eq_false, not_false_eq_true, Nat.add_zero, Nat.or_zero, reduceCtorEq, or_true, true_or, or_false, false_or, decide_true, decide_false, kn_sub1, sb_m1, pk_sub, kW_ne, kW_at, kW_no, kA_ne, kA_eq, ite_self, and_self, true_and, and_true, lp_MD_confounded_4, hc.1.1, inner i _ hi]) W.length 0 n (by omega) (by omega)
  unfold f_MD_confounded
  rw [e, kn_bs]
