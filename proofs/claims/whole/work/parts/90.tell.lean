/-! the fewest doors that tell all words apart -/
theorem c_hearAll {n : Nat} (hn : 100 ≤ n) {μ : kbM} {W : zW} {D : List (Nat × Nat)} {w : Nat} (h : hOk W D w) (hc : cH μ W D w) : ∃ μ', f_HO_hearAll n μ = some μ' ∧ cH μ' W D w ∧ ∀ d, d < D.length → cEar μ' W D w d := by
  have h6 := h.l6
  obtain ⟨r, e1, h1⟩ := kn_for (fun k (s : Int32 × kbM) => lp_HO_hearAll_2 n k s.1 s.2) (fun i s => s.1 = nI i ∧ cH s.2 W D w ∧ ∀ d, d < i → cEar s.2 W D w d) D.length (fun r => cH r W D w ∧ ∀ d, d < D.length → cEar r W D w d)
    (fun k s hs => by
      obtain ⟨v, ν⟩ := s
      simp only at hs
      obtain ⟨rfl, h1, h2⟩ := hs
      exact ⟨ν, by simp (disch := omega) only [kn_if_t, kn_bs, kn_or_l, kn_or_r, kn_inT, nI_clamp, nI_leI, nI_ltI, nI_eq, nI_add, pk_mul, nI_1, kn_eq0, kn_lt0, kn_le0, kn_0le, kn_div, kn_rem, kn_or, kn_and, kn_or0, kn_ad0, kn_shl1, kn_bitB, zBt, zBf, zB1t, zB1f, zB_01, zB_10, kl_2, kl_3, kl_4, kl_5, kl_6, kl_7, kl_8, kl_10, kl_12, kl_13, if_pos, if_neg, ↓reduceIte, eq_self, not_true_eq_false, not_false_eq_true, Nat.add_zero, Nat.or_zero, reduceCtorEq, or_true, true_or, or_false, false_or, decide_true, decide_false, kn_sub1, sb_m1, pk_sub, kW_ne, kW_at, kW_no, kA_ne, kA_eq, ite_self, and_self, true_and, and_true, lp_HO_hearAll_2, h1.2.1.1], h1, h2⟩)
    (fun k i s hi hs => by
      obtain ⟨v, ν⟩ := s
      simp only at hs
      obtain ⟨rfl, h1, h2⟩ := hs
      obtain ⟨ν1, q1, q2, q3, q4⟩ := c_hearWords hn h h1 hi
      exact Or.inr ⟨(nI (i + 1), ν1), by simp (disch := omega) only [kn_if_t, kn_bs, kn_or_l, kn_or_r, kn_inT, nI_clamp, nI_leI, nI_ltI, nI_eq, nI_add, pk_mul, nI_1, kn_eq0, kn_lt0, kn_le0, kn_0le, kn_div, kn_rem, kn_or, kn_and, kn_or0, kn_ad0, kn_shl1, kn_bitB, zBt, zBf, zB1t, zB1f, zB_01, zB_10, kl_2, kl_3, kl_4, kl_5, kl_6, kl_7, kl_8, kl_10, kl_12, kl_13, if_pos, if_neg, ↓reduceIte, eq_self, not_true_eq_false, not_false_eq_true, Nat.add_zero, Nat.or_zero, reduceCtorEq, or_true, true_or, or_false, false_or, decide_true, decide_false, kn_sub1, sb_m1, pk_sub, kW_ne, kW_at, kW_no, kA_ne, kA_eq, ite_self, and_self, true_and, and_true, lp_HO_hearAll_2, h1.2.1.1, q1], rfl, q2, fun d hd => by
        by_cases e : d = i
        · subst e; exact q3
        · exact q4 d e (h2 d (by omega))⟩)
    D.length 0 n (0, μ) (by omega) (by omega) ⟨rfl, hc, fun d hd => absurd hd (Nat.not_lt_zero d)⟩
  refine ⟨r, ?_, h1⟩
  unfold f_HO_hearAll
  rw [show lp_HO_hearAll_2 n n 0 μ = some r from e1, kn_bs]
def zTl (W : zW) (D : List (Nat × Nat)) (w a b : Nat) : Nat := zOr (fun d => !(zHr D w d (zRowAt W a) == zHr D w d (zRowAt W b))) D.length
theorem zTl_lt {W : zW} {D : List (Nat × Nat)} {w : Nat} (h : hOk W D w) (a b : Nat) : zTl W D w a b < 64 := Nat.lt_of_lt_of_le (zOr_lt _ _) (Nat.pow_le_pow_right (by decide) h.l6)
theorem c_tl {n : Nat} (hn : 100 ≤ n) (z : Int32) {μ : kbM} {W : zW} {D : List (Nat × Nat)} {w : Nat} (h : hOk W D w) (hc : cH μ W D w) (hE : ∀ d, d < D.length → cEar μ W D w d) {a b : Nat} (ha : a < W.length) (hb : b < W.length) : lp_HO_layTelling_36 n z (nI a) (nI b) μ n 0 0 = some (nI (zTl W D w a b)) := by
  have h6 := h.l6
  exact kn_loop (fun k (s : Nat) i => lp_HO_layTelling_36 n z (nI a) (nI b) μ k (nI s) (nI i)) (fun i s => s ||| (if (!(zHr D w i (zRowAt W a) == zHr D w i (zRowAt W b))) = true then 2 ^ i else 0)) 0 D.length _
    (fun k => by simp (disch := omega) only [kn_if_t, kn_bs, kn_or_l, kn_or_r, kn_inT, nI_clamp, nI_leI, nI_ltI, nI_eq, nI_add, pk_mul, nI_1, kn_eq0, kn_lt0, kn_le0, kn_0le, kn_div, kn_rem, kn_or, kn_and, kn_or0, kn_ad0, kn_shl1, kn_bitB, zBt, zBf, zB1t, zB1f, zB_01, zB_10, kl_2, kl_3, kl_4, kl_5, kl_6, kl_7, kl_8, kl_10, kl_12, kl_13, if_pos, if_neg, ↓reduceIte, eq_self, not_true_eq_false, not_false_eq_true, Nat.add_zero, Nat.or_zero, reduceCtorEq, or_true, true_or, or_false, false_or, decide_true, decide_false, kn_sub1, sb_m1, pk_sub, kW_ne, kW_at, kW_no, kA_ne, kA_eq, ite_self, and_self, true_and, and_true, lp_HO_layTelling_36, hc.2.1.1] <;> rfl)
    (fun k i hi => by
      have q := c_alike h (hE i hi) hi ha hb
      cases hp : (zHr D w i (zRowAt W a) == zHr D w i (zRowAt W b)) <;> (rw [hp] at q; simp (disch := omega) only [kn_if_t, kn_bs, kn_or_l, kn_or_r, kn_inT, nI_clamp, nI_leI, nI_ltI, nI_eq, nI_add, pk_mul, nI_1, kn_eq0, kn_lt0, kn_le0, kn_0le, kn_div, kn_rem, kn_or, kn_and, kn_or0, kn_ad0, kn_shl1, kn_bitB, zBt, zBf, zB1t, zB1f, zB_01, zB_10, kl_2, kl_3, kl_4, kl_5, kl_6, kl_7, kl_8, kl_10, kl_12, kl_13, if_pos, if_neg, ↓reduceIte, eq_self, not_true_eq_false, not_false_eq_true, Nat.add_zero, Nat.or_zero, reduceCtorEq, or_true, true_or, or_false, false_or, decide_true, decide_false, kn_sub1, sb_m1, pk_sub, kW_ne, kW_at, kW_no, kA_ne, kA_eq, ite_self, and_self, true_and, and_true, lp_HO_layTelling_36, jn_HO_layTelling_69, hc.2.1.1, q, hp, Bool.not_true, Bool.not_false, Bool.false_eq_true])) D.length 0 n (by omega) (by omega)
/-- what is laid: m couples, those of all words up to a, and of a with those below b -/
def cTel (μ : kbM) (W : zW) (D : List (Nat × Nat)) (w a b m : Nat) : Prop := (∀ k, k < m → ∃ i j, i < j ∧ j < W.length ∧ μ.1 53 k = nI (zTl W D w i j)) ∧ ∀ i j, i < j → j < W.length → (i < a ∨ (i = a ∧ j < b)) → ∃ k, k < m ∧ μ.1 53 k = nI (zTl W D w i j)
theorem c_layTelling {n : Nat} (hn : 100 ≤ n) {μ : kbM} {W : zW} {D : List (Nat × Nat)} {w : Nat} (h : hOk W D w) (hc : cH μ W D w) (hE : ∀ d, d < D.length → cEar μ W D w d) : ∃ m ν, m ≤ 100 ∧ f_HO_layTelling n μ = some (nI m, ν) ∧ cH ν W D w ∧ cTel ν W D w W.length 0 m := by
  have h10 := h.l10
  have inner : ∀ (a m : Nat) (κ : kbM), a < W.length → m ≤ 10 * a → cH κ W D w → (∀ d, d < D.length → cEar κ W D w d) → cTel κ W D w a (a + 1) m → ∃ r, lp_HO_layTelling_19 n (nI a) n (nI m) (nI (a + 1)) κ = some r ∧ ∃ m', r.1 = nI m' ∧ m' ≤ 10 * (a + 1) ∧ cH r.2 W D w ∧ (∀ d, d < D.length → cEar r.2 W D w d) ∧ cTel r.2 W D w (a + 1) (a + 2) m' := by
    intro a m κ ha hm k1 k2 k3
    exact kn_for (fun k (s : Int32 × Int32 × kbM) => lp_HO_layTelling_19 n (nI a) k s.1 s.2.1 s.2.2) (fun i s => ∃ m', s.1 = nI m' ∧ s.2.1 = nI i ∧ (a < i ∧ m' + a + 1 ≤ 10 * a + i) ∧ cH s.2.2 W D w ∧ (∀ d, d < D.length → cEar s.2.2 W D w d) ∧ cTel s.2.2 W D w a i m') W.length (fun r => ∃ m', r.1 = nI m' ∧ m' ≤ 10 * (a + 1) ∧ cH r.2 W D w ∧ (∀ d, d < D.length → cEar r.2 W D w d) ∧ cTel r.2 W D w (a + 1) (a + 2) m')
      (fun k s hs => by
        obtain ⟨v, u, ν⟩ := s
        obtain ⟨m', e1, e2, h1, h2, h3, h4⟩ := hs
        simp only at e1 e2 h1 h2 h3 h4
        subst e1 e2
        refine ⟨(nI m', ν), by simp (disch := omega) only [kn_if_t, kn_bs, kn_or_l, kn_or_r, kn_inT, nI_clamp, nI_leI, nI_ltI, nI_eq, nI_add, pk_mul, nI_1, kn_eq0, kn_lt0, kn_le0, kn_0le, kn_div, kn_rem, kn_or, kn_and, kn_or0, kn_ad0, kn_shl1, kn_bitB, zBt, zBf, zB1t, zB1f, zB_01, zB_10, kl_2, kl_3, kl_4, kl_5, kl_6, kl_7, kl_8, kl_10, kl_12, kl_13, if_pos, if_neg, ↓reduceIte, eq_self, not_true_eq_false, not_false_eq_true, Nat.add_zero, Nat.or_zero, reduceCtorEq, or_true, true_or, or_false, false_or, decide_true, decide_false, kn_sub1, sb_m1, pk_sub, kW_ne, kW_at, kW_no, kA_ne, kA_eq, ite_self, and_self, true_and, and_true, lp_HO_layTelling_19, h2.1.1], m', rfl, by omega, h2, h3, h4.1, fun i j hij hj q => h4.2 i j hij hj ?_⟩
        omega)
      (fun k i s hi hs => by
        obtain ⟨v, u, ν⟩ := s
        obtain ⟨m', e1, e2, h1, h2, h3, h4⟩ := hs
        simp only at e1 e2 h1 h2 h3 h4
        subst e1 e2
        have q := c_tl hn (nI m') h h2 h3 ha hi
        have eq52 : (kbW ν 53 m' (nI (zTl W D w a i))).1 52 = ν.1 52 := kW_ne (by decide)
        refine Or.inr ⟨(nI (m' + 1), nI (i + 1), kbW ν 53 m' (nI (zTl W D w a i))), by simp (disch := omega) only [kn_if_t, kn_bs, kn_or_l, kn_or_r, kn_inT, nI_clamp, nI_leI, nI_ltI, nI_eq, nI_add, pk_mul, nI_1, kn_eq0, kn_lt0, kn_le0, kn_0le, kn_div, kn_rem, kn_or, kn_and, kn_or0, kn_ad0, kn_shl1, kn_bitB, zBt, zBf, zB1t, zB1f, zB_01, zB_10, kl_2, kl_3, kl_4, kl_5, kl_6, kl_7, kl_8, kl_10, kl_12, kl_13, if_pos, if_neg, ↓reduceIte, eq_self, not_true_eq_false, not_false_eq_true, Nat.add_zero, Nat.or_zero, reduceCtorEq, or_true, true_or, or_false, false_or, decide_true, decide_false, kn_sub1, sb_m1, pk_sub, kW_ne, kW_at, kW_no, kA_ne, kA_eq, ite_self, and_self, true_and, and_true, lp_HO_layTelling_19, h2.1.1, q], m' + 1, rfl, rfl, ⟨by omega, by omega⟩, h2.congr (fun a ha => kW_ne (by revert a; decide)), fun d hd => ?_, ?_, ?_⟩
        · unfold cEar; simp only; rw [eq52]; exact h3 d hd
        · intro k hk
          by_cases e : k = m'
          · subst e
            exact ⟨a, i, h1.1, hi, kW_at⟩
          · simp only; rw [kW_no e]; exact h4.1 k (by omega)
        · intro i' j' hij hj hq
          simp only
          by_cases e : i' = a ∧ j' = i
          · obtain ⟨rfl, rfl⟩ := e
            exact ⟨m', by omega, kW_at⟩
          · obtain ⟨k, hk, ek⟩ := h4.2 i' j' hij hj (by omega)
            exact ⟨k, by omega, by rw [kW_no (by omega)]; exact ek⟩)
      (W.length - (a + 1)) (a + 1) n (nI m, nI (a + 1), κ) (by omega) (by omega) ⟨m, rfl, rfl, ⟨by omega, by omega⟩, k1, k2, k3⟩
  obtain ⟨r, e1, m, e2, h1, h2, h3⟩ := kn_for (fun k (s : Int32 × Int32 × kbM) => lp_HO_layTelling_4 n k s.1 s.2.1 s.2.2) (fun i s => ∃ m', s.1 = nI m' ∧ s.2.1 = nI i ∧ m' ≤ 10 * i ∧ cH s.2.2 W D w ∧ (∀ d, d < D.length → cEar s.2.2 W D w d) ∧ cTel s.2.2 W D w i (i + 1) m') W.length (fun r => ∃ m', r.1 = nI m' ∧ m' ≤ 100 ∧ cH r.2 W D w ∧ cTel r.2 W D w W.length 0 m')
    (fun k s hs => by
      obtain ⟨v, u, ν⟩ := s
      obtain ⟨m', e1, e2, h1, h2, h3, h4⟩ := hs
      simp only at e1 e2 h1 h2 h3 h4
      subst e1 e2
      exact ⟨(nI m', ν), by simp (disch := omega) only [kn_if_t, kn_bs, kn_or_l, kn_or_r, kn_inT, nI_clamp, nI_leI, nI_ltI, nI_eq, nI_add, pk_mul, nI_1, kn_eq0, kn_lt0, kn_le0, kn_0le, kn_div, kn_rem, kn_or, kn_and, kn_or0, kn_ad0, kn_shl1, kn_bitB, zBt, zBf, zB1t, zB1f, zB_01, zB_10, kl_2, kl_3, kl_4, kl_5, kl_6, kl_7, kl_8, kl_10, kl_12, kl_13, if_pos, if_neg, ↓reduceIte, eq_self, not_true_eq_false, not_false_eq_true, Nat.add_zero, Nat.or_zero, reduceCtorEq, or_true, true_or, or_false, false_or, decide_true, decide_false, kn_sub1, sb_m1, pk_sub, kW_ne, kW_at, kW_no, kA_ne, kA_eq, ite_self, and_self, true_and, and_true, lp_HO_layTelling_4, h2.1.1], m', rfl, by omega, h2, h4.1, fun i j hij hj q => h4.2 i j hij hj (Or.inl (by omega))⟩)
    (fun k i s hi hs => by
      obtain ⟨v, u, ν⟩ := s
      obtain ⟨m', e1, e2, h1, h2, h3, h4⟩ := hs
      simp only at e1 e2 h1 h2 h3 h4
      subst e1 e2
      obtain ⟨r, q1, m2, q2, q3, q4, q5, q6⟩ := inner i m' ν hi h1 h2 h3 h4
      exact Or.inr ⟨(r.1, nI (i + 1), r.2), by simp (disch := omega) only [kn_if_t, kn_bs, kn_or_l, kn_or_r, kn_inT, nI_clamp, nI_leI, nI_ltI, nI_eq, nI_add, pk_mul, nI_1, kn_eq0, kn_lt0, kn_le0, kn_0le, kn_div, kn_rem, kn_or, kn_and, kn_or0, kn_ad0, kn_shl1, kn_bitB, zBt, zBf, zB1t, zB1f, zB_01, zB_10, kl_2, kl_3, kl_4, kl_5, kl_6, kl_7, kl_8, kl_10, kl_12, kl_13, if_pos, if_neg, ↓reduceIte, eq_self, not_true_eq_false, not_false_eq_true, Nat.add_zero, Nat.or_zero, reduceCtorEq, or_true, true_or, or_false, false_or, decide_true, decide_false, kn_sub1, sb_m1, pk_sub, kW_ne, kW_at, kW_no, kA_ne, kA_eq, ite_self, and_self, true_and, and_true, lp_HO_layTelling_4, h2.1.1, q1], m2, q2, rfl, q3, q4, q5, q6⟩)
    W.length 0 n (0, 0, μ) (by omega) (by omega) ⟨0, rfl, rfl, by omega, hc, hE, fun k hk => absurd hk (Nat.not_lt_zero k), fun i j hij hj q => absurd q (by omega)⟩
  refine ⟨m, r.2, h1, ?_, h2, h3⟩
  unfold f_HO_layTelling
  rw [show lp_HO_layTelling_4 n n 0 0 μ = some r from e1, kn_bs, e2]
theorem c_tellsAll {n : Nat} (hn : 200 ≤ n) {μ : kbM} {m set : Nat} (hm : m ≤ 100) {t : Nat → Nat} (ht : ∀ k, k < m → μ.1 53 k = nI (t k) ∧ t k < 64) : f_HO_tellsAll n (nI set) (nI m) μ = some (zB (zAll (fun k => t k &&& set != 0) m)) := by
  have key := kn_all (lp := fun k i => lp_HO_tellsAll_2 n (nI set) (nI m) μ k (nI i)) (fun k => t k &&& set != 0) m (.inr ()) (.inl 0)
    (fun k => by simp (disch := omega) only [kn_if_t, kn_bs, kn_or_l, kn_or_r, kn_inT, nI_clamp, nI_leI, nI_ltI, nI_eq, nI_add, pk_mul, nI_1, kn_eq0, kn_lt0, kn_le0, kn_0le, kn_div, kn_rem, kn_or, kn_and, kn_or0, kn_ad0, kn_shl1, kn_bitB, zBt, zBf, zB1t, zB1f, zB_01, zB_10, kl_2, kl_3, kl_4, kl_5, kl_6, kl_7, kl_8, kl_10, kl_12, kl_13, if_pos, if_neg, ↓reduceIte, eq_self, not_true_eq_false, not_false_eq_true, Nat.add_zero, Nat.or_zero, reduceCtorEq, or_true, true_or, or_false, false_or, decide_true, decide_false, kn_sub1, sb_m1, pk_sub, kW_ne, kW_at, kW_no, kA_ne, kA_eq, ite_self, and_self, true_and, and_true, lp_HO_tellsAll_2])
    (fun k i hi hp => by
      have hp' : t i &&& set = 0 := by simpa using hp
      simp (disch := omega) only [kn_if_t, kn_bs, kn_or_l, kn_or_r, kn_inT, nI_clamp, nI_leI, nI_ltI, nI_eq, nI_add, pk_mul, nI_1, kn_eq0, kn_lt0, kn_le0, kn_0le, kn_div, kn_rem, kn_or, kn_and, kn_or0, kn_ad0, kn_shl1, kn_bitB, zBt, zBf, zB1t, zB1f, zB_01, zB_10, kl_2, kl_3, kl_4, kl_5, kl_6, kl_7, kl_8, kl_10, kl_12, kl_13, if_pos, if_neg, ↓reduceIte, eq_self, not_true_eq_false, not_false_eq_true, Nat.add_zero, Nat.or_zero, reduceCtorEq, or_true, true_or, or_false, false_or, decide_true, decide_false, kn_sub1, sb_m1, pk_sub, kW_ne, kW_at, kW_no, kA_ne, kA_eq, ite_self, and_self, true_and, and_true, lp_HO_tellsAll_2, (ht i hi).1, hp'] <;> rfl)
    (fun k i hi hp => by
      have hp' : ¬ t i &&& set = 0 := by simpa using hp
      have hle := Nat.and_le_left (n := t i) (m := set)
      have h64 := (ht i hi).2
      simp (disch := omega) only [kn_if_t, kn_bs, kn_or_l, kn_or_r, kn_inT, nI_clamp, nI_leI, nI_ltI, nI_eq, nI_add, pk_mul, nI_1, kn_eq0, kn_lt0, kn_le0, kn_0le, kn_div, kn_rem, kn_or, kn_and, kn_or0, kn_ad0, kn_shl1, kn_bitB, zBt, zBf, zB1t, zB1f, zB_01, zB_10, kl_2, kl_3, kl_4, kl_5, kl_6, kl_7, kl_8, kl_10, kl_12, kl_13, if_pos, if_neg, ↓reduceIte, eq_self, not_true_eq_false, not_false_eq_true, Nat.add_zero, Nat.or_zero, reduceCtorEq, or_true, true_or, or_false, false_or, decide_true, decide_false, kn_sub1, sb_m1, pk_sub, kW_ne, kW_at, kW_no, kA_ne, kA_eq, ite_self, and_self, true_and, and_true, lp_HO_tellsAll_2, (ht i hi).1, hp'])
    m 0 n (by omega) (by omega) rfl
  unfold f_HO_tellsAll
  rw [show lp_HO_tellsAll_2 n (nI set) (nI m) μ n 0 = _ from key]
  cases zAll (fun k => t k &&& set != 0) m <;> rfl
/-- as the model asks it -/
def zAk (W : zW) (D : List (Nat × Nat)) (w set a b : Nat) : Bool := zAll (fun d => !(zBit set d) || (zHr D w d (zRowAt W a) == zHr D w d (zRowAt W b))) D.length
def zTA (W : zW) (D : List (Nat × Nat)) (w set : Nat) : Bool := zAll (fun a => zAll (fun j => !(zAk W D w set a (a + 1 + j))) (W.length - (a + 1))) W.length
theorem zTA_iff (W : zW) (D : List (Nat × Nat)) (w set : Nat) : zTA W D w set = true ↔ ∀ a b, a < b → b < W.length → zAk W D w set a b = false := by
  unfold zTA
  rw [zAll_iff]
  constructor
  · intro h a b hab hb
    have := (zAll_iff _ _).mp (h a (by omega)) (b - (a + 1)) (by omega)
    rw [show a + 1 + (b - (a + 1)) = b by omega] at this
    simpa using this
  · intro h a ha
    rw [zAll_iff]
    intro j hj
    rw [h a (a + 1 + j) (by omega) (by omega)]; rfl
theorem zAk_tl (W : zW) (D : List (Nat × Nat)) (w : Nat) {set : Nat} (hs : set < 2 ^ D.length) (a b : Nat) : (zTl W D w a b &&& set = 0) ↔ zAk W D w set a b = true := by
  unfold zAk
  rw [zAll_iff]
  constructor
  · intro h d hd
    have e : (zTl W D w a b &&& set).testBit d = false := by rw [h]; simp
    rw [Nat.testBit_and, ← zBit_tb, ← zBit_tb] at e
    unfold zTl at e
    rw [zBit_or, decide_eq_true hd, Bool.true_and] at e
    revert e
    cases zBit set d <;> cases (zHr D w d (zRowAt W a) == zHr D w d (zRowAt W b)) <;> simp
  · intro h
    apply Nat.eq_of_testBit_eq
    intro d
    rw [Nat.testBit_and, ← zBit_tb, ← zBit_tb]
    unfold zTl
    rw [zBit_or, Nat.zero_testBit]
    by_cases hd : d < D.length
    · have := h d hd
      revert this
      cases zBit set d <;> cases (zHr D w d (zRowAt W a) == zHr D w d (zRowAt W b)) <;> simp
    · simp [hd]
theorem c_tells {n : Nat} (hn : 200 ≤ n) {μ : kbM} {W : zW} {D : List (Nat × Nat)} {w : Nat} (h : hOk W D w) {m set : Nat} (hm : m ≤ 100) (ht : cTel μ W D w W.length 0 m) (hs : set < 2 ^ D.length) : f_HO_tellsAll n (nI set) (nI m) μ = some (zB (zTA W D w set)) := by
  have hch : ∀ k, k < m → (μ.1 53 k).toNatClampNeg < 64 ∧ μ.1 53 k = nI (μ.1 53 k).toNatClampNeg := by
    intro k hk
    obtain ⟨i, j, -, -, e⟩ := ht.1 k hk
    have := zTl_lt h i j
    rw [e, nI_clamp (by omega)]
    exact ⟨this, rfl⟩
  rw [c_tellsAll hn hm (t := fun k => (μ.1 53 k).toNatClampNeg) (fun k hk => ⟨(hch k hk).2, (hch k hk).1⟩)]
  congr 2
  apply Bool.eq_iff_iff.mpr
  rw [zTA_iff, zAll_iff]
  constructor
  · intro q a b hab hb
    obtain ⟨k, hk, e⟩ := ht.2 a b hab hb (Or.inl (by omega))
    have := q k hk
    have l := zTl_lt h a b
    simp only [e, nI_clamp (show zTl W D w a b < 2 ^ 31 by omega), bne_iff_ne, ne_eq] at this
    cases hz : zAk W D w set a b with
    | false => rfl
    | true => exact absurd ((zAk_tl W D w hs a b).mpr hz) this
  · intro q k hk
    obtain ⟨i, j, hij, hj, e⟩ := ht.1 k hk
    have l := zTl_lt h i j
    simp only [e, nI_clamp (show zTl W D w i j < 2 ^ 31 by omega), bne_iff_ne, ne_eq]
    intro z
    have := q i j hij hj
    rw [(zAk_tl W D w hs i j).mp z] at this
    cases this
/-! bits counted -/
def zPc (s : Nat) : Nat := s % 2 + s / 2 % 2 + s / 4 % 2 + s / 8 % 2 + s / 16 % 2 + s / 32 % 2
theorem zPc_k : ∀ s : Fin 64, s.val ≠ 0 → zPc (s.val &&& (s.val - 1)) + 1 = zPc s.val ∧ (s.val &&& (s.val - 1)) < 64 := by decide +kernel
theorem kb_bits : ∀ s : Fin 64, kbBits (nI s.val) = nI (zPc s.val) := by decide +kernel
theorem zPc_le (s : Nat) : zPc s ≤ 6 := by unfold zPc; omega
theorem md_bits_lp (n : Nat) : ∀ (k s c : Nat), s < 64 → zPc s < k → lp_MD_bitsOf_4 n k (nI c) (nI s) = some (nI (c + zPc s)) := by
  intro k
  induction k with
  | zero => intro s c _ h; omega
  | succ k ih =>
    intro s c hs h
    simp only [lp_MD_bitsOf_4]
    by_cases h0 : s = 0
    · subst h0; rw [if_pos (show nI 0 = 0 from rfl)]; rfl
    · have t := zPc_k ⟨s, hs⟩ h0
      simp only at t
      rw [if_neg (by rw [kn_eq0 (by omega)]; exact h0), nI_1, kn_sub1 (by omega), kn_and, ih _ _ t.2 (by omega)]
      congr 2
      omega
theorem md_bitsOf {n s : Nat} (hn : 100 ≤ n) (hs : s < 64) : f_MD_bitsOf n (nI s) = some (nI (zPc s)) := by
  have := zPc_le s
  unfold f_MD_bitsOf
  rw [show lp_MD_bitsOf_4 n n 0 (nI s) = _ from md_bits_lp n n s 0 hs (by omega), kn_bs, Nat.zero_add]
def zFew (p : Nat → Bool) (set : Nat) (s : Option Nat) : Option Nat := match s with | none => if p set = true then some set else none | some b => if zPc b ≤ zPc set then some b else if p set = true then some set else some b
def zFewI (s : Option Nat) : Int32 := match s with | none => -1 | some b => nI b
def zFewO (p : Nat → Bool) (c : Nat) : Option Nat := zFold (fun i s => zFew p i s) none c
theorem zFewO_s (p : Nat → Bool) (c : Nat) : zFewO p (c + 1) = zFew p c (zFewO p c) := rfl
theorem zFewO_lt (p : Nat → Bool) : ∀ c q, zFewO p c = some q → q < c := by
  intro c
  induction c with
  | zero => intro q h; cases h
  | succ c ih =>
    intro q h
    rw [zFewO_s] at h
    cases e : zFewO p c with
    | none =>
      rw [e] at h
      simp only [zFew] at h
      split at h
      · cases h; omega
      · cases h
    | some b =>
      have := ih b e
      rw [e] at h
      simp only [zFew] at h
      split at h
      · cases h; omega
      · split at h
        · cases h; omega
        · cases h; omega
theorem pow64 {D : List (Nat × Nat)} (h : D.length ≤ 6) : 2 ^ D.length ≤ 64 := Nat.pow_le_pow_right (n := 2) (by decide) h
theorem c_fewest {n : Nat} (hn : 200 ≤ n) {μ : kbM} {W : zW} {D : List (Nat × Nat)} {w : Nat} (h : hOk W D w) (hc : cH μ W D w) : ∃ ν, f_HO_fewestDoors n μ = some (zFewI (zFewO (fun s => zTA W D w s) (2 ^ D.length)), ν) := by
  have h6 := h.l6
  have p6 := pow64 h6
  obtain ⟨μ1, e1, c1, E1⟩ := c_hearAll (n := n) (by omega) h hc
  obtain ⟨m, μ2, hm, e2, c2, t2⟩ := c_layTelling (n := n) (by omega) h c1 E1
  have key := kn_loop (fun k (s : Option Nat) i => lp_HO_fewestDoors_13 n (nI m) μ2 k (zFewI s) (nI i)) (fun i s => zFew (fun s => zTA W D w s) i s) none (2 ^ D.length) (zFewI (zFewO (fun s => zTA W D w s) (2 ^ D.length)))
    (fun k => by
      simp only [lp_HO_fewestDoors_13]
      rw [c2.2.1.1, kn_shl1 (by omega), if_pos (by rw [nI_leI (by omega) (by omega)]; omega)]; rfl)
    (fun k i hi => by
      have q := c_tells hn h hm t2 hi
      rw [show zFold (fun i s => zFew (fun s => zTA W D w s) i s) none i = zFewO (fun s => zTA W D w s) i from rfl]
      have lt := zFewO_lt (fun s => zTA W D w s) i
      generalize zFewO (fun s => zTA W D w s) i = s at lt
      simp only [lp_HO_fewestDoors_13, jn_HO_fewestDoors_42, jn_HO_fewestDoors_47, jn_HO_fewestDoors_65]
      rw [c2.2.1.1, kn_shl1 (by omega), if_neg (by rw [nI_leI (by omega) (by omega)]; omega), q, kn_bs, nI_1]
      cases s with
      | none =>
        rw [if_pos (show zFewI none = -1 from rfl), if_neg (show ¬ (1 : Int32) = 0 by decide), show zFew (fun s => zTA W D w s) i none = if zTA W D w i = true then some i else none from rfl]
        cases zTA W D w i
        · rfl
        · rfl
      | some b =>
        have hb := lt b rfl
        have b1 := kb_bits ⟨b, by omega⟩
        have b2 := kb_bits ⟨i, by omega⟩
        simp only at b1 b2
        have l1 := zPc_le b
        have l2 := zPc_le i
        rw [if_neg (show ¬ zFewI (some b) = -1 by show ¬ nI b = -1; rw [kn_nm1 (by omega)]; exact id), show zFewI (some b) = nI b from rfl, b1, b2, show zFew (fun s => zTA W D w s) i (some b) = if zPc b ≤ zPc i then some b else if zTA W D w i = true then some i else some b from rfl]
        by_cases hle : zPc b ≤ zPc i
        · rw [if_pos (show nI (zPc b) ≤ nI (zPc i) by rw [nI_leI (by omega) (by omega)]; exact hle), if_pos hle]
          rfl
        · rw [if_neg (show ¬ nI (zPc b) ≤ nI (zPc i) by rw [nI_leI (by omega) (by omega)]; exact hle), if_neg (show ¬ (1 : Int32) = 0 by decide), if_neg hle]
          cases zTA W D w i
          · rfl
          · rfl)
    (2 ^ D.length) 0 n (by omega) (by omega)
  refine ⟨μ2, ?_⟩
  unfold f_HO_fewestDoors
  rw [e1, kn_bs, e2, kn_bs, show lp_HO_fewestDoors_13 n (nI m) μ2 n (-1) 0 = _ from key, kn_bs]
theorem m_alike {n : Nat} (hn : 100 ≤ n) {μ : kbM} {W : zW} {D : List (Nat × Nat)} {w : Nat} (h : hOk W D w) (hc : mH μ W D w) {set a b : Nat} (hs : set < 64) (ha : a < W.length) (hb : b < W.length) : f_MD_areAlike n (nI a) (nI b) (nI set) μ = some (zB (zAk W D w set a b)) := by
  have h6 := h.l6
  have h10 := h.l10
  have key := kn_all (lp := fun k i => lp_MD_areAlike_3 n (nI a) (nI b) (nI set) μ k (nI i)) (fun d => !(zBit set d) || (zHr D w d (zRowAt W a) == zHr D w d (zRowAt W b))) D.length (.inr ()) (.inl 0)
    (fun k => by simp (disch := omega) only [kn_if_t, kn_bs, kn_or_l, kn_or_r, kn_inT, nI_clamp, nI_leI, nI_ltI, nI_eq, nI_add, pk_mul, nI_1, kn_eq0, kn_lt0, kn_le0, kn_0le, kn_div, kn_rem, kn_or, kn_and, kn_or0, kn_ad0, kn_shl1, kn_bitB, zBt, zBf, zB1t, zB1f, zB_01, zB_10, kl_2, kl_3, kl_4, kl_5, kl_6, kl_7, kl_8, kl_10, kl_12, kl_13, if_pos, if_neg, ↓reduceIte, eq_self, not_true_eq_false, not_false_eq_true, Nat.add_zero, Nat.or_zero, reduceCtorEq, or_true, true_or, or_false, false_or, decide_true, decide_false, kn_sub1, sb_m1, pk_sub, kW_ne, kW_at, kW_no, kA_ne, kA_eq, ite_self, and_self, true_and, and_true, lp_MD_areAlike_3, hc.2.1.1])
    (fun k i hi hp => by
      have q := md_isOf (a := set) (k := i) (by omega) (by omega)
      have q1 := m_hr (n := n) (by omega) h hc hi (h.row ha)
      have q2 := m_hr (n := n) (by omega) h hc hi (h.row hb)
      have g1 := h.hr i ha
      have g2 := h.hr i hb
      have hp1 : zBit set i = true ∧ ¬ zHr D w i (zRowAt W a) = zHr D w i (zRowAt W b) := by simpa using hp
      rw [hp1.1] at q
      simp (disch := omega) only [kn_if_t, kn_bs, kn_or_l, kn_or_r, kn_inT, nI_clamp, nI_leI, nI_ltI, nI_eq, nI_add, pk_mul, nI_1, kn_eq0, kn_lt0, kn_le0, kn_0le, kn_div, kn_rem, kn_or, kn_and, kn_or0, kn_ad0, kn_shl1, kn_bitB, zBt, zBf, zB1t, zB1f, zB_01, zB_10, kl_2, kl_3, kl_4, kl_5, kl_6, kl_7, kl_8, kl_10, kl_12, kl_13, if_pos, if_neg, ↓reduceIte, eq_self, not_true_eq_false, not_false_eq_true, Nat.add_zero, Nat.or_zero, reduceCtorEq, or_true, true_or, or_false, false_or, decide_true, decide_false, kn_sub1, sb_m1, pk_sub, kW_ne, kW_at, kW_no, kA_ne, kA_eq, ite_self, and_self, true_and, and_true, lp_MD_areAlike_3, hc.2.1.1, q, (hc.1.2 a ha).1, (hc.1.2 b hb).1, q1, q2, hp1.2])
    (fun k i hi hp => by
      have q := md_isOf (a := set) (k := i) (by omega) (by omega)
      have q1 := m_hr (n := n) (by omega) h hc hi (h.row ha)
      have q2 := m_hr (n := n) (by omega) h hc hi (h.row hb)
      have g1 := h.hr i ha
      have g2 := h.hr i hb
      cases hb0 : zBit set i
      · rw [hb0] at q
        simp (disch := omega) only [kn_if_t, kn_bs, kn_or_l, kn_or_r, kn_inT, nI_clamp, nI_leI, nI_ltI, nI_eq, nI_add, pk_mul, nI_1, kn_eq0, kn_lt0, kn_le0, kn_0le, kn_div, kn_rem, kn_or, kn_and, kn_or0, kn_ad0, kn_shl1, kn_bitB, zBt, zBf, zB1t, zB1f, zB_01, zB_10, kl_2, kl_3, kl_4, kl_5, kl_6, kl_7, kl_8, kl_10, kl_12, kl_13, if_pos, if_neg, ↓reduceIte, eq_self, not_true_eq_false, not_false_eq_true, Nat.add_zero, Nat.or_zero, reduceCtorEq, or_true, true_or, or_false, false_or, decide_true, decide_false, kn_sub1, sb_m1, pk_sub, kW_ne, kW_at, kW_no, kA_ne, kA_eq, ite_self, and_self, true_and, and_true, lp_MD_areAlike_3, jn_MD_areAlike_52, hc.2.1.1, q]
      · rw [hb0] at q hp
        have hp1 : zHr D w i (zRowAt W a) = zHr D w i (zRowAt W b) := by simpa using hp
        simp (disch := omega) only [kn_if_t, kn_bs, kn_or_l, kn_or_r, kn_inT, nI_clamp, nI_leI, nI_ltI, nI_eq, nI_add, pk_mul, nI_1, kn_eq0, kn_lt0, kn_le0, kn_0le, kn_div, kn_rem, kn_or, kn_and, kn_or0, kn_ad0, kn_shl1, kn_bitB, zBt, zBf, zB1t, zB1f, zB_01, zB_10, kl_2, kl_3, kl_4, kl_5, kl_6, kl_7, kl_8, kl_10, kl_12, kl_13, if_pos, if_neg, ↓reduceIte, eq_self, not_true_eq_false, not_false_eq_true, Nat.add_zero, Nat.or_zero, reduceCtorEq, or_true, true_or, or_false, false_or, decide_true, decide_false, kn_sub1, sb_m1, pk_sub, kW_ne, kW_at, kW_no, kA_ne, kA_eq, ite_self, and_self, true_and, and_true, lp_MD_areAlike_3, jn_MD_areAlike_52, hc.2.1.1, q, (hc.1.2 a ha).1, (hc.1.2 b hb).1, q1, q2, hp1])
    D.length 0 n (by omega) (by omega) rfl
  unfold f_MD_areAlike
  rw [show lp_MD_areAlike_3 n (nI a) (nI b) (nI set) μ n 0 = _ from key]
  unfold zAk
  cases zAll (fun d => !(zBit set d) || (zHr D w d (zRowAt W a) == zHr D w d (zRowAt W b))) D.length <;> rfl
theorem m_tells {n : Nat} (hn : 100 ≤ n) {μ : kbM} {W : zW} {D : List (Nat × Nat)} {w : Nat} (h : hOk W D w) (hc : mH μ W D w) {set : Nat} (hs : set < 64) : f_MD_tellsApart n (nI set) μ = some (zB (zTA W D w set)) := by
  have h10 := h.l10
  have inner : ∀ a, a < W.length → lp_MD_tellsApart_14 n (nI set) (nI a) μ n (nI (a + 1)) = some (if zAll (fun j => !(zAk W D w set a (a + 1 + j))) (W.length - (a + 1)) = true then .inr () else .inl 0) := by
    intro a ha
    exact kn_all (lp := fun k i => lp_MD_tellsApart_14 n (nI set) (nI a) μ k (nI (a + 1 + i))) (fun j => !(zAk W D w set a (a + 1 + j))) (W.length - (a + 1)) (.inr ()) (.inl 0)
      (fun k => by simp (disch := omega) only [kn_if_t, kn_bs, kn_or_l, kn_or_r, kn_inT, nI_clamp, nI_leI, nI_ltI, nI_eq, nI_add, pk_mul, nI_1, kn_eq0, kn_lt0, kn_le0, kn_0le, kn_div, kn_rem, kn_or, kn_and, kn_or0, kn_ad0, kn_shl1, kn_bitB, zBt, zBf, zB1t, zB1f, zB_01, zB_10, kl_2, kl_3, kl_4, kl_5, kl_6, kl_7, kl_8, kl_10, kl_12, kl_13, if_pos, if_neg, ↓reduceIte, eq_self, not_true_eq_false, not_false_eq_true, Nat.add_zero, Nat.or_zero, reduceCtorEq, or_true, true_or, or_false, false_or, decide_true, decide_false, kn_sub1, sb_m1, pk_sub, kW_ne, kW_at, kW_no, kA_ne, kA_eq, ite_self, and_self, true_and, and_true, lp_MD_tellsApart_14, hc.1.1])
      (fun k i hi hp => by
        have q := m_alike hn h hc hs ha (show a + 1 + i < W.length by omega)
        have hp1 : zAk W D w set a (a + 1 + i) = true := by simpa using hp
        rw [hp1] at q
        simp (disch := omega) only [kn_if_t, kn_bs, kn_or_l, kn_or_r, kn_inT, nI_clamp, nI_leI, nI_ltI, nI_eq, nI_add, pk_mul, nI_1, kn_eq0, kn_lt0, kn_le0, kn_0le, kn_div, kn_rem, kn_or, kn_and, kn_or0, kn_ad0, kn_shl1, kn_bitB, zBt, zBf, zB1t, zB1f, zB_01, zB_10, kl_2, kl_3, kl_4, kl_5, kl_6, kl_7, kl_8, kl_10, kl_12, kl_13, if_pos, if_neg, ↓reduceIte, eq_self, not_true_eq_false, not_false_eq_true, Nat.add_zero, Nat.or_zero, reduceCtorEq, or_true, true_or, or_false, false_or, decide_true, decide_false, kn_sub1, sb_m1, pk_sub, kW_ne, kW_at, kW_no, kA_ne, kA_eq, ite_self, and_self, true_and, and_true, lp_MD_tellsApart_14, hc.1.1, q])
      (fun k i hi hp => by
        have q := m_alike hn h hc hs ha (show a + 1 + i < W.length by omega)
        have hp1 : zAk W D w set a (a + 1 + i) = false := by simpa using hp
        rw [hp1] at q
        simp (disch := omega) only [kn_if_t, kn_bs, kn_or_l, kn_or_r, kn_inT, nI_clamp, nI_leI, nI_ltI, nI_eq, nI_add, pk_mul, nI_1, kn_eq0, kn_lt0, kn_le0, kn_0le, kn_div, kn_rem, kn_or, kn_and, kn_or0, kn_ad0, kn_shl1, kn_bitB, zBt, zBf, zB1t, zB1f, zB_01, zB_10, kl_2, kl_3, kl_4, kl_5, kl_6, kl_7, kl_8, kl_10, kl_12, kl_13, if_pos, if_neg, ↓reduceIte, eq_self, not_true_eq_false, not_false_eq_true, Nat.add_zero, Nat.or_zero, reduceCtorEq, or_true, true_or, or_false, false_or, decide_true, decide_false, kn_sub1, sb_m1, pk_sub, kW_ne, kW_at, kW_no, kA_ne, kA_eq, ite_self, and_self, true_and, and_true, lp_MD_tellsApart_14, hc.1.1, q, ← Nat.add_assoc])
      (W.length - (a + 1)) 0 n (by omega) (by omega) rfl
  have key := kn_all (lp := fun k i => lp_MD_tellsApart_2 n (nI set) μ k (nI i)) (fun a => zAll (fun j => !(zAk W D w set a (a + 1 + j))) (W.length - (a + 1))) W.length (.inr ()) (.inl 0)
    (fun k => by simp (disch := omega) only [kn_if_t, kn_bs, kn_or_l, kn_or_r, kn_inT, nI_clamp, nI_leI, nI_ltI, nI_eq, nI_add, pk_mul, nI_1, kn_eq0, kn_lt0, kn_le0, kn_0le, kn_div, kn_rem, kn_or, kn_and, kn_or0, kn_ad0, kn_shl1, kn_bitB, zBt, zBf, zB1t, zB1f, zB_01, zB_10, kl_2, kl_3, kl_4, kl_5, kl_6, kl_7, kl_8, kl_10, kl_12, kl_13, if_pos, if_neg, ↓reduceIte, eq_self, not_true_eq_false, not_false_eq_true, Nat.add_zero, Nat.or_zero, reduceCtorEq, or_true, true_or, or_false, false_or, decide_true, decide_false, kn_sub1, sb_m1, pk_sub, kW_ne, kW_at, kW_no, kA_ne, kA_eq, ite_self, and_self, true_and, and_true, lp_MD_tellsApart_2, hc.1.1])
    (fun k i hi hp => by
      have q := inner i hi
      try simp only at hp
      rw [hp, if_neg (by decide)] at q
      simp (disch := omega) only [kn_if_t, kn_bs, kn_or_l, kn_or_r, kn_inT, nI_clamp, nI_leI, nI_ltI, nI_eq, nI_add, pk_mul, nI_1, kn_eq0, kn_lt0, kn_le0, kn_0le, kn_div, kn_rem, kn_or, kn_and, kn_or0, kn_ad0, kn_shl1, kn_bitB, zBt, zBf, zB1t, zB1f, zB_01, zB_10, kl_2, kl_3, kl_4, kl_5, kl_6, kl_7, kl_8, kl_10, kl_12, kl_13, if_pos, if_neg, ↓reduceIte, eq_self, not_true_eq_false, not_false_eq_true, Nat.add_zero, Nat.or_zero, reduceCtorEq, or_true, true_or, or_false, false_or, decide_true, decide_false, kn_sub1, sb_m1, pk_sub, kW_ne, kW_at, kW_no, kA_ne, kA_eq, ite_self, and_self, true_and, and_true, lp_MD_tellsApart_2, hc.1.1, q])
    (fun k i hi hp => by
      have q := inner i hi
      try simp only at hp
      rw [hp, if_pos rfl] at q
      simp (disch := omega) only [kn_if_t, kn_bs, kn_or_l, kn_or_r, kn_inT, nI_clamp, nI_leI, nI_ltI, nI_eq, nI_add, pk_mul, nI_1, kn_eq0, kn_lt0, kn_le0, kn_0le, kn_div, kn_rem, kn_or, kn_and, kn_or0, kn_ad0, kn_shl1, kn_bitB, zBt, zBf, zB1t, zB1f, zB_01, zB_10, kl_2, kl_3, kl_4, kl_5, kl_6, kl_7, kl_8, kl_10, kl_12, kl_13, if_pos, if_neg, ↓reduceIte, eq_self, not_true_eq_false, not_false_eq_true, Nat.add_zero, Nat.or_zero, reduceCtorEq, or_true, true_or, or_false, false_or, decide_true, decide_false, kn_sub1, sb_m1, pk_sub, kW_ne, kW_at, kW_no, kA_ne, kA_eq, ite_self, and_self, true_and, and_true, lp_MD_tellsApart_2, hc.1.1, q])
    W.length 0 n (by omega) (by omega) rfl
  unfold f_MD_tellsApart
  rw [show lp_MD_tellsApart_2 n (nI set) μ n 0 = _ from key]
  unfold zTA
  cases zAll (fun a => zAll (fun j => !(zAk W D w set a (a + 1 + j))) (W.length - (a + 1))) W.length <;> rfl
theorem m_fewest {n : Nat} (hn : 200 ≤ n) {μ : kbM} {W : zW} {D : List (Nat × Nat)} {w : Nat} (h : hOk W D w) (hc : mH μ W D w) : lp_MD_tellApart_9 n μ n (-1) 0 = some (zFewI (zFewO (fun s => zTA W D w s) (2 ^ D.length))) := by
  have h6 := h.l6
  have p6 := pow64 h6
  exact kn_loop (fun k (s : Option Nat) i => lp_MD_tellApart_9 n μ k (zFewI s) (nI i)) (fun i s => zFew (fun s => zTA W D w s) i s) none (2 ^ D.length) (zFewI (zFewO (fun s => zTA W D w s) (2 ^ D.length)))
    (fun k => by
      simp only [lp_MD_tellApart_9]
      rw [hc.2.1.1, kn_shl1 (by omega), if_pos (by rw [nI_leI (by omega) (by omega)]; omega)]; rfl)
    (fun k i hi => by
      have q := m_tells (n := n) (by omega) h hc (show i < 64 by omega)
      rw [show zFold (fun i s => zFew (fun s => zTA W D w s) i s) none i = zFewO (fun s => zTA W D w s) i from rfl]
      have lt := zFewO_lt (fun s => zTA W D w s) i
      generalize zFewO (fun s => zTA W D w s) i = s at lt
      simp only [lp_MD_tellApart_9, jn_MD_tellApart_37, jn_MD_tellApart_47]
      rw [hc.2.1.1, kn_shl1 (by omega), if_neg (by rw [nI_leI (by omega) (by omega)]; omega), q, kn_bs, nI_1]
      cases s with
      | none =>
        rw [if_pos (show zFewI none = -1 from rfl), show zFew (fun s => zTA W D w s) i none = if zTA W D w i = true then some i else none from rfl]
        cases zTA W D w i
        · rfl
        · rfl
      | some b =>
        have hb := lt b rfl
        have b1 := md_bitsOf (n := n) (s := b) (by omega) (by omega)
        have b2 := md_bitsOf (n := n) (s := i) (by omega) (by omega)
        have l1 := zPc_le b
        have l2 := zPc_le i
        rw [if_neg (show ¬ zFewI (some b) = -1 by show ¬ nI b = -1; rw [kn_nm1 (by omega)]; exact id), show zFewI (some b) = nI b from rfl, b2, kn_bs, b1, kn_bs, show zFew (fun s => zTA W D w s) i (some b) = if zPc b ≤ zPc i then some b else if zTA W D w i = true then some i else some b from rfl]
        by_cases hle : zPc b ≤ zPc i
        · rw [if_pos (show nI (zPc b) ≤ nI (zPc i) by rw [nI_leI (by omega) (by omega)]; exact hle), if_pos hle]
          rfl
        · rw [if_neg (show ¬ nI (zPc b) ≤ nI (zPc i) by rw [nI_leI (by omega) (by omega)]; exact hle), if_neg hle]
          cases zTA W D w i
          · rfl
          · rfl)
    (2 ^ D.length) 0 n (by omega) (by omega)
theorem op_20 {n : Nat} (hn : 5000 ≤ n) {μ : kbM} (hI : kbInv μ) : ∃ μ', c_law_20 n μ = some μ' ∧ kbInv μ' := by
  obtain ⟨A, hA, hC, hM⟩ := hI
  obtain ⟨ν, e⟩ := c_fewest (n := n) (by omega) hA.H hC.H
  have f := fr_f_HO_fewestDoors e
  have hC1 := hC.fr f (by decide) (by decide)
  have hM1 := hM.fr f (by decide) (by decide)
  have hM' := hM1.c0 0
  refine ⟨kbW ν 57 3 0, ?_, A, hA, hC1.c0 0, hM'⟩
  unfold c_law_20 f_KB_tellApart f_MD_tellApart
  rw [e]
  simp only [kn_bs]
  rw [m_fewest (n := n) (by omega) hA.H hM'.H]
  simp only [kn_bs, if_true]
