/-! acts are kept: class and model -/
def zKeep (G : List (zAct × zSt)) (a : zAct) (s : zSt) : List (zAct × zSt) := (if G.length = 40 then G.tail else G) ++ [(a, s)]
theorem zKeep_len {G : List (zAct × zSt)} (h : G.length ≤ 40) (a : zAct) (s : zSt) : (zKeep G a s).length ≤ 40 := by
  unfold zKeep
  rw [List.length_append]
  split
  · simp; omega
  · simp; omega
theorem zChain_tail {d : Nat} {q : zAct × zSt} {G : List (zAct × zSt)} {s : zSt} (h : zChain d (q :: G) s) : zChain d G s := by
  cases G with
  | nil => trivial
  | cons q' G => exact h.2
theorem zChain_app {d : Nat} {a : zAct} {s t : zSt} (ha : zActOk d a s t) : ∀ {G : List (zAct × zSt)}, zChain d G s → zChain d (G ++ [(a, s)]) t := by
  intro G
  induction G with
  | nil => intro _; exact ha
  | cons q G ih =>
    intro h
    cases G with
    | nil => exact ⟨h, ha⟩
    | cons q' G => exact ⟨h.1, ih h.2⟩
theorem zChain_un {d : Nat} {a : zAct} {s t : zSt} : ∀ {G : List (zAct × zSt)}, zChain d (G ++ [(a, s)]) t → zChain d G s ∧ zActOk d a s t := by
  intro G
  induction G with
  | nil => intro h; exact ⟨trivial, h⟩
  | cons q G ih =>
    intro h
    cases G with
    | nil => exact ⟨h.1, h.2⟩
    | cons q' G => exact ⟨⟨h.1, (ih h.2).1⟩, (ih h.2).2⟩
theorem zKeep_chain {d : Nat} {a : zAct} {s t : zSt} {G : List (zAct × zSt)} (h : zChain d G s) (ha : zActOk d a s t) : zChain d (zKeep G a s) t := by
  unfold zKeep
  apply zChain_app ha
  split
  · cases G with
    | nil => trivial
    | cons q G => exact zChain_tail h
  · exact h
theorem zKeep_mem {a : zAct} {s : zSt} {G : List (zAct × zSt)} {P : zSt → Prop} (h : ∀ q ∈ G, P q.2) (hs : P s) : ∀ q ∈ zKeep G a s, P q.2 := by
  intro q hq
  unfold zKeep at hq
  rcases List.mem_append.mp hq with hq | hq
  · split at hq
    · exact h q (List.mem_of_mem_tail hq)
    · exact h q hq
  · simp only [List.mem_singleton] at hq
    rw [hq]; exact hs
theorem c_keep1 {μ : kbM} {G : List (zAct × zSt)} (h5 : μ.1 12 5 = nI G.length) (hL : cLog μ 18 G) (hl : G.length < 40) (a : zAct) (s : zSt) : ∃ μ', jn_ST_keepAct_12_31 (nI a.1) (nI a.2.1) (nI a.2.2.1) (nI a.2.2.2.1) (nI a.2.2.2.2) μ = some μ' ∧ cLog μ' 18 (G ++ [(a, s)]) ∧ μ'.1 12 5 = nI (G ++ [(a, s)]).length ∧ (∀ c, c ≠ 12 → c ≠ 18 → μ'.1 c = μ.1 c) ∧ (∀ k, k ≠ 5 → μ'.1 12 k = μ.1 12 k) := by
  refine ⟨kbW (kbW (kbW (kbW (kbW (kbW μ 18 (G.length * 5) (nI a.1)) 18 (G.length * 5 + 1) (nI a.2.1)) 18 (G.length * 5 + 2) (nI a.2.2.1)) 18 (G.length * 5 + 3) (nI a.2.2.2.1)) 18 (G.length * 5 + 4) (nI a.2.2.2.2)) 12 5 (nI (G.length + 1)), ?_, ?_, ?_, ?_, ?_⟩
  · simp (disch := omega) only [kn_if_t, kn_bs, kn_or_l, kn_or_r, kn_inT, nI_clamp, nI_leI, nI_ltI, nI_eq, nI_add, pk_mul, nI_1, kn_eq0, kn_lt0, kn_le0, kn_0le, kn_div, kn_rem, kn_or, kn_and, kn_or0, kn_ad0, kn_shl1, kn_bitB, zBt, zBf, zB1t, zB1f, zB_01, zB_10, kl_2, kl_3, kl_4, kl_5, kl_6, kl_7, kl_8, kl_10, kl_12, kl_13, if_pos, if_neg, ↓reduceIte, eq_self, not_true_eq_false, not_false_eq_true, Nat.add_zero, Nat.or_zero, reduceCtorEq, or_true, true_or, or_false, false_or, decide_true, decide_false, kn_sub1, sb_m1, pk_sub, kW_ne, kW_at, kW_no, kA_ne, kA_eq, ite_self, and_self, true_and, and_true, jn_ST_keepAct_12_31, h5]
  · intro i hi q hq
    rw [List.length_append] at hi
    simp only [List.length_singleton] at hi
    rw [Nat.mul_comm 5 i]
    by_cases h : i < G.length
    · rw [List.getElem?_append_left h] at hq
      have := hL i h q hq
      rw [Nat.mul_comm 5 i] at this
      simp (disch := omega) only [kn_if_t, kn_bs, kn_or_l, kn_or_r, kn_inT, nI_clamp, nI_leI, nI_ltI, nI_eq, nI_add, pk_mul, nI_1, kn_eq0, kn_lt0, kn_le0, kn_0le, kn_div, kn_rem, kn_or, kn_and, kn_or0, kn_ad0, kn_shl1, kn_bitB, zBt, zBf, zB1t, zB1f, zB_01, zB_10, kl_2, kl_3, kl_4, kl_5, kl_6, kl_7, kl_8, kl_10, kl_12, kl_13, if_pos, if_neg, ↓reduceIte, eq_self, not_true_eq_false, not_false_eq_true, Nat.add_zero, Nat.or_zero, reduceCtorEq, or_true, true_or, or_false, false_or, decide_true, decide_false, kn_sub1, sb_m1, pk_sub, kW_ne, kW_at, kW_no, kA_ne, kA_eq, ite_self, and_self, true_and, and_true, this.1, this.2.1, this.2.2.1, this.2.2.2.1, this.2.2.2.2, and_self]
    · have e : i = G.length := by omega
      subst e
      rw [List.getElem?_append_right (Nat.le_refl _), Nat.sub_self] at hq
      cases hq
      simp (disch := omega) only [kn_if_t, kn_bs, kn_or_l, kn_or_r, kn_inT, nI_clamp, nI_leI, nI_ltI, nI_eq, nI_add, pk_mul, nI_1, kn_eq0, kn_lt0, kn_le0, kn_0le, kn_div, kn_rem, kn_or, kn_and, kn_or0, kn_ad0, kn_shl1, kn_bitB, zBt, zBf, zB1t, zB1f, zB_01, zB_10, kl_2, kl_3, kl_4, kl_5, kl_6, kl_7, kl_8, kl_10, kl_12, kl_13, if_pos, if_neg, ↓reduceIte, eq_self, not_true_eq_false, not_false_eq_true, Nat.add_zero, Nat.or_zero, reduceCtorEq, or_true, true_or, or_false, false_or, decide_true, decide_false, kn_sub1, sb_m1, pk_sub, kW_ne, kW_at, kW_no, kA_ne, kA_eq, ite_self, and_self, true_and, and_true, and_self]
  · rw [kW_at, List.length_append]; rfl
  · intro c h1 h2
    rw [kW_ne h1, kW_ne h2, kW_ne h2, kW_ne h2, kW_ne h2, kW_ne h2]
  · intro k hk
    rw [kW_no hk]
    simp (disch := omega) only [kn_if_t, kn_bs, kn_or_l, kn_or_r, kn_inT, nI_clamp, nI_leI, nI_ltI, nI_eq, nI_add, pk_mul, nI_1, kn_eq0, kn_lt0, kn_le0, kn_0le, kn_div, kn_rem, kn_or, kn_and, kn_or0, kn_ad0, kn_shl1, kn_bitB, zBt, zBf, zB1t, zB1f, zB_01, zB_10, kl_2, kl_3, kl_4, kl_5, kl_6, kl_7, kl_8, kl_10, kl_12, kl_13, if_pos, if_neg, ↓reduceIte, eq_self, not_true_eq_false, not_false_eq_true, Nat.add_zero, Nat.or_zero, reduceCtorEq, or_true, true_or, or_false, false_or, decide_true, decide_false, kn_sub1, sb_m1, pk_sub, kW_ne, kW_at, kW_no, kA_ne, kA_eq, ite_self, and_self, true_and, and_true]
theorem c_keep {μ : kbM} {G : List (zAct × zSt)} (h5 : μ.1 12 5 = nI G.length) (hL : cLog μ 18 G) (hl : G.length ≤ 40) (a : zAct) (s : zSt) : ∃ μ', f_ST_keepAct_12 (nI a.1) (nI a.2.1) (nI a.2.2.1) (nI a.2.2.2.1) (nI a.2.2.2.2) μ = some μ' ∧ cLog μ' 18 (zKeep G a s) ∧ μ'.1 12 5 = nI (zKeep G a s).length ∧ (∀ c, c ≠ 12 → c ≠ 18 → μ'.1 c = μ.1 c) ∧ (∀ k, k ≠ 5 → μ'.1 12 k = μ.1 12 k) := by
  unfold f_ST_keepAct_12 zKeep
  rw [h5, show (40 : Int32) = nI 40 from rfl]
  by_cases h : G.length = 40
  · rw [if_neg (by rw [nI_ltI (by omega) (by decide)]; omega), if_pos h]
    have ht : G.tail.length = 39 := by rw [List.length_tail, h]
    obtain ⟨μ', e, g1, g2, g3, g4⟩ := c_keep1 (μ := kbW (kbA μ 18 (va_cpy (μ.1 18) (μ.1 18) 5 0 195)) 12 5 39) (G := G.tail) (by rw [kW_at, ht]; rfl) (fun i hi q hq => by
      rw [List.getElem?_tail] at hq
      have := hL (i + 1) (by omega) q hq
      rw [kW_ne (by decide), kA_eq]
      rw [pk_cpy_in (by omega) (by omega), pk_cpy_in (by omega) (by omega), pk_cpy_in (by omega) (by omega), pk_cpy_in (by omega) (by omega), pk_cpy_in (by omega) (by omega)]
      rw [show 5 + (5 * i - 0) = 5 * (i + 1) by omega, show 5 + (5 * i + 1 - 0) = 5 * (i + 1) + 1 by omega, show 5 + (5 * i + 2 - 0) = 5 * (i + 1) + 2 by omega, show 5 + (5 * i + 3 - 0) = 5 * (i + 1) + 3 by omega, show 5 + (5 * i + 4 - 0) = 5 * (i + 1) + 4 by omega]
      exact this) (by omega) a s
    refine ⟨μ', e, g1, g2, fun c h1 h2 => ?_, fun k hk => ?_⟩
    · rw [g3 c h1 h2, kW_ne h1, kA_ne h2]
    · rw [g4 k hk, kW_no hk, kA_ne (by decide)]
  · rw [if_pos (by rw [nI_ltI (by omega) (by decide)]; omega), if_neg h]
    exact c_keep1 h5 hL (by omega) a s
theorem mPack.congr {μ μ' : kbM} {c o c' o' : Nat} {s : zSt} (hl : s.1.length ≤ 10) (h : ∀ j, j < 32 → μ'.1 c' (o' + j) = μ.1 c (o + j)) (q : mPack μ c o s) : mPack μ' c' o' s := by
  refine ⟨by have := h 0 (by decide); rw [Nat.add_zero, Nat.add_zero] at this; rw [this]; exact q.1, by rw [h 1 (by decide)]; exact q.2.1, fun i hi => ?_⟩
  have := q.2.2 i hi
  rw [Nat.add_assoc, Nat.add_assoc, Nat.add_assoc, h _ (by omega), h _ (by omega), h _ (by omega), ← Nat.add_assoc, ← Nat.add_assoc, ← Nat.add_assoc]
  exact this
theorem m_pack_73 {n : Nat} (hn : 100 ≤ n) {μ : kbM} {W : zW} {w o : Nat} (hc : mWords μ W) (hl : W.length ≤ 10) (hw : μ.1 57 28 = nI w) (ho : o + 32 ≤ 1280) : ∃ μ', f_MD_pack_73 n (nI o) μ = some μ' ∧ mPack μ' 73 o (W, w) ∧ (∀ c, c ≠ 73 → μ'.1 c = μ.1 c) ∧ ∀ q, (q < o ∨ o + 32 ≤ q) → μ'.1 73 q = μ.1 73 q := by
  obtain ⟨ν, e, hA, hB, hD⟩ := kn_for (fun k (s : Int32 × kbM) => lp_MD_pack_73_18 n (nI o) k s.1 s.2)
    (fun j s => s.1 = nI j ∧ (∀ c, c ≠ 73 → s.2.1 c = μ.1 c) ∧ (∀ q, (q < o + 2 ∨ o + 32 ≤ q) → s.2.1 73 q = (kbW (kbW μ 73 o (nI W.length)) 73 (o + 1) (nI w)).1 73 q) ∧ ∀ i, i < j → s.2.1 73 (o + 2 + i) = μ.1 70 i ∧ s.2.1 73 (o + 2 + 10 + i) = μ.1 71 i ∧ s.2.1 73 (o + 2 + 20 + i) = μ.1 72 i) 10
    (fun ν => (∀ c, c ≠ 73 → ν.1 c = μ.1 c) ∧ (∀ q, (q < o + 2 ∨ o + 32 ≤ q) → ν.1 73 q = (kbW (kbW μ 73 o (nI W.length)) 73 (o + 1) (nI w)).1 73 q) ∧ ∀ i, i < 10 → ν.1 73 (o + 2 + i) = μ.1 70 i ∧ ν.1 73 (o + 2 + 10 + i) = μ.1 71 i ∧ ν.1 73 (o + 2 + 20 + i) = μ.1 72 i)
    (fun k s hs => by
      obtain ⟨v, ν⟩ := s
      simp only at hs
      obtain ⟨rfl, h1, h2, h3⟩ := hs
      exact ⟨ν, by simp (disch := omega) only [kn_if_t, kn_bs, kn_or_l, kn_or_r, kn_inT, nI_clamp, nI_leI, nI_ltI, nI_eq, nI_add, pk_mul, nI_1, kn_eq0, kn_lt0, kn_le0, kn_0le, kn_div, kn_rem, kn_or, kn_and, kn_or0, kn_ad0, kn_shl1, kn_bitB, zBt, zBf, zB1t, zB1f, zB_01, zB_10, kl_2, kl_3, kl_4, kl_5, kl_6, kl_7, kl_8, kl_10, kl_12, kl_13, if_pos, if_neg, ↓reduceIte, eq_self, not_true_eq_false, not_false_eq_true, Nat.add_zero, Nat.or_zero, reduceCtorEq, or_true, true_or, or_false, false_or, decide_true, decide_false, kn_sub1, sb_m1, pk_sub, kW_ne, kW_at, kW_no, kA_ne, kA_eq, ite_self, and_self, true_and, and_true, lp_MD_pack_73_18], h1, h2, h3⟩)
    (fun k j s hj hs => by
      obtain ⟨v, ν⟩ := s
      simp only at hs
      obtain ⟨rfl, h1, h2, h3⟩ := hs
      try simp only at h1 h2 h3
      have g0 := h1 70 (by decide)
      have g1 := h1 71 (by decide)
      have g2 := h1 72 (by decide)
      refine Or.inr ⟨(nI (j + 1), kbW (kbW (kbW ν 73 (o + 2 + j) (μ.1 70 j)) 73 (o + 2 + 10 + j) (μ.1 71 j)) 73 (o + 2 + 20 + j) (μ.1 72 j)), ?_, rfl, fun c hc => ?_, fun q hq => ?_, fun i hi => ?_⟩
      · simp (disch := omega) only [kn_if_t, kn_bs, kn_or_l, kn_or_r, kn_inT, nI_clamp, nI_leI, nI_ltI, nI_eq, nI_add, pk_mul, nI_1, kn_eq0, kn_lt0, kn_le0, kn_0le, kn_div, kn_rem, kn_or, kn_and, kn_or0, kn_ad0, kn_shl1, kn_bitB, zBt, zBf, zB1t, zB1f, zB_01, zB_10, kl_2, kl_3, kl_4, kl_5, kl_6, kl_7, kl_8, kl_10, kl_12, kl_13, if_pos, if_neg, ↓reduceIte, eq_self, not_true_eq_false, not_false_eq_true, Nat.add_zero, Nat.or_zero, reduceCtorEq, or_true, true_or, or_false, false_or, decide_true, decide_false, kn_sub1, sb_m1, pk_sub, kW_ne, kW_at, kW_no, kA_ne, kA_eq, ite_self, and_self, true_and, and_true, lp_MD_pack_73_18, g0, g1, g2, show (20 : Int32) = nI 20 from rfl]
      · show (kbW (kbW (kbW ν 73 (o + 2 + j) (μ.1 70 j)) 73 (o + 2 + 10 + j) (μ.1 71 j)) 73 (o + 2 + 20 + j) (μ.1 72 j)).1 c = _
        rw [kW_ne hc, kW_ne hc, kW_ne hc]; exact h1 c hc
      · show (kbW (kbW (kbW ν 73 (o + 2 + j) (μ.1 70 j)) 73 (o + 2 + 10 + j) (μ.1 71 j)) 73 (o + 2 + 20 + j) (μ.1 72 j)).1 73 q = _
        rw [kW_no (by omega), kW_no (by omega), kW_no (by omega)]; exact h2 q hq
      · show (kbW (kbW (kbW ν 73 (o + 2 + j) (μ.1 70 j)) 73 (o + 2 + 10 + j) (μ.1 71 j)) 73 (o + 2 + 20 + j) (μ.1 72 j)).1 73 (o + 2 + i) = _ ∧ (kbW (kbW (kbW ν 73 (o + 2 + j) (μ.1 70 j)) 73 (o + 2 + 10 + j) (μ.1 71 j)) 73 (o + 2 + 20 + j) (μ.1 72 j)).1 73 (o + 2 + 10 + i) = _ ∧ (kbW (kbW (kbW ν 73 (o + 2 + j) (μ.1 70 j)) 73 (o + 2 + 10 + j) (μ.1 71 j)) 73 (o + 2 + 20 + j) (μ.1 72 j)).1 73 (o + 2 + 20 + i) = _
        by_cases e : i = j
        · subst e
          simp (disch := omega) only [kn_if_t, kn_bs, kn_or_l, kn_or_r, kn_inT, nI_clamp, nI_leI, nI_ltI, nI_eq, nI_add, pk_mul, nI_1, kn_eq0, kn_lt0, kn_le0, kn_0le, kn_div, kn_rem, kn_or, kn_and, kn_or0, kn_ad0, kn_shl1, kn_bitB, zBt, zBf, zB1t, zB1f, zB_01, zB_10, kl_2, kl_3, kl_4, kl_5, kl_6, kl_7, kl_8, kl_10, kl_12, kl_13, if_pos, if_neg, ↓reduceIte, eq_self, not_true_eq_false, not_false_eq_true, Nat.add_zero, Nat.or_zero, reduceCtorEq, or_true, true_or, or_false, false_or, decide_true, decide_false, kn_sub1, sb_m1, pk_sub, kW_ne, kW_at, kW_no, kA_ne, kA_eq, ite_self, and_self, true_and, and_true, and_self]
        · have := h3 i (by omega)
          simp (disch := omega) only [kn_if_t, kn_bs, kn_or_l, kn_or_r, kn_inT, nI_clamp, nI_leI, nI_ltI, nI_eq, nI_add, pk_mul, nI_1, kn_eq0, kn_lt0, kn_le0, kn_0le, kn_div, kn_rem, kn_or, kn_and, kn_or0, kn_ad0, kn_shl1, kn_bitB, zBt, zBf, zB1t, zB1f, zB_01, zB_10, kl_2, kl_3, kl_4, kl_5, kl_6, kl_7, kl_8, kl_10, kl_12, kl_13, if_pos, if_neg, ↓reduceIte, eq_self, not_true_eq_false, not_false_eq_true, Nat.add_zero, Nat.or_zero, reduceCtorEq, or_true, true_or, or_false, false_or, decide_true, decide_false, kn_sub1, sb_m1, pk_sub, kW_ne, kW_at, kW_no, kA_ne, kA_eq, ite_self, and_self, true_and, and_true, this.1, this.2.1, this.2.2, and_self])
    10 0 n (0, kbW (kbW μ 73 o (nI W.length)) 73 (o + 1) (nI w)) (by omega) (by omega) ⟨rfl, fun c hc => by show (kbW (kbW μ 73 o (nI W.length)) 73 (o + 1) (nI w)).1 c = _; rw [kW_ne hc, kW_ne hc], fun _ _ => rfl, fun i hi => absurd hi (by omega)⟩
  have e' : lp_MD_pack_73_18 n (nI o) n 0 (kbW (kbW μ 73 o (nI W.length)) 73 (o + 1) (nI w)) = some ν := e
  refine ⟨ν, ?_, ⟨?_, ?_, fun i hi => ?_⟩, hA, fun q hq => ?_⟩
  · simp (disch := omega) only [kn_if_t, kn_bs, kn_or_l, kn_or_r, kn_inT, nI_clamp, nI_leI, nI_ltI, nI_eq, nI_add, pk_mul, nI_1, kn_eq0, kn_lt0, kn_le0, kn_0le, kn_div, kn_rem, kn_or, kn_and, kn_or0, kn_ad0, kn_shl1, kn_bitB, zBt, zBf, zB1t, zB1f, zB_01, zB_10, kl_2, kl_3, kl_4, kl_5, kl_6, kl_7, kl_8, kl_10, kl_12, kl_13, if_pos, if_neg, ↓reduceIte, eq_self, not_true_eq_false, not_false_eq_true, Nat.add_zero, Nat.or_zero, reduceCtorEq, or_true, true_or, or_false, false_or, decide_true, decide_false, kn_sub1, sb_m1, pk_sub, kW_ne, kW_at, kW_no, kA_ne, kA_eq, ite_self, and_self, true_and, and_true, f_MD_pack_73, hc.1, hw, e']
  · rw [hB o (by omega), kW_no (by omega), kW_at]
  · rw [hB (o + 1) (by omega), kW_at]
  · have hi' : i < W.length := hi
    have g := hD i (by omega)
    have w := hc.2 i hi'
    rw [show o + 12 + i = o + 2 + 10 + i by omega, show o + 22 + i = o + 2 + 20 + i by omega, g.1, g.2.1, g.2.2]
    exact w
  · rw [hB q (by omega), kW_no (by omega), kW_no (by omega)]
theorem m_unpack_73 {n : Nat} (hn : 100 ≤ n) {μ : kbM} {s : zSt} {o : Nat} (hc : mPack μ 73 o s) (hl : s.1.length ≤ 10) (ho : o + 32 ≤ 1280) : ∃ μ', f_MD_unpack_73 n (nI o) μ = some μ' ∧ mWords μ' s.1 ∧ μ'.1 57 28 = nI s.2 ∧ (∀ c, c ≠ 57 → c ≠ 70 → c ≠ 71 → c ≠ 72 → μ'.1 c = μ.1 c) ∧ ∀ k, k ≠ 27 → k ≠ 28 → μ'.1 57 k = μ.1 57 k := by
  obtain ⟨ν, e, hA, hD⟩ := kn_for (fun k (s : Int32 × kbM) => lp_MD_unpack_73_18 n (nI o) k s.1 s.2)
    (fun j t => t.1 = nI j ∧ (∀ c, c ≠ 70 → c ≠ 71 → c ≠ 72 → t.2.1 c = (kbW (kbW μ 57 27 (nI s.1.length)) 57 28 (nI s.2)).1 c) ∧ ∀ i, i < j → t.2.1 70 i = μ.1 73 (o + 2 + i) ∧ t.2.1 71 i = μ.1 73 (o + 2 + 10 + i) ∧ t.2.1 72 i = μ.1 73 (o + 2 + 20 + i)) 10
    (fun ν => (∀ c, c ≠ 70 → c ≠ 71 → c ≠ 72 → ν.1 c = (kbW (kbW μ 57 27 (nI s.1.length)) 57 28 (nI s.2)).1 c) ∧ ∀ i, i < 10 → ν.1 70 i = μ.1 73 (o + 2 + i) ∧ ν.1 71 i = μ.1 73 (o + 2 + 10 + i) ∧ ν.1 72 i = μ.1 73 (o + 2 + 20 + i))
    (fun k t hs => by
      obtain ⟨v, ν⟩ := t
      simp only at hs
      obtain ⟨rfl, h1, h2⟩ := hs
      exact ⟨ν, by simp (disch := omega) only [kn_if_t, kn_bs, kn_or_l, kn_or_r, kn_inT, nI_clamp, nI_leI, nI_ltI, nI_eq, nI_add, pk_mul, nI_1, kn_eq0, kn_lt0, kn_le0, kn_0le, kn_div, kn_rem, kn_or, kn_and, kn_or0, kn_ad0, kn_shl1, kn_bitB, zBt, zBf, zB1t, zB1f, zB_01, zB_10, kl_2, kl_3, kl_4, kl_5, kl_6, kl_7, kl_8, kl_10, kl_12, kl_13, if_pos, if_neg, ↓reduceIte, eq_self, not_true_eq_false, not_false_eq_true, Nat.add_zero, Nat.or_zero, reduceCtorEq, or_true, true_or, or_false, false_or, decide_true, decide_false, kn_sub1, sb_m1, pk_sub, kW_ne, kW_at, kW_no, kA_ne, kA_eq, ite_self, and_self, true_and, and_true, lp_MD_unpack_73_18], h1, h2⟩)
    (fun k j t hj hs => by
      obtain ⟨v, ν⟩ := t
      simp only at hs
      obtain ⟨rfl, h1, h2⟩ := hs
      try simp only at h1 h2
      have g0 := h1 73 (by decide) (by decide) (by decide)
      rw [kW_ne (by decide), kW_ne (by decide)] at g0
      refine Or.inr ⟨(nI (j + 1), kbW (kbW (kbW ν 70 j (μ.1 73 (o + 2 + j))) 71 j (μ.1 73 (o + 2 + 10 + j))) 72 j (μ.1 73 (o + 2 + 20 + j))), ?_, rfl, fun c h70 h71 h72 => ?_, fun i hi => ?_⟩
      · simp (disch := omega) only [kn_if_t, kn_bs, kn_or_l, kn_or_r, kn_inT, nI_clamp, nI_leI, nI_ltI, nI_eq, nI_add, pk_mul, nI_1, kn_eq0, kn_lt0, kn_le0, kn_0le, kn_div, kn_rem, kn_or, kn_and, kn_or0, kn_ad0, kn_shl1, kn_bitB, zBt, zBf, zB1t, zB1f, zB_01, zB_10, kl_2, kl_3, kl_4, kl_5, kl_6, kl_7, kl_8, kl_10, kl_12, kl_13, if_pos, if_neg, ↓reduceIte, eq_self, not_true_eq_false, not_false_eq_true, Nat.add_zero, Nat.or_zero, reduceCtorEq, or_true, true_or, or_false, false_or, decide_true, decide_false, kn_sub1, sb_m1, pk_sub, kW_ne, kW_at, kW_no, kA_ne, kA_eq, ite_self, and_self, true_and, and_true, lp_MD_unpack_73_18, g0, show (20 : Int32) = nI 20 from rfl]
      · show (kbW (kbW (kbW ν 70 j (μ.1 73 (o + 2 + j))) 71 j (μ.1 73 (o + 2 + 10 + j))) 72 j (μ.1 73 (o + 2 + 20 + j))).1 c = _
        rw [kW_ne h72, kW_ne h71, kW_ne h70]; exact h1 c h70 h71 h72
      · show (kbW (kbW (kbW ν 70 j (μ.1 73 (o + 2 + j))) 71 j (μ.1 73 (o + 2 + 10 + j))) 72 j (μ.1 73 (o + 2 + 20 + j))).1 70 i = _ ∧ (kbW (kbW (kbW ν 70 j (μ.1 73 (o + 2 + j))) 71 j (μ.1 73 (o + 2 + 10 + j))) 72 j (μ.1 73 (o + 2 + 20 + j))).1 71 i = _ ∧ (kbW (kbW (kbW ν 70 j (μ.1 73 (o + 2 + j))) 71 j (μ.1 73 (o + 2 + 10 + j))) 72 j (μ.1 73 (o + 2 + 20 + j))).1 72 i = _
        by_cases e : i = j
        · subst e
          simp (disch := omega) only [kn_if_t, kn_bs, kn_or_l, kn_or_r, kn_inT, nI_clamp, nI_leI, nI_ltI, nI_eq, nI_add, pk_mul, nI_1, kn_eq0, kn_lt0, kn_le0, kn_0le, kn_div, kn_rem, kn_or, kn_and, kn_or0, kn_ad0, kn_shl1, kn_bitB, zBt, zBf, zB1t, zB1f, zB_01, zB_10, kl_2, kl_3, kl_4, kl_5, kl_6, kl_7, kl_8, kl_10, kl_12, kl_13, if_pos, if_neg, ↓reduceIte, eq_self, not_true_eq_false, not_false_eq_true, Nat.add_zero, Nat.or_zero, reduceCtorEq, or_true, true_or, or_false, false_or, decide_true, decide_false, kn_sub1, sb_m1, pk_sub, kW_ne, kW_at, kW_no, kA_ne, kA_eq, ite_self, and_self, true_and, and_true, and_self]
        · have := h2 i (by omega)
          simp (disch := omega) only [kn_if_t, kn_bs, kn_or_l, kn_or_r, kn_inT, nI_clamp, nI_leI, nI_ltI, nI_eq, nI_add, pk_mul, nI_1, kn_eq0, kn_lt0, kn_le0, kn_0le, kn_div, kn_rem, kn_or, kn_and, kn_or0, kn_ad0, kn_shl1, kn_bitB, zBt, zBf, zB1t, zB1f, zB_01, zB_10, kl_2, kl_3, kl_4, kl_5, kl_6, kl_7, kl_8, kl_10, kl_12, kl_13, if_pos, if_neg, ↓reduceIte, eq_self, not_true_eq_false, not_false_eq_true, Nat.add_zero, Nat.or_zero, reduceCtorEq, or_true, true_or, or_false, false_or, decide_true, decide_false, kn_sub1, sb_m1, pk_sub, kW_ne, kW_at, kW_no, kA_ne, kA_eq, ite_self, and_self, true_and, and_true, this.1, this.2.1, this.2.2, and_self])
    10 0 n (0, kbW (kbW μ 57 27 (nI s.1.length)) 57 28 (nI s.2)) (by omega) (by omega) ⟨rfl, fun _ _ _ _ => rfl, fun i hi => absurd hi (by omega)⟩
  have e' : lp_MD_unpack_73_18 n (nI o) n 0 (kbW (kbW μ 57 27 (nI s.1.length)) 57 28 (nI s.2)) = some ν := e
  have g7 := hA 57 (by decide) (by decide) (by decide)
  refine ⟨ν, ?_, ⟨?_, fun i hi => ?_⟩, ?_, fun c h57 h70 h71 h72 => ?_, fun k hk hk2 => ?_⟩
  · simp (disch := omega) only [kn_if_t, kn_bs, kn_or_l, kn_or_r, kn_inT, nI_clamp, nI_leI, nI_ltI, nI_eq, nI_add, pk_mul, nI_1, kn_eq0, kn_lt0, kn_le0, kn_0le, kn_div, kn_rem, kn_or, kn_and, kn_or0, kn_ad0, kn_shl1, kn_bitB, zBt, zBf, zB1t, zB1f, zB_01, zB_10, kl_2, kl_3, kl_4, kl_5, kl_6, kl_7, kl_8, kl_10, kl_12, kl_13, if_pos, if_neg, ↓reduceIte, eq_self, not_true_eq_false, not_false_eq_true, Nat.add_zero, Nat.or_zero, reduceCtorEq, or_true, true_or, or_false, false_or, decide_true, decide_false, kn_sub1, sb_m1, pk_sub, kW_ne, kW_at, kW_no, kA_ne, kA_eq, ite_self, and_self, true_and, and_true, f_MD_unpack_73, hc.1, hc.2.1, e']
  · rw [g7, kW_no (by decide), kW_at]
  · have g := hD i (by omega)
    have w := hc.2.2 i hi
    rw [show o + 12 + i = o + 2 + 10 + i by omega, show o + 22 + i = o + 2 + 20 + i by omega] at w
    rw [g.1, g.2.1, g.2.2]
    exact w
  · rw [g7, kW_at]
  · rw [hA c h70 h71 h72, kW_ne h57, kW_ne h57]
  · rw [g7, kW_no hk2, kW_no hk]
theorem m_pack_92 {n : Nat} (hn : 100 ≤ n) {μ : kbM} {W : zW} {w o : Nat} (hc : mWords μ W) (hl : W.length ≤ 10) (hw : μ.1 57 28 = nI w) (ho : o + 32 ≤ 32) : ∃ μ', f_MD_pack_92 n (nI o) μ = some μ' ∧ mPack μ' 92 o (W, w) ∧ (∀ c, c ≠ 92 → μ'.1 c = μ.1 c) ∧ ∀ q, (q < o ∨ o + 32 ≤ q) → μ'.1 92 q = μ.1 92 q := by
  obtain ⟨ν, e, hA, hB, hD⟩ := kn_for (fun k (s : Int32 × kbM) => lp_MD_pack_92_18 n (nI o) k s.1 s.2)
    (fun j s => s.1 = nI j ∧ (∀ c, c ≠ 92 → s.2.1 c = μ.1 c) ∧ (∀ q, (q < o + 2 ∨ o + 32 ≤ q) → s.2.1 92 q = (kbW (kbW μ 92 o (nI W.length)) 92 (o + 1) (nI w)).1 92 q) ∧ ∀ i, i < j → s.2.1 92 (o + 2 + i) = μ.1 70 i ∧ s.2.1 92 (o + 2 + 10 + i) = μ.1 71 i ∧ s.2.1 92 (o + 2 + 20 + i) = μ.1 72 i) 10
    (fun ν => (∀ c, c ≠ 92 → ν.1 c = μ.1 c) ∧ (∀ q, (q < o + 2 ∨ o + 32 ≤ q) → ν.1 92 q = (kbW (kbW μ 92 o (nI W.length)) 92 (o + 1) (nI w)).1 92 q) ∧ ∀ i, i < 10 → ν.1 92 (o + 2 + i) = μ.1 70 i ∧ ν.1 92 (o + 2 + 10 + i) = μ.1 71 i ∧ ν.1 92 (o + 2 + 20 + i) = μ.1 72 i)
    (fun k s hs => by
      obtain ⟨v, ν⟩ := s
      simp only at hs
      obtain ⟨rfl, h1, h2, h3⟩ := hs
      exact ⟨ν, by simp (disch := omega) only [kn_if_t, kn_bs, kn_or_l, kn_or_r, kn_inT, nI_clamp, nI_leI, nI_ltI, nI_eq, nI_add, pk_mul, nI_1, kn_eq0, kn_lt0, kn_le0, kn_0le, kn_div, kn_rem, kn_or, kn_and, kn_or0, kn_ad0, kn_shl1, kn_bitB, zBt, zBf, zB1t, zB1f, zB_01, zB_10, kl_2, kl_3, kl_4, kl_5, kl_6, kl_7, kl_8, kl_10, kl_12, kl_13, if_pos, if_neg, ↓reduceIte, eq_self, not_true_eq_false, not_false_eq_true, Nat.add_zero, Nat.or_zero, reduceCtorEq, or_true, true_or, or_false, false_or, decide_true, decide_false, kn_sub1, sb_m1, pk_sub, kW_ne, kW_at, kW_no, kA_ne, kA_eq, ite_self, and_self, true_and, and_true, lp_MD_pack_92_18], h1, h2, h3⟩)
    (fun k j s hj hs => by
      obtain ⟨v, ν⟩ := s
      simp only at hs
      obtain ⟨rfl, h1, h2, h3⟩ := hs
      try simp only at h1 h2 h3
      have g0 := h1 70 (by decide)
      have g1 := h1 71 (by decide)
      have g2 := h1 72 (by decide)
      refine Or.inr ⟨(nI (j + 1), kbW (kbW (kbW ν 92 (o + 2 + j) (μ.1 70 j)) 92 (o + 2 + 10 + j) (μ.1 71 j)) 92 (o + 2 + 20 + j) (μ.1 72 j)), ?_, rfl, fun c hc => ?_, fun q hq => ?_, fun i hi => ?_⟩
      · simp (disch := omega) only [kn_if_t, kn_bs, kn_or_l, kn_or_r, kn_inT, nI_clamp, nI_leI, nI_ltI, nI_eq, nI_add, pk_mul, nI_1, kn_eq0, kn_lt0, kn_le0, kn_0le, kn_div, kn_rem, kn_or, kn_and, kn_or0, kn_ad0, kn_shl1, kn_bitB, zBt, zBf, zB1t, zB1f, zB_01, zB_10, kl_2, kl_3, kl_4, kl_5, kl_6, kl_7, kl_8, kl_10, kl_12, kl_13, if_pos, if_neg, ↓reduceIte, eq_self, not_true_eq_false, not_false_eq_true, Nat.add_zero, Nat.or_zero, reduceCtorEq, or_true, true_or, or_false, false_or, decide_true, decide_false, kn_sub1, sb_m1, pk_sub, kW_ne, kW_at, kW_no, kA_ne, kA_eq, ite_self, and_self, true_and, and_true, lp_MD_pack_92_18, g0, g1, g2, show (20 : Int32) = nI 20 from rfl]
      · show (kbW (kbW (kbW ν 92 (o + 2 + j) (μ.1 70 j)) 92 (o + 2 + 10 + j) (μ.1 71 j)) 92 (o + 2 + 20 + j) (μ.1 72 j)).1 c = _
        rw [kW_ne hc, kW_ne hc, kW_ne hc]; exact h1 c hc
      · show (kbW (kbW (kbW ν 92 (o + 2 + j) (μ.1 70 j)) 92 (o + 2 + 10 + j) (μ.1 71 j)) 92 (o + 2 + 20 + j) (μ.1 72 j)).1 92 q = _
        rw [kW_no (by omega), kW_no (by omega), kW_no (by omega)]; exact h2 q hq
      · show (kbW (kbW (kbW ν 92 (o + 2 + j) (μ.1 70 j)) 92 (o + 2 + 10 + j) (μ.1 71 j)) 92 (o + 2 + 20 + j) (μ.1 72 j)).1 92 (o + 2 + i) = _ ∧ (kbW (kbW (kbW ν 92 (o + 2 + j) (μ.1 70 j)) 92 (o + 2 + 10 + j) (μ.1 71 j)) 92 (o + 2 + 20 + j) (μ.1 72 j)).1 92 (o + 2 + 10 + i) = _ ∧ (kbW (kbW (kbW ν 92 (o + 2 + j) (μ.1 70 j)) 92 (o + 2 + 10 + j) (μ.1 71 j)) 92 (o + 2 + 20 + j) (μ.1 72 j)).1 92 (o + 2 + 20 + i) = _
        by_cases e : i = j
        · subst e
          simp (disch := omega) only [kn_if_t, kn_bs, kn_or_l, kn_or_r, kn_inT, nI_clamp, nI_leI, nI_ltI, nI_eq, nI_add, pk_mul, nI_1, kn_eq0, kn_lt0, kn_le0, kn_0le, kn_div, kn_rem, kn_or, kn_and, kn_or0, kn_ad0, kn_shl1, kn_bitB, zBt, zBf, zB1t, zB1f, zB_01, zB_10, kl_2, kl_3, kl_4, kl_5, kl_6, kl_7, kl_8, kl_10, kl_12, kl_13, if_pos, if_neg, ↓reduceIte, eq_self, not_true_eq_false, not_false_eq_true, Nat.add_zero, Nat.or_zero, reduceCtorEq, or_true, true_or, or_false, false_or, decide_true, decide_false, kn_sub1, sb_m1, pk_sub, kW_ne, kW_at, kW_no, kA_ne, kA_eq, ite_self, and_self, true_and, and_true, and_self]
        · have := h3 i (by omega)
          simp (disch := omega) only [kn_if_t, kn_bs, kn_or_l, kn_or_r, kn_inT, nI_clamp, nI_leI, nI_ltI, nI_eq, nI_add, pk_mul, nI_1, kn_eq0, kn_lt0, kn_le0, kn_0le, kn_div, kn_rem, kn_or, kn_and, kn_or0, kn_ad0, kn_shl1, kn_bitB, zBt, zBf, zB1t, zB1f, zB_01, zB_10, kl_2, kl_3, kl_4, kl_5, kl_6, kl_7, kl_8, kl_10, kl_12, kl_13, if_pos, if_neg, ↓reduceIte, eq_self, not_true_eq_false, not_false_eq_true, Nat.add_zero, Nat.or_zero, reduceCtorEq, or_true, true_or, or_false, false_or, decide_true, decide_false, kn_sub1, sb_m1, pk_sub, kW_ne, kW_at, kW_no, kA_ne, kA_eq, ite_self, and_self, true_and, and_true, this.1, this.2.1, this.2.2, and_self])
    10 0 n (0, kbW (kbW μ 92 o (nI W.length)) 92 (o + 1) (nI w)) (by omega) (by omega) ⟨rfl, fun c hc => by show (kbW (kbW μ 92 o (nI W.length)) 92 (o + 1) (nI w)).1 c = _; rw [kW_ne hc, kW_ne hc], fun _ _ => rfl, fun i hi => absurd hi (by omega)⟩
  have e' : lp_MD_pack_92_18 n (nI o) n 0 (kbW (kbW μ 92 o (nI W.length)) 92 (o + 1) (nI w)) = some ν := e
  refine ⟨ν, ?_, ⟨?_, ?_, fun i hi => ?_⟩, hA, fun q hq => ?_⟩
  · simp (disch := omega) only [kn_if_t, kn_bs, kn_or_l, kn_or_r, kn_inT, nI_clamp, nI_leI, nI_ltI, nI_eq, nI_add, pk_mul, nI_1, kn_eq0, kn_lt0, kn_le0, kn_0le, kn_div, kn_rem, kn_or, kn_and, kn_or0, kn_ad0, kn_shl1, kn_bitB, zBt, zBf, zB1t, zB1f, zB_01, zB_10, kl_2, kl_3, kl_4, kl_5, kl_6, kl_7, kl_8, kl_10, kl_12, kl_13, if_pos, if_neg, ↓reduceIte, eq_self, not_true_eq_false, not_false_eq_true, Nat.add_zero, Nat.or_zero, reduceCtorEq, or_true, true_or, or_false, false_or, decide_true, decide_false, kn_sub1, sb_m1, pk_sub, kW_ne, kW_at, kW_no, kA_ne, kA_eq, ite_self, and_self, true_and, and_true, f_MD_pack_92, hc.1, hw, e']
  · rw [hB o (by omega), kW_no (by omega), kW_at]
  · rw [hB (o + 1) (by omega), kW_at]
  · have hi' : i < W.length := hi
    have g := hD i (by omega)
    have w := hc.2 i hi'
    rw [show o + 12 + i = o + 2 + 10 + i by omega, show o + 22 + i = o + 2 + 20 + i by omega, g.1, g.2.1, g.2.2]
    exact w
  · rw [hB q (by omega), kW_no (by omega), kW_no (by omega)]
theorem m_unpack_92 {n : Nat} (hn : 100 ≤ n) {μ : kbM} {s : zSt} {o : Nat} (hc : mPack μ 92 o s) (hl : s.1.length ≤ 10) (ho : o + 32 ≤ 32) : ∃ μ', f_MD_unpack_92 n (nI o) μ = some μ' ∧ mWords μ' s.1 ∧ μ'.1 57 28 = nI s.2 ∧ (∀ c, c ≠ 57 → c ≠ 70 → c ≠ 71 → c ≠ 72 → μ'.1 c = μ.1 c) ∧ ∀ k, k ≠ 27 → k ≠ 28 → μ'.1 57 k = μ.1 57 k := by
  obtain ⟨ν, e, hA, hD⟩ := kn_for (fun k (s : Int32 × kbM) => lp_MD_unpack_92_18 n (nI o) k s.1 s.2)
    (fun j t => t.1 = nI j ∧ (∀ c, c ≠ 70 → c ≠ 71 → c ≠ 72 → t.2.1 c = (kbW (kbW μ 57 27 (nI s.1.length)) 57 28 (nI s.2)).1 c) ∧ ∀ i, i < j → t.2.1 70 i = μ.1 92 (o + 2 + i) ∧ t.2.1 71 i = μ.1 92 (o + 2 + 10 + i) ∧ t.2.1 72 i = μ.1 92 (o + 2 + 20 + i)) 10
    (fun ν => (∀ c, c ≠ 70 → c ≠ 71 → c ≠ 72 → ν.1 c = (kbW (kbW μ 57 27 (nI s.1.length)) 57 28 (nI s.2)).1 c) ∧ ∀ i, i < 10 → ν.1 70 i = μ.1 92 (o + 2 + i) ∧ ν.1 71 i = μ.1 92 (o + 2 + 10 + i) ∧ ν.1 72 i = μ.1 92 (o + 2 + 20 + i))
    (fun k t hs => by
      obtain ⟨v, ν⟩ := t
      simp only at hs
      obtain ⟨rfl, h1, h2⟩ := hs
      exact ⟨ν, by simp (disch := omega) only [kn_if_t, kn_bs, kn_or_l, kn_or_r, kn_inT, nI_clamp, nI_leI, nI_ltI, nI_eq, nI_add, pk_mul, nI_1, kn_eq0, kn_lt0, kn_le0, kn_0le, kn_div, kn_rem, kn_or, kn_and, kn_or0, kn_ad0, kn_shl1, kn_bitB, zBt, zBf, zB1t, zB1f, zB_01, zB_10, kl_2, kl_3, kl_4, kl_5, kl_6, kl_7, kl_8, kl_10, kl_12, kl_13, if_pos, if_neg, ↓reduceIte, eq_self, not_true_eq_false, not_false_eq_true, Nat.add_zero, Nat.or_zero, reduceCtorEq, or_true, true_or, or_false, false_or, decide_true, decide_false, kn_sub1, sb_m1, pk_sub, kW_ne, kW_at, kW_no, kA_ne, kA_eq, ite_self, and_self, true_and, and_true, lp_MD_unpack_92_18], h1, h2⟩)
    (fun k j t hj hs => by
      obtain ⟨v, ν⟩ := t
      simp only at hs
      obtain ⟨rfl, h1, h2⟩ := hs
      try simp only at h1 h2
      have g0 := h1 92 (by decide) (by decide) (by decide)
      rw [kW_ne (by decide), kW_ne (by decide)] at g0
      refine Or.inr ⟨(nI (j + 1), kbW (kbW (kbW ν 70 j (μ.1 92 (o + 2 + j))) 71 j (μ.1 92 (o + 2 + 10 + j))) 72 j (μ.1 92 (o + 2 + 20 + j))), ?_, rfl, fun c h70 h71 h72 => ?_, fun i hi => ?_⟩
      · simp (disch := omega) only [kn_if_t, kn_bs, kn_or_l, kn_or_r, kn_inT, nI_clamp, nI_leI, nI_ltI, nI_eq, nI_add, pk_mul, nI_1, kn_eq0, kn_lt0, kn_le0, kn_0le, kn_div, kn_rem, kn_or, kn_and, kn_or0, kn_ad0, kn_shl1, kn_bitB, zBt, zBf, zB1t, zB1f, zB_01, zB_10, kl_2, kl_3, kl_4, kl_5, kl_6, kl_7, kl_8, kl_10, kl_12, kl_13, if_pos, if_neg, ↓reduceIte, eq_self, not_true_eq_false, not_false_eq_true, Nat.add_zero, Nat.or_zero, reduceCtorEq, or_true, true_or, or_false, false_or, decide_true, decide_false, kn_sub1, sb_m1, pk_sub, kW_ne, kW_at, kW_no, kA_ne, kA_eq, ite_self, and_self, true_and, and_true, lp_MD_unpack_92_18, g0, show (20 : Int32) = nI 20 from rfl]
      · show (kbW (kbW (kbW ν 70 j (μ.1 92 (o + 2 + j))) 71 j (μ.1 92 (o + 2 + 10 + j))) 72 j (μ.1 92 (o + 2 + 20 + j))).1 c = _
        rw [kW_ne h72, kW_ne h71, kW_ne h70]; exact h1 c h70 h71 h72
      · show (kbW (kbW (kbW ν 70 j (μ.1 92 (o + 2 + j))) 71 j (μ.1 92 (o + 2 + 10 + j))) 72 j (μ.1 92 (o + 2 + 20 + j))).1 70 i = _ ∧ (kbW (kbW (kbW ν 70 j (μ.1 92 (o + 2 + j))) 71 j (μ.1 92 (o + 2 + 10 + j))) 72 j (μ.1 92 (o + 2 + 20 + j))).1 71 i = _ ∧ (kbW (kbW (kbW ν 70 j (μ.1 92 (o + 2 + j))) 71 j (μ.1 92 (o + 2 + 10 + j))) 72 j (μ.1 92 (o + 2 + 20 + j))).1 72 i = _
        by_cases e : i = j
        · subst e
          simp (disch := omega) only [kn_if_t, kn_bs, kn_or_l, kn_or_r, kn_inT, nI_clamp, nI_leI, nI_ltI, nI_eq, nI_add, pk_mul, nI_1, kn_eq0, kn_lt0, kn_le0, kn_0le, kn_div, kn_rem, kn_or, kn_and, kn_or0, kn_ad0, kn_shl1, kn_bitB, zBt, zBf, zB1t, zB1f, zB_01, zB_10, kl_2, kl_3, kl_4, kl_5, kl_6, kl_7, kl_8, kl_10, kl_12, kl_13, if_pos, if_neg, ↓reduceIte, eq_self, not_true_eq_false, not_false_eq_true, Nat.add_zero, Nat.or_zero, reduceCtorEq, or_true, true_or, or_false, false_or, decide_true, decide_false, kn_sub1, sb_m1, pk_sub, kW_ne, kW_at, kW_no, kA_ne, kA_eq, ite_self, and_self, true_and, and_true, and_self]
        · have := h2 i (by omega)
          simp (disch := omega) only [kn_if_t, kn_bs, kn_or_l, kn_or_r, kn_inT, nI_clamp, nI_leI, nI_ltI, nI_eq, nI_add, pk_mul, nI_1, kn_eq0, kn_lt0, kn_le0, kn_0le, kn_div, kn_rem, kn_or, kn_and, kn_or0, kn_ad0, kn_shl1, kn_bitB, zBt, zBf, zB1t, zB1f, zB_01, zB_10, kl_2, kl_3, kl_4, kl_5, kl_6, kl_7, kl_8, kl_10, kl_12, kl_13, if_pos, if_neg, ↓reduceIte, eq_self, not_true_eq_false, not_false_eq_true, Nat.add_zero, Nat.or_zero, reduceCtorEq, or_true, true_or, or_false, false_or, decide_true, decide_false, kn_sub1, sb_m1, pk_sub, kW_ne, kW_at, kW_no, kA_ne, kA_eq, ite_self, and_self, true_and, and_true, this.1, this.2.1, this.2.2, and_self])
    10 0 n (0, kbW (kbW μ 57 27 (nI s.1.length)) 57 28 (nI s.2)) (by omega) (by omega) ⟨rfl, fun _ _ _ _ => rfl, fun i hi => absurd hi (by omega)⟩
  have e' : lp_MD_unpack_92_18 n (nI o) n 0 (kbW (kbW μ 57 27 (nI s.1.length)) 57 28 (nI s.2)) = some ν := e
  have g7 := hA 57 (by decide) (by decide) (by decide)
  refine ⟨ν, ?_, ⟨?_, fun i hi => ?_⟩, ?_, fun c h57 h70 h71 h72 => ?_, fun k hk hk2 => ?_⟩
  · simp (disch := omega) only [kn_if_t, kn_bs, kn_or_l, kn_or_r, kn_inT, nI_clamp, nI_leI, nI_ltI, nI_eq, nI_add, pk_mul, nI_1, kn_eq0, kn_lt0, kn_le0, kn_0le, kn_div, kn_rem, kn_or, kn_and, kn_or0, kn_ad0, kn_shl1, kn_bitB, zBt, zBf, zB1t, zB1f, zB_01, zB_10, kl_2, kl_3, kl_4, kl_5, kl_6, kl_7, kl_8, kl_10, kl_12, kl_13, if_pos, if_neg, ↓reduceIte, eq_self, not_true_eq_false, not_false_eq_true, Nat.add_zero, Nat.or_zero, reduceCtorEq, or_true, true_or, or_false, false_or, decide_true, decide_false, kn_sub1, sb_m1, pk_sub, kW_ne, kW_at, kW_no, kA_ne, kA_eq, ite_self, and_self, true_and, and_true, f_MD_unpack_92, hc.1, hc.2.1, e']
  · rw [g7, kW_no (by decide), kW_at]
  · have g := hD i (by omega)
    have w := hc.2.2 i hi
    rw [show o + 12 + i = o + 2 + 10 + i by omega, show o + 22 + i = o + 2 + 20 + i by omega] at w
    rw [g.1, g.2.1, g.2.2]
    exact w
  · rw [g7, kW_at]
  · rw [hA c h70 h71 h72, kW_ne h57, kW_ne h57]
  · rw [g7, kW_no hk2, kW_no hk]
theorem m_keep1 {n : Nat} (hn : 100 ≤ n) {μ : kbM} {W : zW} {w : Nat} {G : List (zAct × zSt)} (hc : mWords μ W) (hl : W.length ≤ 10) (hw : μ.1 57 28 = nI w) (hG : ∀ q ∈ G, q.2.1.length ≤ 10) (h29 : μ.1 57 29 = nI G.length) (hP : mPast μ 73 G) (hlen : G.length < 40) (a : zAct) : ∃ μ', jn_MD_keep_52 n μ = some μ' ∧ mPast μ' 73 (G ++ [(a, (W, w))]) ∧ μ'.1 57 29 = nI (G ++ [(a, (W, w))]).length ∧ (∀ c, c ≠ 57 → c ≠ 73 → μ'.1 c = μ.1 c) ∧ ∀ k, k ≠ 29 → μ'.1 57 k = μ.1 57 k := by
  obtain ⟨ν, e, hp, h1, h2⟩ := m_pack_73 hn hc hl hw (o := 32 * G.length) (by omega)
  have g7 := h1 57 (by decide)
  refine ⟨kbW ν 57 29 (nI (G.length + 1)), ?_, ?_, ?_, fun c hc1 hc2 => ?_, fun k hk => ?_⟩
  · simp (disch := omega) only [kn_if_t, kn_bs, kn_or_l, kn_or_r, kn_inT, nI_clamp, nI_leI, nI_ltI, nI_eq, nI_add, pk_mul, nI_1, kn_eq0, kn_lt0, kn_le0, kn_0le, kn_div, kn_rem, kn_or, kn_and, kn_or0, kn_ad0, kn_shl1, kn_bitB, zBt, zBf, zB1t, zB1f, zB_01, zB_10, kl_2, kl_3, kl_4, kl_5, kl_6, kl_7, kl_8, kl_10, kl_12, kl_13, if_pos, if_neg, ↓reduceIte, eq_self, not_true_eq_false, not_false_eq_true, Nat.add_zero, Nat.or_zero, reduceCtorEq, or_true, true_or, or_false, false_or, decide_true, decide_false, kn_sub1, sb_m1, pk_sub, kW_ne, kW_at, kW_no, kA_ne, kA_eq, ite_self, and_self, true_and, and_true, jn_MD_keep_52, h29, show (32 : Int32) = nI 32 from rfl, e, g7]
  · intro i hi q hq
    rw [List.length_append] at hi
    simp only [List.length_singleton] at hi
    by_cases h : i < G.length
    · rw [List.getElem?_append_left h] at hq
      exact (hP i h q hq).congr (hG q (List.mem_of_getElem? hq)) (fun j hj => by rw [kW_ne (by decide)]; exact h2 _ (by omega))
    · have ei : i = G.length := by omega
      subst ei
      rw [List.getElem?_append_right (Nat.le_refl _), Nat.sub_self] at hq
      cases hq
      exact hp.congr hl (fun j hj => by rw [kW_ne (by decide)])
  · rw [kW_at, List.length_append]; rfl
  · rw [kW_ne hc1]; exact h1 c hc2
  · rw [kW_no hk, g7]
theorem m_keep {n : Nat} (hn : 2000 ≤ n) {μ : kbM} {W : zW} {w : Nat} {G : List (zAct × zSt)} (hc : mWords μ W) (hl : W.length ≤ 10) (hw : μ.1 57 28 = nI w) (hG : ∀ q ∈ G, q.2.1.length ≤ 10) (h29 : μ.1 57 29 = nI G.length) (hP : mPast μ 73 G) (hlen : G.length ≤ 40) (a : zAct) : ∃ μ', f_MD_keep n μ = some μ' ∧ mPast μ' 73 (zKeep G a (W, w)) ∧ μ'.1 57 29 = nI (zKeep G a (W, w)).length ∧ (∀ c, c ≠ 57 → c ≠ 73 → μ'.1 c = μ.1 c) ∧ ∀ k, k ≠ 29 → μ'.1 57 k = μ.1 57 k := by
  unfold f_MD_keep zKeep
  rw [h29, show (40 : Int32) = nI 40 from rfl]
  by_cases h : G.length = 40
  · rw [if_pos (by rw [h]), if_pos h]
    have ht : G.tail.length = 39 := by rw [List.length_tail, h]
    obtain ⟨ν, e, hA, hB⟩ := kn_for (fun k (s : Int32 × kbM) => lp_MD_keep_12 n k s.1 s.2)
      (fun j s => s.1 = nI (32 + j) ∧ (∀ q, s.2.1 73 q = if q < j then μ.1 73 (q + 32) else μ.1 73 q) ∧ ∀ c, c ≠ 73 → s.2.1 c = μ.1 c) 1248
      (fun ν => (∀ q, ν.1 73 q = if q < 1248 then μ.1 73 (q + 32) else μ.1 73 q) ∧ ∀ c, c ≠ 73 → ν.1 c = μ.1 c)
      (fun k s hs => by
        obtain ⟨v, ν⟩ := s
        simp only at hs
        obtain ⟨rfl, h1, h2⟩ := hs
        exact ⟨ν, by simp (disch := omega) only [kn_if_t, kn_bs, kn_or_l, kn_or_r, kn_inT, nI_clamp, nI_leI, nI_ltI, nI_eq, nI_add, pk_mul, nI_1, kn_eq0, kn_lt0, kn_le0, kn_0le, kn_div, kn_rem, kn_or, kn_and, kn_or0, kn_ad0, kn_shl1, kn_bitB, zBt, zBf, zB1t, zB1f, zB_01, zB_10, kl_2, kl_3, kl_4, kl_5, kl_6, kl_7, kl_8, kl_10, kl_12, kl_13, if_pos, if_neg, ↓reduceIte, eq_self, not_true_eq_false, not_false_eq_true, Nat.add_zero, Nat.or_zero, reduceCtorEq, or_true, true_or, or_false, false_or, decide_true, decide_false, kn_sub1, sb_m1, pk_sub, kW_ne, kW_at, kW_no, kA_ne, kA_eq, ite_self, and_self, true_and, and_true, lp_MD_keep_12, show (1280 : Int32) = nI 1280 from rfl], h1, h2⟩)
      (fun k j s hj hs => by
        obtain ⟨v, ν⟩ := s
        simp only at hs
        obtain ⟨rfl, h1, h2⟩ := hs
        try simp only at h1 h2
        have g := h1 (32 + j)
        rw [if_neg (by omega)] at g
        have e32 : 32 + j - 32 = j := by omega
        refine Or.inr ⟨(nI (32 + (j + 1)), kbW ν 73 j (μ.1 73 (32 + j))), ?_, rfl, fun q => ?_, fun c hc => ?_⟩
        · simp (disch := omega) only [kn_if_t, kn_bs, kn_or_l, kn_or_r, kn_inT, nI_clamp, nI_leI, nI_ltI, nI_eq, nI_add, pk_mul, nI_1, kn_eq0, kn_lt0, kn_le0, kn_0le, kn_div, kn_rem, kn_or, kn_and, kn_or0, kn_ad0, kn_shl1, kn_bitB, zBt, zBf, zB1t, zB1f, zB_01, zB_10, kl_2, kl_3, kl_4, kl_5, kl_6, kl_7, kl_8, kl_10, kl_12, kl_13, if_pos, if_neg, ↓reduceIte, eq_self, not_true_eq_false, not_false_eq_true, Nat.add_zero, Nat.or_zero, reduceCtorEq, or_true, true_or, or_false, false_or, decide_true, decide_false, kn_sub1, sb_m1, pk_sub, kW_ne, kW_at, kW_no, kA_ne, kA_eq, ite_self, and_self, true_and, and_true, lp_MD_keep_12, show (1280 : Int32) = nI 1280 from rfl, show (32 : Int32) = nI 32 from rfl, g, e32, ← Nat.add_assoc]
        · show (kbW ν 73 j (μ.1 73 (32 + j))).1 73 q = _
          by_cases eq : q = j
          · subst eq; rw [kW_at, if_pos (by omega), Nat.add_comm]
          · rw [kW_no eq, h1 q]
            by_cases e2 : q < j
            · rw [if_pos e2, if_pos (by omega)]
            · rw [if_neg e2, if_neg (by omega)]
        · show (kbW ν 73 j (μ.1 73 (32 + j))).1 c = _
          rw [kW_ne hc]; exact h2 c hc)
      1248 0 n (nI 32, μ) (by omega) (by omega) ⟨rfl, fun q => by rw [if_neg (by omega)], fun _ _ => rfl⟩
    have e' : lp_MD_keep_12 n n 32 μ = some ν := e
    have g7 := hB 57 (by decide)
    have hG' : ∀ q ∈ G.tail, q.2.1.length ≤ 10 := fun q hq => hG q (List.mem_of_mem_tail hq)
    obtain ⟨μ', e2, k1, k2, k3, k4⟩ := m_keep1 (n := n) (by omega) (μ := kbW ν 57 29 (nI 39)) (W := W) (w := w) (G := G.tail)
      ⟨by rw [kW_no (by decide), g7]; exact hc.1, fun i hi => by rw [kW_ne (by decide), kW_ne (by decide), kW_ne (by decide), hB 70 (by decide), hB 71 (by decide), hB 72 (by decide)]; exact hc.2 i hi⟩ hl
      (by rw [kW_no (by decide), g7]; exact hw) hG' (by rw [kW_at, ht])
      (fun i hi q hq => by
        rw [List.getElem?_tail] at hq
        exact (hP (i + 1) (by omega) q hq).congr (hG q (List.mem_of_getElem? hq)) (fun j hj => by rw [kW_ne (by decide), hA, if_pos (by omega), show 32 * i + j + 32 = 32 * (i + 1) + j by omega])) (by omega) a
    refine ⟨μ', ?_, k1, k2, fun c h1 h2 => ?_, fun k hk => ?_⟩
    · rw [e', kn_bs, g7, h29, h, show nI 40 - 1 = nI 39 from rfl]; exact e2
    · rw [k3 c h1 h2, kW_ne h1, hB c h2]
    · rw [k4 k hk, kW_no hk, g7]
  · rw [if_neg (by rw [nI_eq (by omega) (by decide)]; exact h), if_neg h]
    exact m_keep1 (by omega) hc hl hw hG h29 hP (by omega) a
