/-! the game -/
def zGi (W : zW) (D : List (Nat × Nat)) (w e i : Nat) : Int32 := if zTold W D w i e = true then nI (zWorthAt W i) else 0
def zNet (g : Nat → Int32) (i b : Nat) : Int32 := g i - (if i = b then 20 else 0)
def zRs (can : Nat → Bool) (g : Nat → Int32) (c a b : Nat) : Bool := can a && zAll (fun k => !(can k && decide (zNet g a b < zNet g k b))) c
def gAt (f : Nat → Int32) (can : Nat → Bool) (g : Nat → Int32) (c : Nat) : Prop := ∀ i, i < c → f i = if can i = true then g i else -1
theorem zWorth_le {W : zW} (h : zWok W) (i : Nat) : zWorthAt W i ≤ 99 := by
  by_cases hi : i < W.length
  · exact (h.at hi).2.2
  · unfold zWorthAt
    rw [List.getD_eq_getElem?_getD, List.getElem?_eq_none (by omega)]
    decide
theorem zGi_m1 {W : zW} (h : zWok W) (D : List (Nat × Nat)) (w e i : Nat) : ¬ zGi W D w e i = -1 := by
  have := zWorth_le h i
  unfold zGi
  split
  · rw [kn_nm1 (by omega)]; exact id
  · decide
theorem c_gains_55 {n : Nat} (hn : 100 ≤ n) {μ : kbM} {W : zW} {D : List (Nat × Nat)} {w : Nat} (h : hOk W D w) (hc : cH μ W D w) {d e : Nat} (hd : d < D.length) (he : e < D.length) : ∃ μ', f_PL_layGains_55 n (nI d) (nI e) μ = some μ' ∧ cH μ' W D w ∧ gAt (μ'.1 55) (zCanB W D d) (zGi W D w e) W.length := by
  have h10 := h.l10
  obtain ⟨r, e1, h1⟩ := kn_for (fun k (s : Int32 × kbM) => lp_PL_layGains_55_3 n (nI d) (nI e) k s.1 s.2) (fun i s => s.1 = nI i ∧ cH s.2 W D w ∧ gAt (s.2.1 55) (zCanB W D d) (zGi W D w e) i) W.length (fun r => cH r W D w ∧ gAt (r.1 55) (zCanB W D d) (zGi W D w e) W.length)
    (fun k s hs => by
      obtain ⟨a, ν⟩ := s
      simp only at hs
      obtain ⟨rfl, h1, h2⟩ := hs
      exact ⟨ν, by simp (disch := omega) only [kn_if_t, kn_bs, kn_or_l, kn_or_r, kn_inT, nI_clamp, nI_leI, nI_ltI, nI_eq, nI_add, pk_mul, nI_1, kn_eq0, kn_lt0, kn_le0, kn_0le, kn_div, kn_rem, kn_or, kn_and, kn_or0, kn_ad0, kn_shl1, kn_bitB, zBt, zBf, zB1t, zB1f, zB_01, zB_10, kl_2, kl_3, kl_4, kl_5, kl_6, kl_7, kl_8, kl_10, kl_12, kl_13, if_pos, if_neg, ↓reduceIte, eq_self, not_true_eq_false, not_false_eq_true, Nat.add_zero, Nat.or_zero, reduceCtorEq, or_true, true_or, or_false, false_or, decide_true, decide_false, kn_sub1, sb_m1, pk_sub, kW_ne, kW_at, kW_no, kA_ne, kA_eq, ite_self, and_self, true_and, and_true, lp_PL_layGains_55_3, h1.1.1], h1, h2⟩)
    (fun k i s hi hs => by
      obtain ⟨a, ν⟩ := s
      simp only at hs
      obtain ⟨rfl, h1, h2⟩ := hs
      have q := c_can (n := n) (by omega) h h1 hd hi
      obtain ⟨ν1, e1, h3⟩ := c_told hn h h1 he hi
      have f1 := fr_f_PL_isUnderstood e1
      have h55 : ν1.1 55 = ν.1 55 := fr_at f1 (by decide) (by decide)
      have hz : zCanB W D d i = zCan (zHand D d) (zRowAt W i) := rfl
      have wo := (h3.1.2 i hi).2.2.2
      have fin : ∀ (κ : kbM) (v : Int32), cH κ W D w → gAt (κ.1 55) (zCanB W D d) (zGi W D w e) i → v = (if zCanB W D d i = true then zGi W D w e i else -1) → cH (kbW κ 55 i v) W D w ∧ gAt ((kbW κ 55 i v).1 55) (zCanB W D d) (zGi W D w e) (i + 1) := by
        intro κ v k1 k2 k3
        refine ⟨k1.congr (fun a ha => kW_ne (by revert a; decide)), ?_⟩
        intro j hj
        by_cases hji : j = i
        · subst hji; rw [kW_at]; exact k3
        · rw [kW_no hji]; exact k2 j (by omega)
      have h2' : gAt (ν1.1 55) (zCanB W D d) (zGi W D w e) i := by rw [h55]; exact h2
      cases hp : zCan (zHand D d) (zRowAt W i)
      · rw [hp] at q hz
        exact Or.inr ⟨(nI (i + 1), kbW ν 55 i (-1)), by simp (disch := omega) only [kn_if_t, kn_bs, kn_or_l, kn_or_r, kn_inT, nI_clamp, nI_leI, nI_ltI, nI_eq, nI_add, pk_mul, nI_1, kn_eq0, kn_lt0, kn_le0, kn_0le, kn_div, kn_rem, kn_or, kn_and, kn_or0, kn_ad0, kn_shl1, kn_bitB, zBt, zBf, zB1t, zB1f, zB_01, zB_10, kl_2, kl_3, kl_4, kl_5, kl_6, kl_7, kl_8, kl_10, kl_12, kl_13, if_pos, if_neg, ↓reduceIte, eq_self, not_true_eq_false, not_false_eq_true, Nat.add_zero, Nat.or_zero, reduceCtorEq, or_true, true_or, or_false, false_or, decide_true, decide_false, kn_sub1, sb_m1, pk_sub, kW_ne, kW_at, kW_no, kA_ne, kA_eq, ite_self, and_self, true_and, and_true, lp_PL_layGains_55_3, jn_PL_layGains_55_64, h1.1.1, q], rfl, fin _ _ h1 h2 (by rw [hz]; rfl)⟩
      · rw [hp] at q hz
        cases ht : zTold W D w i e
        · rw [ht] at e1
          exact Or.inr ⟨(nI (i + 1), kbW ν1 55 i 0), by simp (disch := omega) only [kn_if_t, kn_bs, kn_or_l, kn_or_r, kn_inT, nI_clamp, nI_leI, nI_ltI, nI_eq, nI_add, pk_mul, nI_1, kn_eq0, kn_lt0, kn_le0, kn_0le, kn_div, kn_rem, kn_or, kn_and, kn_or0, kn_ad0, kn_shl1, kn_bitB, zBt, zBf, zB1t, zB1f, zB_01, zB_10, kl_2, kl_3, kl_4, kl_5, kl_6, kl_7, kl_8, kl_10, kl_12, kl_13, if_pos, if_neg, ↓reduceIte, eq_self, not_true_eq_false, not_false_eq_true, Nat.add_zero, Nat.or_zero, reduceCtorEq, or_true, true_or, or_false, false_or, decide_true, decide_false, kn_sub1, sb_m1, pk_sub, kW_ne, kW_at, kW_no, kA_ne, kA_eq, ite_self, and_self, true_and, and_true, lp_PL_layGains_55_3, jn_PL_layGains_55_64, jn_PL_layGains_55_55, h1.1.1, q, e1], rfl, fin _ _ h3 h2' (by rw [hz]; unfold zGi; rw [ht]; rfl)⟩
        · rw [ht] at e1
          exact Or.inr ⟨(nI (i + 1), kbW ν1 55 i (nI (zWorthAt W i))), by simp (disch := omega) only [kn_if_t, kn_bs, kn_or_l, kn_or_r, kn_inT, nI_clamp, nI_leI, nI_ltI, nI_eq, nI_add, pk_mul, nI_1, kn_eq0, kn_lt0, kn_le0, kn_0le, kn_div, kn_rem, kn_or, kn_and, kn_or0, kn_ad0, kn_shl1, kn_bitB, zBt, zBf, zB1t, zB1f, zB_01, zB_10, kl_2, kl_3, kl_4, kl_5, kl_6, kl_7, kl_8, kl_10, kl_12, kl_13, if_pos, if_neg, ↓reduceIte, eq_self, not_true_eq_false, not_false_eq_true, Nat.add_zero, Nat.or_zero, reduceCtorEq, or_true, true_or, or_false, false_or, decide_true, decide_false, kn_sub1, sb_m1, pk_sub, kW_ne, kW_at, kW_no, kA_ne, kA_eq, ite_self, and_self, true_and, and_true, lp_PL_layGains_55_3, jn_PL_layGains_55_64, jn_PL_layGains_55_55, h1.1.1, q, e1, wo], rfl, fin _ _ h3 h2' (by rw [hz]; unfold zGi; rw [ht]; rfl)⟩)
    W.length 0 n (0, μ) (by omega) (by omega) ⟨rfl, hc, fun j hj => absurd hj (Nat.not_lt_zero j)⟩
  refine ⟨r, ?_, h1⟩
  unfold f_PL_layGains_55
  rw [show lp_PL_layGains_55_3 n (nI d) (nI e) n 0 μ = some r from e1, kn_bs]
theorem c_net_55 {μ : kbM} {can : Nat → Bool} {g : Nat → Int32} {c : Nat} (h10 : c ≤ 10) (hg : gAt (μ.1 55) can g c) {i b : Nat} (hi : i < c) (hb : b < 10) (hcan : can i = true) : f_PL_net_55 (nI i) (nI b) μ = some (zNet g i b) := by
  have e := hg i hi
  rw [hcan, if_pos rfl] at e
  unfold f_PL_net_55 jn_PL_net_55_14 zNet
  rw [kn_inT (by omega) (by omega), kn_if_t, nI_clamp (by omega), e]
  by_cases q : i = b
  · rw [if_pos (by rw [q]), if_pos q]
  · rw [if_neg (by rw [nI_eq (by omega) (by omega)]; exact q), if_neg q]
theorem c_rests_55 {n : Nat} (hn : 100 ≤ n) {μ : kbM} {can : Nat → Bool} {g : Nat → Int32} {c : Nat} (h10 : c ≤ 10) (h4 : μ.1 13 4 = nI c) (hg : gAt (μ.1 55) can g c) (hm : ∀ i, ¬ g i = -1) {a b : Nat} (ha : a < c) (hb : b < c) : f_PL_rests_55 n (nI a) (nI b) μ = some (zB (zRs can g c a b)) := by
  have ea := hg a ha
  unfold f_PL_rests_55
  rw [kn_inT (by omega) (by omega), kn_if_t, nI_clamp (by omega), ea]
  unfold zRs
  cases hca : can a
  · rw [if_pos (by rw [if_neg (by decide)])]; rfl
  · rw [if_neg (by rw [if_pos rfl]; exact hm a)]
    have key := kn_all (lp := fun k i => lp_PL_rests_55_12 n (nI a) (nI b) μ k (nI i)) (fun k => !(can k && decide (zNet g a b < zNet g k b))) c (.inr ()) (.inl 0)
      (fun k => by simp only [lp_PL_rests_55_12]; rw [h4, if_pos (by rw [nI_leI (by omega) (by omega)]; omega)])
      (fun k i hi hp => by
        simp only [Bool.not_eq_false', Bool.and_eq_true, decide_eq_true_eq] at hp
        have ei := hg i hi
        rw [hp.1, if_pos rfl] at ei
        simp only [lp_PL_rests_55_12]
        rw [h4, if_neg (by rw [nI_leI (by omega) (by omega)]; omega), kn_inT (by omega) (by omega), kn_if_t, nI_clamp (by omega), ei, if_neg (hm i), c_net_55 h10 hg hi (by omega) hp.1, kn_bs, c_net_55 h10 hg ha (by omega) hca, kn_bs, if_neg (by rw [Int32.not_le]; exact hp.2)])
      (fun k i hi hp => by
        have ei := hg i hi
        simp only [lp_PL_rests_55_12, jn_PL_rests_55_50]
        rw [h4, if_neg (by rw [nI_leI (by omega) (by omega)]; omega), kn_inT (by omega) (by omega), kn_if_t, nI_clamp (by omega), ei]
        cases hci : can i
        · rw [if_pos (by rw [if_neg (by decide)]), nI_1]
        · rw [hci] at hp
          simp only [Bool.true_and, Bool.not_eq_true', decide_eq_false_iff_not] at hp
          rw [if_neg (by rw [if_pos rfl]; exact hm i), c_net_55 h10 hg hi (by omega) hci, kn_bs, c_net_55 h10 hg ha (by omega) hca, kn_bs, if_pos (by rw [← Int32.not_lt]; exact hp), nI_1])
      c 0 n (by omega) (by omega) rfl
    rw [show lp_PL_rests_55_12 n (nI a) (nI b) μ n 0 = _ from key]
    cases zAll (fun k => !(can k && decide (zNet g a b < zNet g k b))) c <;> rfl
theorem c_gains_56 {n : Nat} (hn : 100 ≤ n) {μ : kbM} {W : zW} {D : List (Nat × Nat)} {w : Nat} (h : hOk W D w) (hc : cH μ W D w) {d e : Nat} (hd : d < D.length) (he : e < D.length) : ∃ μ', f_PL_layGains_56 n (nI d) (nI e) μ = some μ' ∧ cH μ' W D w ∧ gAt (μ'.1 56) (zCanB W D d) (zGi W D w e) W.length := by
  have h10 := h.l10
  obtain ⟨r, e1, h1⟩ := kn_for (fun k (s : Int32 × kbM) => lp_PL_layGains_56_3 n (nI d) (nI e) k s.1 s.2) (fun i s => s.1 = nI i ∧ cH s.2 W D w ∧ gAt (s.2.1 56) (zCanB W D d) (zGi W D w e) i) W.length (fun r => cH r W D w ∧ gAt (r.1 56) (zCanB W D d) (zGi W D w e) W.length)
    (fun k s hs => by
      obtain ⟨a, ν⟩ := s
      simp only at hs
      obtain ⟨rfl, h1, h2⟩ := hs
      exact ⟨ν, by simp (disch := omega) only [kn_if_t, kn_bs, kn_or_l, kn_or_r, kn_inT, nI_clamp, nI_leI, nI_ltI, nI_eq, nI_add, pk_mul, nI_1, kn_eq0, kn_lt0, kn_le0, kn_0le, kn_div, kn_rem, kn_or, kn_and, kn_or0, kn_ad0, kn_shl1, kn_bitB, zBt, zBf, zB1t, zB1f, zB_01, zB_10, kl_2, kl_3, kl_4, kl_5, kl_6, kl_7, kl_8, kl_10, kl_12, kl_13, if_pos, if_neg, ↓reduceIte, eq_self, not_true_eq_false, not_false_eq_true, Nat.add_zero, Nat.or_zero, reduceCtorEq, or_true, true_or, or_false, false_or, decide_true, decide_false, kn_sub1, sb_m1, pk_sub, kW_ne, kW_at, kW_no, kA_ne, kA_eq, ite_self, and_self, true_and, and_true, lp_PL_layGains_56_3, h1.1.1], h1, h2⟩)
    (fun k i s hi hs => by
      obtain ⟨a, ν⟩ := s
      simp only at hs
      obtain ⟨rfl, h1, h2⟩ := hs
      have q := c_can (n := n) (by omega) h h1 hd hi
      obtain ⟨ν1, e1, h3⟩ := c_told hn h h1 he hi
      have f1 := fr_f_PL_isUnderstood e1
      have h56 : ν1.1 56 = ν.1 56 := fr_at f1 (by decide) (by decide)
      have hz : zCanB W D d i = zCan (zHand D d) (zRowAt W i) := rfl
      have wo := (h3.1.2 i hi).2.2.2
      have fin : ∀ (κ : kbM) (v : Int32), cH κ W D w → gAt (κ.1 56) (zCanB W D d) (zGi W D w e) i → v = (if zCanB W D d i = true then zGi W D w e i else -1) → cH (kbW κ 56 i v) W D w ∧ gAt ((kbW κ 56 i v).1 56) (zCanB W D d) (zGi W D w e) (i + 1) := by
        intro κ v k1 k2 k3
        refine ⟨k1.congr (fun a ha => kW_ne (by revert a; decide)), ?_⟩
        intro j hj
        by_cases hji : j = i
        · subst hji; rw [kW_at]; exact k3
        · rw [kW_no hji]; exact k2 j (by omega)
      have h2' : gAt (ν1.1 56) (zCanB W D d) (zGi W D w e) i := by rw [h56]; exact h2
      cases hp : zCan (zHand D d) (zRowAt W i)
      · rw [hp] at q hz
        exact Or.inr ⟨(nI (i + 1), kbW ν 56 i (-1)), by simp (disch := omega) only [kn_if_t, kn_bs, kn_or_l, kn_or_r, kn_inT, nI_clamp, nI_leI, nI_ltI, nI_eq, nI_add, pk_mul, nI_1, kn_eq0, kn_lt0, kn_le0, kn_0le, kn_div, kn_rem, kn_or, kn_and, kn_or0, kn_ad0, kn_shl1, kn_bitB, zBt, zBf, zB1t, zB1f, zB_01, zB_10, kl_2, kl_3, kl_4, kl_5, kl_6, kl_7, kl_8, kl_10, kl_12, kl_13, if_pos, if_neg, ↓reduceIte, eq_self, not_true_eq_false, not_false_eq_true, Nat.add_zero, Nat.or_zero, reduceCtorEq, or_true, true_or, or_false, false_or, decide_true, decide_false, kn_sub1, sb_m1, pk_sub, kW_ne, kW_at, kW_no, kA_ne, kA_eq, ite_self, and_self, true_and, and_true, lp_PL_layGains_56_3, jn_PL_layGains_56_64, h1.1.1, q], rfl, fin _ _ h1 h2 (by rw [hz]; rfl)⟩
      · rw [hp] at q hz
        cases ht : zTold W D w i e
        · rw [ht] at e1
          exact Or.inr ⟨(nI (i + 1), kbW ν1 56 i 0), by simp (disch := omega) only [kn_if_t, kn_bs, kn_or_l, kn_or_r, kn_inT, nI_clamp, nI_leI, nI_ltI, nI_eq, nI_add, pk_mul, nI_1, kn_eq0, kn_lt0, kn_le0, kn_0le, kn_div, kn_rem, kn_or, kn_and, kn_or0, kn_ad0, kn_shl1, kn_bitB, zBt, zBf, zB1t, zB1f, zB_01, zB_10, kl_2, kl_3, kl_4, kl_5, kl_6, kl_7, kl_8, kl_10, kl_12, kl_13, if_pos, if_neg, ↓reduceIte, eq_self, not_true_eq_false, not_false_eq_true, Nat.add_zero, Nat.or_zero, reduceCtorEq, or_true, true_or, or_false, false_or, decide_true, decide_false, kn_sub1, sb_m1, pk_sub, kW_ne, kW_at, kW_no, kA_ne, kA_eq, ite_self, and_self, true_and, and_true, lp_PL_layGains_56_3, jn_PL_layGains_56_64, jn_PL_layGains_56_55, h1.1.1, q, e1], rfl, fin _ _ h3 h2' (by rw [hz]; unfold zGi; rw [ht]; rfl)⟩
        · rw [ht] at e1
          exact Or.inr ⟨(nI (i + 1), kbW ν1 56 i (nI (zWorthAt W i))), by simp (disch := omega) only [kn_if_t, kn_bs, kn_or_l, kn_or_r, kn_inT, nI_clamp, nI_leI, nI_ltI, nI_eq, nI_add, pk_mul, nI_1, kn_eq0, kn_lt0, kn_le0, kn_0le, kn_div, kn_rem, kn_or, kn_and, kn_or0, kn_ad0, kn_shl1, kn_bitB, zBt, zBf, zB1t, zB1f, zB_01, zB_10, kl_2, kl_3, kl_4, kl_5, kl_6, kl_7, kl_8, kl_10, kl_12, kl_13, if_pos, if_neg, ↓reduceIte, eq_self, not_true_eq_false, not_false_eq_true, Nat.add_zero, Nat.or_zero, reduceCtorEq, or_true, true_or, or_false, false_or, decide_true, decide_false, kn_sub1, sb_m1, pk_sub, kW_ne, kW_at, kW_no, kA_ne, kA_eq, ite_self, and_self, true_and, and_true, lp_PL_layGains_56_3, jn_PL_layGains_56_64, jn_PL_layGains_56_55, h1.1.1, q, e1, wo], rfl, fin _ _ h3 h2' (by rw [hz]; unfold zGi; rw [ht]; rfl)⟩)
    W.length 0 n (0, μ) (by omega) (by omega) ⟨rfl, hc, fun j hj => absurd hj (Nat.not_lt_zero j)⟩
  refine ⟨r, ?_, h1⟩
  unfold f_PL_layGains_56
  rw [show lp_PL_layGains_56_3 n (nI d) (nI e) n 0 μ = some r from e1, kn_bs]
theorem c_net_56 {μ : kbM} {can : Nat → Bool} {g : Nat → Int32} {c : Nat} (h10 : c ≤ 10) (hg : gAt (μ.1 56) can g c) {i b : Nat} (hi : i < c) (hb : b < 10) (hcan : can i = true) : f_PL_net_56 (nI i) (nI b) μ = some (zNet g i b) := by
  have e := hg i hi
  rw [hcan, if_pos rfl] at e
  unfold f_PL_net_56 jn_PL_net_56_14 zNet
  rw [kn_inT (by omega) (by omega), kn_if_t, nI_clamp (by omega), e]
  by_cases q : i = b
  · rw [if_pos (by rw [q]), if_pos q]
  · rw [if_neg (by rw [nI_eq (by omega) (by omega)]; exact q), if_neg q]
theorem c_rests_56 {n : Nat} (hn : 100 ≤ n) {μ : kbM} {can : Nat → Bool} {g : Nat → Int32} {c : Nat} (h10 : c ≤ 10) (h4 : μ.1 13 4 = nI c) (hg : gAt (μ.1 56) can g c) (hm : ∀ i, ¬ g i = -1) {a b : Nat} (ha : a < c) (hb : b < c) : f_PL_rests_56 n (nI a) (nI b) μ = some (zB (zRs can g c a b)) := by
  have ea := hg a ha
  unfold f_PL_rests_56
  rw [kn_inT (by omega) (by omega), kn_if_t, nI_clamp (by omega), ea]
  unfold zRs
  cases hca : can a
  · rw [if_pos (by rw [if_neg (by decide)])]; rfl
  · rw [if_neg (by rw [if_pos rfl]; exact hm a)]
    have key := kn_all (lp := fun k i => lp_PL_rests_56_12 n (nI a) (nI b) μ k (nI i)) (fun k => !(can k && decide (zNet g a b < zNet g k b))) c (.inr ()) (.inl 0)
      (fun k => by simp only [lp_PL_rests_56_12]; rw [h4, if_pos (by rw [nI_leI (by omega) (by omega)]; omega)])
      (fun k i hi hp => by
        simp only [Bool.not_eq_false', Bool.and_eq_true, decide_eq_true_eq] at hp
        have ei := hg i hi
        rw [hp.1, if_pos rfl] at ei
        simp only [lp_PL_rests_56_12]
        rw [h4, if_neg (by rw [nI_leI (by omega) (by omega)]; omega), kn_inT (by omega) (by omega), kn_if_t, nI_clamp (by omega), ei, if_neg (hm i), c_net_56 h10 hg hi (by omega) hp.1, kn_bs, c_net_56 h10 hg ha (by omega) hca, kn_bs, if_neg (by rw [Int32.not_le]; exact hp.2)])
      (fun k i hi hp => by
        have ei := hg i hi
        simp only [lp_PL_rests_56_12, jn_PL_rests_56_50]
        rw [h4, if_neg (by rw [nI_leI (by omega) (by omega)]; omega), kn_inT (by omega) (by omega), kn_if_t, nI_clamp (by omega), ei]
        cases hci : can i
        · rw [if_pos (by rw [if_neg (by decide)]), nI_1]
        · rw [hci] at hp
          simp only [Bool.true_and, Bool.not_eq_true', decide_eq_false_iff_not] at hp
          rw [if_neg (by rw [if_pos rfl]; exact hm i), c_net_56 h10 hg hi (by omega) hci, kn_bs, c_net_56 h10 hg ha (by omega) hca, kn_bs, if_pos (by rw [← Int32.not_lt]; exact hp), nI_1])
      c 0 n (by omega) (by omega) rfl
    rw [show lp_PL_rests_56_12 n (nI a) (nI b) μ n 0 = _ from key]
    cases zAll (fun k => !(can k && decide (zNet g a b < zNet g k b))) c <;> rfl
