/-! the game: couples that rest -/
theorem zF0 : zB false = 0 := rfl
theorem zT0 : ¬ zB true = 0 := by decide
theorem zBit_tb (a k : Nat) : zBit a k = a.testBit k := by
  unfold zBit
  rw [Nat.testBit_eq_decide_div_mod_eq]
  apply Bool.eq_iff_iff.mpr
  simp
theorem zBit_or (p : Nat → Bool) (c i : Nat) : zBit (zOr p c) i = (decide (i < c) && p i) := by
  induction c with
  | zero => rw [zBit_tb]; show Nat.testBit 0 i = _; simp
  | succ c ih =>
    rw [zOr_s, zBit_tb, Nat.testBit_or, ← zBit_tb, ih]
    by_cases hi : i = c
    · subst hi
      cases p i
      · simp
      · simp [Nat.testBit_two_pow]
    · have e : (if p c = true then 2 ^ c else 0).testBit i = false := by
        cases p c
        · simp
        · simp [Nat.testBit_two_pow]; omega
      rw [e, Bool.or_false]
      congr 1
      apply Bool.eq_iff_iff.mpr
      simp
      omega
def zGs (P : Nat → Nat → Bool) (a b : Nat) (s : Nat × Int32) : Nat × Int32 := if P a b = true then (s.1 + 1, if s.1 = 0 then nI (10 * a + b) else s.2) else s
def zGin (P : Nat → Nat → Bool) (a : Nat) (s : Nat × Int32) (m : Nat) : Nat × Int32 := zFold (fun b s => zGs P a b s) s m
def zGo (P : Nat → Nat → Bool) (c m : Nat) : Nat × Int32 := zFold (fun a s => zGin P a s c) (0, -1) m
theorem zGin_s (P : Nat → Nat → Bool) (a : Nat) (s : Nat × Int32) (m : Nat) : zGin P a s (m + 1) = zGs P a m (zGin P a s m) := rfl
theorem zGo_s (P : Nat → Nat → Bool) (c m : Nat) : zGo P c (m + 1) = zGin P m (zGo P c m) c := rfl
def gI (s : Nat × Int32) : Prop := s.1 = 0 ↔ s.2 = -1
theorem zGs_ok {P : Nat → Nat → Bool} {a b : Nat} {s : Nat × Int32} (ha : a < 10) (hb : b < 10) (h : gI s) : gI (zGs P a b s) := by
  unfold zGs gI at *
  by_cases hp : P a b = true
  · rw [if_pos hp]
    by_cases h0 : s.1 = 0
    · simp only [h0, if_true]
      rw [kn_nm1 (by omega)]
      simp
    · simp only [h0, if_false]
      constructor
      · intro q; omega
      · intro q; exact absurd (h.mpr q) h0
  · rw [if_neg hp]; exact h
theorem zGs_le {P : Nat → Nat → Bool} {a b : Nat} {s : Nat × Int32} : (zGs P a b s).1 ≤ s.1 + 1 := by
  unfold zGs; split <;> simp
theorem zGin_ok {P : Nat → Nat → Bool} {a : Nat} (ha : a < 10) {s : Nat × Int32} (h : gI s) : ∀ m, m ≤ 10 → gI (zGin P a s m) ∧ (zGin P a s m).1 ≤ s.1 + m := by
  intro m
  induction m with
  | zero => intro _; exact ⟨h, Nat.le_refl _⟩
  | succ m ih =>
    intro hm
    obtain ⟨h1, h2⟩ := ih (by omega)
    rw [zGin_s]
    refine ⟨zGs_ok ha (by omega) h1, ?_⟩
    have := zGs_le (P := P) (a := a) (b := m) (s := zGin P a s m)
    omega
theorem zGo_ok {P : Nat → Nat → Bool} {c : Nat} (hc : c ≤ 10) : ∀ m, m ≤ c → gI (zGo P c m) ∧ (zGo P c m).1 ≤ 10 * m := by
  intro m
  induction m with
  | zero => intro _; refine ⟨?_, Nat.le_refl _⟩; show (0 : Nat) = 0 ↔ (-1 : Int32) = -1; simp
  | succ m ih =>
    intro hm
    obtain ⟨h1, h2⟩ := ih (by omega)
    obtain ⟨h3, h4⟩ := zGin_ok (P := P) (a := m) (by omega) h1 c hc
    rw [zGo_s]
    exact ⟨h3, by omega⟩
def zPr (cA : Nat → Bool) (gA : Nat → Int32) (cB : Nat → Bool) (gB : Nat → Int32) (c a b : Nat) : Bool := zRs cA gA c a b && zRs cB gB c b a
def cG (μ : kbM) (cA : Nat → Bool) (gA : Nat → Int32) (cB : Nat → Bool) (gB : Nat → Int32) (c : Nat) : Prop := μ.1 13 4 = nI c ∧ gAt (μ.1 55) cA gA c ∧ gAt (μ.1 56) cB gB c
theorem cG.w {μ : kbM} {cA : Nat → Bool} {gA : Nat → Int32} {cB : Nat → Bool} {gB : Nat → Int32} {c : Nat} (h : cG μ cA gA cB gB c) (k : Nat) (v : Int32) : cG (kbW μ 54 k v) cA gA cB gB c := by
  unfold cG at *
  rw [kW_ne (by decide), kW_ne (by decide), kW_ne (by decide)]
  exact h
theorem c_settle_in {n : Nat} (hn : 100 ≤ n) {cA : Nat → Bool} {gA : Nat → Int32} {cB : Nat → Bool} {gB : Nat → Int32} {c : Nat} (h10 : c ≤ 10) (mA : ∀ i, ¬ gA i = -1) (mB : ∀ i, ¬ gB i = -1) {a : Nat} (ha : a < c) {s0 : Nat × Int32} (hs0 : gI s0) (hs1 : s0.1 ≤ 1000) {μ : kbM} (hG : cG μ cA gA cB gB c) (h5 : μ.1 54 5 = nI s0.1) (h6 : μ.1 54 6 = s0.2) : ∃ ν, lp_PL_settle_46 n (nI a) n 0 μ = some ν ∧ cG ν cA gA cB gB c ∧ ν.1 54 5 = nI (zGin (zPr cA gA cB gB c) a s0 c).1 ∧ ν.1 54 6 = (zGin (zPr cA gA cB gB c) a s0 c).2 := by
  exact kn_for (fun k (s : Int32 × kbM) => lp_PL_settle_46 n (nI a) k s.1 s.2) (fun i s => s.1 = nI i ∧ cG s.2 cA gA cB gB c ∧ s.2.1 54 5 = nI (zGin (zPr cA gA cB gB c) a s0 i).1 ∧ s.2.1 54 6 = (zGin (zPr cA gA cB gB c) a s0 i).2) c (fun r => cG r cA gA cB gB c ∧ r.1 54 5 = nI (zGin (zPr cA gA cB gB c) a s0 c).1 ∧ r.1 54 6 = (zGin (zPr cA gA cB gB c) a s0 c).2)
    (fun k s hs => by
      obtain ⟨v, ν⟩ := s
      simp only at hs
      obtain ⟨rfl, h1, h2⟩ := hs
      exact ⟨ν, by simp (disch := omega) only [kn_if_t, kn_bs, kn_or_l, kn_or_r, kn_inT, nI_clamp, nI_leI, nI_ltI, nI_eq, nI_add, pk_mul, nI_1, kn_eq0, kn_lt0, kn_le0, kn_0le, kn_div, kn_rem, kn_or, kn_and, kn_or0, kn_ad0, kn_shl1, kn_bitB, zBt, zBf, zB1t, zB1f, zB_01, zB_10, kl_2, kl_3, kl_4, kl_5, kl_6, kl_7, kl_8, kl_10, kl_12, kl_13, if_pos, if_neg, ↓reduceIte, eq_self, not_true_eq_false, not_false_eq_true, Nat.add_zero, Nat.or_zero, reduceCtorEq, or_true, true_or, or_false, false_or, decide_true, decide_false, kn_sub1, sb_m1, pk_sub, kW_ne, kW_at, kW_no, kA_ne, kA_eq, ite_self, and_self, true_and, and_true, lp_PL_settle_46, h1.1], h1, h2⟩)
    (fun k i s hi hs => by
      obtain ⟨v, ν⟩ := s
      simp only at hs
      obtain ⟨rfl, h1, h2, h3⟩ := hs
      have q1 := c_rests_55 hn h10 h1.1 h1.2.1 mA ha hi
      have q2 := c_rests_56 hn h10 h1.1 h1.2.2 mB hi ha
      obtain ⟨g1, g2⟩ := zGin_ok (P := zPr cA gA cB gB c) (a := a) (by omega) hs0 i (by omega)
      have hz : zPr cA gA cB gB c a i = (zRs cA gA c a i && zRs cB gB c i a) := rfl
      rw [zGin_s]
      generalize zGin (zPr cA gA cB gB c) a s0 i = s at h2 h3 g1 g2
      unfold zGs
      rw [hz]
      cases r1 : zRs cA gA c a i
      · rw [r1] at q1
        exact Or.inr ⟨(nI (i + 1), ν), by simp (disch := omega) only [kn_if_t, kn_bs, kn_or_l, kn_or_r, kn_inT, nI_clamp, nI_leI, nI_ltI, nI_eq, nI_add, pk_mul, nI_1, kn_eq0, kn_lt0, kn_le0, kn_0le, kn_div, kn_rem, kn_or, kn_and, kn_or0, kn_ad0, kn_shl1, kn_bitB, zBt, zBf, zB1t, zB1f, zB_01, zB_10, kl_2, kl_3, kl_4, kl_5, kl_6, kl_7, kl_8, kl_10, kl_12, kl_13, if_pos, if_neg, ↓reduceIte, eq_self, not_true_eq_false, not_false_eq_true, Nat.add_zero, Nat.or_zero, reduceCtorEq, or_true, true_or, or_false, false_or, decide_true, decide_false, kn_sub1, sb_m1, pk_sub, kW_ne, kW_at, kW_no, kA_ne, kA_eq, ite_self, and_self, true_and, and_true, lp_PL_settle_46, jn_PL_settle_121, h1.1, q1], rfl, h1, h2, h3⟩
      · rw [r1] at q1
        cases r2 : zRs cB gB c i a
        · rw [r2] at q2
          exact Or.inr ⟨(nI (i + 1), ν), by simp (disch := omega) only [kn_if_t, kn_bs, kn_or_l, kn_or_r, kn_inT, nI_clamp, nI_leI, nI_ltI, nI_eq, nI_add, pk_mul, nI_1, kn_eq0, kn_lt0, kn_le0, kn_0le, kn_div, kn_rem, kn_or, kn_and, kn_or0, kn_ad0, kn_shl1, kn_bitB, zBt, zBf, zB1t, zB1f, zB_01, zB_10, kl_2, kl_3, kl_4, kl_5, kl_6, kl_7, kl_8, kl_10, kl_12, kl_13, if_pos, if_neg, ↓reduceIte, eq_self, not_true_eq_false, not_false_eq_true, Nat.add_zero, Nat.or_zero, reduceCtorEq, or_true, true_or, or_false, false_or, decide_true, decide_false, kn_sub1, sb_m1, pk_sub, kW_ne, kW_at, kW_no, kA_ne, kA_eq, ite_self, and_self, true_and, and_true, lp_PL_settle_46, jn_PL_settle_121, h1.1, q1, q2], rfl, h1, h2, h3⟩
        · rw [r2] at q2
          rw [if_pos (show (true && true) = true from rfl)]
          by_cases h0 : s.1 = 0
          · rw [if_pos h0]
            exact Or.inr ⟨(nI (i + 1), kbW (kbW ν 54 6 (nI (10 * a + i))) 54 5 (nI (s.1 + 1))), by simp (disch := omega) only [kn_if_t, kn_bs, kn_or_l, kn_or_r, kn_inT, nI_clamp, nI_leI, nI_ltI, nI_eq, nI_add, pk_mul, nI_1, kn_eq0, kn_lt0, kn_le0, kn_0le, kn_div, kn_rem, kn_or, kn_and, kn_or0, kn_ad0, kn_shl1, kn_bitB, zBt, zBf, zB1t, zB1f, zB_01, zB_10, kl_2, kl_3, kl_4, kl_5, kl_6, kl_7, kl_8, kl_10, kl_12, kl_13, if_pos, if_neg, ↓reduceIte, eq_self, not_true_eq_false, not_false_eq_true, Nat.add_zero, Nat.or_zero, reduceCtorEq, or_true, true_or, or_false, false_or, decide_true, decide_false, kn_sub1, sb_m1, pk_sub, kW_ne, kW_at, kW_no, kA_ne, kA_eq, ite_self, and_self, true_and, and_true, lp_PL_settle_46, jn_PL_settle_121, jn_PL_settle_108, h1.1, q1, q2, h2, h0], rfl, (h1.w _ _).w _ _, kW_at, by show (kbW (kbW ν 54 6 (nI (10 * a + i))) 54 5 (nI (s.1 + 1))).1 54 6 = _; rw [kW_no (by decide), kW_at]⟩
          · rw [if_neg h0]
            exact Or.inr ⟨(nI (i + 1), kbW (kbW ν 54 6 s.2) 54 5 (nI (s.1 + 1))), by simp (disch := omega) only [kn_if_t, kn_bs, kn_or_l, kn_or_r, kn_inT, nI_clamp, nI_leI, nI_ltI, nI_eq, nI_add, pk_mul, nI_1, kn_eq0, kn_lt0, kn_le0, kn_0le, kn_div, kn_rem, kn_or, kn_and, kn_or0, kn_ad0, kn_shl1, kn_bitB, zBt, zBf, zB1t, zB1f, zB_01, zB_10, kl_2, kl_3, kl_4, kl_5, kl_6, kl_7, kl_8, kl_10, kl_12, kl_13, if_pos, if_neg, ↓reduceIte, eq_self, not_true_eq_false, not_false_eq_true, Nat.add_zero, Nat.or_zero, reduceCtorEq, or_true, true_or, or_false, false_or, decide_true, decide_false, kn_sub1, sb_m1, pk_sub, kW_ne, kW_at, kW_no, kA_ne, kA_eq, ite_self, and_self, true_and, and_true, lp_PL_settle_46, jn_PL_settle_121, jn_PL_settle_108, h1.1, q1, q2, h2, h3, h0], rfl, (h1.w _ _).w _ _, kW_at, by show (kbW (kbW ν 54 6 s.2) 54 5 (nI (s.1 + 1))).1 54 6 = _; rw [kW_no (by decide), kW_at]⟩)
    c 0 n (0, μ) (by omega) (by omega) ⟨rfl, hG, h5, h6⟩
theorem c_settle {n : Nat} (hn : 100 ≤ n) {μ : kbM} {W : zW} {D : List (Nat × Nat)} {w : Nat} (h : hOk W D w) (hc : cH μ W D w) {d e : Nat} (hd : d < D.length) (he : e < D.length) : ∃ ν, f_PL_settle n (nI d) (nI e) μ = some ν ∧ ν.1 54 5 = nI (zGo (zPr (zCanB W D d) (zGi W D w e) (zCanB W D e) (zGi W D w d) W.length) W.length W.length).1 ∧ ν.1 54 6 = (zGo (zPr (zCanB W D d) (zGi W D w e) (zCanB W D e) (zGi W D w d) W.length) W.length W.length).2 := by
  have h10 := h.l10
  obtain ⟨μ1, e1, c1, g1⟩ := c_gains_55 hn h hc hd he
  obtain ⟨μ2, e2, c2, g2⟩ := c_gains_56 hn h c1 he hd
  have f2 := fr_f_PL_layGains_56 e2
  have g1' : gAt (μ2.1 55) (zCanB W D d) (zGi W D w e) W.length := by rw [fr_at f2 (by decide) (by decide)]; exact g1
  have hG : cG (kbW (kbW μ2 54 5 0) 54 6 (-1)) (zCanB W D d) (zGi W D w e) (zCanB W D e) (zGi W D w d) W.length := cG.w (cG.w ⟨c2.1.1, g1', g2⟩ 5 0) 6 (-1)
  obtain ⟨r, e3, h3⟩ := kn_for (fun k (s : Int32 × kbM) => lp_PL_settle_32 n k s.1 s.2) (fun i s => s.1 = nI i ∧ cG s.2 (zCanB W D d) (zGi W D w e) (zCanB W D e) (zGi W D w d) W.length ∧ s.2.1 54 5 = nI (zGo (zPr (zCanB W D d) (zGi W D w e) (zCanB W D e) (zGi W D w d) W.length) W.length i).1 ∧ s.2.1 54 6 = (zGo (zPr (zCanB W D d) (zGi W D w e) (zCanB W D e) (zGi W D w d) W.length) W.length i).2) W.length (fun ν => ν.1 54 5 = nI (zGo (zPr (zCanB W D d) (zGi W D w e) (zCanB W D e) (zGi W D w d) W.length) W.length W.length).1 ∧ ν.1 54 6 = (zGo (zPr (zCanB W D d) (zGi W D w e) (zCanB W D e) (zGi W D w d) W.length) W.length W.length).2)
    (fun k s hs => by
      obtain ⟨v, ν⟩ := s
      simp only at hs
      obtain ⟨rfl, h1, h2⟩ := hs
      exact ⟨ν, by simp (disch := omega) only [kn_if_t, kn_bs, kn_or_l, kn_or_r, kn_inT, nI_clamp, nI_leI, nI_ltI, nI_eq, nI_add, pk_mul, nI_1, kn_eq0, kn_lt0, kn_le0, kn_0le, kn_div, kn_rem, kn_or, kn_and, kn_or0, kn_ad0, kn_shl1, kn_bitB, zBt, zBf, zB1t, zB1f, zB_01, zB_10, kl_2, kl_3, kl_4, kl_5, kl_6, kl_7, kl_8, kl_10, kl_12, kl_13, if_pos, if_neg, ↓reduceIte, eq_self, not_true_eq_false, not_false_eq_true, Nat.add_zero, Nat.or_zero, reduceCtorEq, or_true, true_or, or_false, false_or, decide_true, decide_false, kn_sub1, sb_m1, pk_sub, kW_ne, kW_at, kW_no, kA_ne, kA_eq, ite_self, and_self, true_and, and_true, lp_PL_settle_32, h1.1], h2⟩)
    (fun k i s hi hs => by
      obtain ⟨v, ν⟩ := s
      simp only at hs
      obtain ⟨rfl, h1, h2, h3⟩ := hs
      obtain ⟨k1, k2⟩ := zGo_ok (P := zPr (zCanB W D d) (zGi W D w e) (zCanB W D e) (zGi W D w d) W.length) h10 i (by omega)
      obtain ⟨ν1, q1, q2, q3, q4⟩ := c_settle_in hn h10 (zGi_m1 h.1 D w e) (zGi_m1 h.1 D w d) hi k1 (by omega) h1 h2 h3
      exact Or.inr ⟨(nI (i + 1), ν1), by simp (disch := omega) only [kn_if_t, kn_bs, kn_or_l, kn_or_r, kn_inT, nI_clamp, nI_leI, nI_ltI, nI_eq, nI_add, pk_mul, nI_1, kn_eq0, kn_lt0, kn_le0, kn_0le, kn_div, kn_rem, kn_or, kn_and, kn_or0, kn_ad0, kn_shl1, kn_bitB, zBt, zBf, zB1t, zB1f, zB_01, zB_10, kl_2, kl_3, kl_4, kl_5, kl_6, kl_7, kl_8, kl_10, kl_12, kl_13, if_pos, if_neg, ↓reduceIte, eq_self, not_true_eq_false, not_false_eq_true, Nat.add_zero, Nat.or_zero, reduceCtorEq, or_true, true_or, or_false, false_or, decide_true, decide_false, kn_sub1, sb_m1, pk_sub, kW_ne, kW_at, kW_no, kA_ne, kA_eq, ite_self, and_self, true_and, and_true, lp_PL_settle_32, h1.1, q1], rfl, q2, q3, q4⟩)
    W.length 0 n (0, kbW (kbW μ2 54 5 0) 54 6 (-1)) (by omega) (by omega) ⟨rfl, hG, by show (kbW (kbW μ2 54 5 0) 54 6 (-1)).1 54 5 = _; rw [kW_no (by decide), kW_at]; rfl, kW_at⟩
  refine ⟨r, ?_, h3⟩
  unfold f_PL_settle
  rw [e1, kn_bs, e2, kn_bs, show lp_PL_settle_32 n n 0 (kbW (kbW μ2 54 5 0) 54 6 (-1)) = some r from e3, kn_bs]
/-! the model's game -/
def mG (μ : kbM) (gA gB : Nat → Int32) (c : Nat) : Prop := μ.1 57 27 = nI c ∧ ∀ i, i < c → μ.1 91 i = gA i ∧ μ.1 91 (10 + i) = gB i
theorem m_gains {n : Nat} (hn : 100 ≤ n) (z x y : Int32) {μ : kbM} {W : zW} {D : List (Nat × Nat)} {w : Nat} (h : hOk W D w) (hc : mH μ W D w) {d e : Nat} (hd : d < D.length) (he : e < D.length) : ∃ ν, lp_MD_game_64 n (nI d) (nI e) z x y n 0 μ = some ν ∧ mG ν (zGi W D w e) (zGi W D w d) W.length := by
  have h10 := h.l10
  exact kn_for (fun k (s : Int32 × kbM) => lp_MD_game_64 n (nI d) (nI e) z x y k s.1 s.2) (fun i s => s.1 = nI i ∧ mH s.2 W D w ∧ ∀ j, j < i → s.2.1 91 j = zGi W D w e j ∧ s.2.1 91 (10 + j) = zGi W D w d j) W.length (fun r => mG r (zGi W D w e) (zGi W D w d) W.length)
    (fun k s hs => by
      obtain ⟨v, ν⟩ := s
      simp only at hs
      obtain ⟨rfl, h1, h2⟩ := hs
      exact ⟨ν, by simp (disch := omega) only [kn_if_t, kn_bs, kn_or_l, kn_or_r, kn_inT, nI_clamp, nI_leI, nI_ltI, nI_eq, nI_add, pk_mul, nI_1, kn_eq0, kn_lt0, kn_le0, kn_0le, kn_div, kn_rem, kn_or, kn_and, kn_or0, kn_ad0, kn_shl1, kn_bitB, zBt, zBf, zB1t, zB1f, zB_01, zB_10, kl_2, kl_3, kl_4, kl_5, kl_6, kl_7, kl_8, kl_10, kl_12, kl_13, if_pos, if_neg, ↓reduceIte, eq_self, not_true_eq_false, not_false_eq_true, Nat.add_zero, Nat.or_zero, reduceCtorEq, or_true, true_or, or_false, false_or, decide_true, decide_false, kn_sub1, sb_m1, pk_sub, kW_ne, kW_at, kW_no, kA_ne, kA_eq, ite_self, and_self, true_and, and_true, lp_MD_game_64, h1.1.1], h1.1.1, h2⟩)
    (fun k i s hi hs => by
      obtain ⟨v, ν⟩ := s
      simp only at hs
      obtain ⟨rfl, h1, h2⟩ := hs
      obtain ⟨ν1, e1, h3⟩ := m_told hn h h1 he hi
      have f1 := fr_f_MD_isTold e1
      have n1 : ν1.1 91 = ν.1 91 := fr_at f1 (by decide) (by decide)
      have h4 : mH (kbW ν1 91 i (zGi W D w e i)) W D w := h3.congr (fun a ha => kW_ne (by revert a; decide)) (fun k hk => by rw [kW_ne (by decide)])
      obtain ⟨ν2, e2, h5⟩ := m_told hn h h4 hd hi
      have f2 := fr_f_MD_isTold e2
      have n2 : ν2.1 91 = (kbW ν1 91 i (zGi W D w e i)).1 91 := fr_at f2 (by decide) (by decide)
      have wo1 := (h3.1.2 i hi).2.2
      have wo2 := (h5.1.2 i hi).2.2
      have z1 : zGi W D w e i = if zTold W D w i e = true then nI (zWorthAt W i) else 0 := rfl
      have z2 : zGi W D w d i = if zTold W D w i d = true then nI (zWorthAt W i) else 0 := rfl
      have k10 : (10 : Int32) + nI i = nI (10 + i) := by rw [kl_10, nI_add]
      refine Or.inr ⟨(nI (i + 1), kbW ν2 91 (10 + i) (zGi W D w d i)), ?_, rfl, h5.congr (fun a ha => kW_ne (by revert a; decide)) (fun k hk => by show (kbW ν2 91 (10 + i) (zGi W D w d i)).1 57 k = _; rw [kW_ne (by decide)]), ?_⟩
      · have step : ∀ v : Int32, jn_MD_game_100 n (lp_MD_game_64 n (nI d) (nI e) z x y k) (nI d) (nI e) z x y (nI i) (nI i) (zGi W D w e i) ν1 = lp_MD_game_64 n (nI d) (nI e) z x y k (nI (i + 1)) (kbW ν2 91 (10 + i) (zGi W D w d i)) := by
          intro v
          simp only [jn_MD_game_100, jn_MD_game_131]
          rw [kn_inT (by omega) (by omega), kn_if_t, nI_clamp (by omega), e2, kn_bs]
          simp only
          rw [z2, k10, kn_inT (by omega) (by omega), kn_inT (by omega) (by omega), wo2, nI_clamp (by omega), nI_1]
          cases zTold W D w i d
          · rw [if_pos zF0, kn_if_t, if_neg (by decide)]
          · rw [if_neg (by decide), kn_if_t, kn_if_t, if_pos rfl]
        simp only [lp_MD_game_64]
        rw [h1.1.1, if_neg (by rw [nI_leI (by omega) (by omega)]; omega), e1, kn_bs]
        simp only
        rw [kn_inT (by omega) (by omega), nI_clamp (by omega), wo1]
        rw [← step 0, z1]
        cases zTold W D w i e
        · rw [if_pos zF0, if_neg (by decide)]
        · rw [if_neg (by decide), kn_if_t, if_pos rfl]
      · intro j hj
        show (kbW ν2 91 (10 + i) (zGi W D w d i)).1 91 j = _ ∧ (kbW ν2 91 (10 + i) (zGi W D w d i)).1 91 (10 + j) = _
        rw [kW_no (by omega), n2]
        by_cases hji : j = i
        · subst hji; rw [kW_at, kW_at]; exact ⟨rfl, rfl⟩
        · rw [kW_no (by omega), kW_no (by omega), n2, kW_no (by omega), n1]
          exact h2 j (by omega))
    W.length 0 n (0, μ) (by omega) (by omega) ⟨rfl, hc, fun j hj => absurd hj (Nat.not_lt_zero j)⟩
theorem m_gain0 {μ : kbM} {gA gB : Nat → Int32} {c : Nat} (h10 : c ≤ 10) (hG : mG μ gA gB c) {i b : Nat} (hi : i < c) (hb : b < c) : f_MD_gain 0 (nI i) (nI b) μ = some (zNet gA i b) := by
  have e : (10 : Int32) * 0 + nI i = nI i := by simp
  unfold f_MD_gain jn_MD_gain_22 zNet
  rw [e, kn_inT (by omega) (by omega), kn_if_t, nI_clamp (by omega), (hG.2 i hi).1]
  by_cases q : i = b
  · rw [if_pos (by rw [q]), if_pos q]
  · rw [if_neg (by rw [nI_eq (by omega) (by omega)]; exact q), if_neg q]
theorem m_gain1 {μ : kbM} {gA gB : Nat → Int32} {c : Nat} (h10 : c ≤ 10) (hG : mG μ gA gB c) {i b : Nat} (hi : i < c) (hb : b < c) : f_MD_gain 1 (nI i) (nI b) μ = some (zNet gB i b) := by
  have e : (10 : Int32) * 1 + nI i = nI (10 + i) := by rw [show (10 : Int32) * 1 = nI 10 by decide, nI_add]
  unfold f_MD_gain jn_MD_gain_22 zNet
  rw [e, kn_inT (by omega) (by omega), kn_if_t, nI_clamp (by omega), (hG.2 i hi).2]
  by_cases q : i = b
  · rw [if_pos (by rw [q]), if_pos q]
  · rw [if_neg (by rw [nI_eq (by omega) (by omega)]; exact q), if_neg q]
theorem zAll_mono {q : Nat → Bool} {i c : Nat} (hic : i ≤ c) (h : zAll q i = false) : zAll q c = false := by
  cases hz : zAll q c with
  | false => rfl
  | true =>
    have := (zAll_iff q i).mpr fun j hj => (zAll_iff q c).mp hz j (by omega)
    rw [this] at h; cases h
theorem zAll_and (p q : Nat → Bool) (c : Nat) : zAll (fun k => p k && q k) c = (zAll p c && zAll q c) := by
  induction c with
  | zero => rfl
  | succ c ih => simp only [zAll, ih]; cases zAll p c <;> cases zAll q c <;> cases p c <;> cases q c <;> rfl
theorem m_rests {n : Nat} (hn : 100 ≤ n) (z x y : Int32) {μ : kbM} {cA : Nat → Bool} {gA : Nat → Int32} {cB : Nat → Bool} {gB : Nat → Int32} {c : Nat} (h10 : c ≤ 10) (hG : mG μ gA gB c) {a b : Nat} (ha : a < c) (hb : b < c) (b0 : Bool) {sA sB : Nat} (hA : sA < 1024) (hB : sB < 1024) (eA : ∀ i, i < c → zBit sA i = cA i) (eB : ∀ i, i < c → zBit sB i = cB i) : lp_MD_game_198 n z (nI sA) (nI sB) x y (nI a) (nI b) μ n (zB b0) 0 = some (zB (b0 && zAll (fun k => !(cA k && decide (zNet gA a b < zNet gA k b)) && !(cB k && decide (zNet gB b a < zNet gB k a))) c)) := by
  obtain ⟨r, e1, e2⟩ := kn_for (fun k (s : Int32 × Int32) => lp_MD_game_198 n z (nI sA) (nI sB) x y (nI a) (nI b) μ k s.1 s.2) (fun i s => s.1 = zB (b0 && zAll (fun k => !(cA k && decide (zNet gA a b < zNet gA k b)) && !(cB k && decide (zNet gB b a < zNet gB k a))) i) ∧ s.2 = nI i) c (fun r => r = zB (b0 && zAll (fun k => !(cA k && decide (zNet gA a b < zNet gA k b)) && !(cB k && decide (zNet gB b a < zNet gB k a))) c))
    (fun k s hs => by
      obtain ⟨v, u⟩ := s
      simp only at hs
      obtain ⟨rfl, rfl⟩ := hs
      exact ⟨_, by simp only [lp_MD_game_198]; rw [hG.1, if_pos (by rw [nI_leI (by omega) (by omega)]; omega)], rfl⟩)
    (fun k i s hi hs => by
      obtain ⟨v, u⟩ := s
      simp only at hs
      obtain ⟨rfl, rfl⟩ := hs
      cases hz : (b0 && zAll (fun k => !(cA k && decide (zNet gA a b < zNet gA k b)) && !(cB k && decide (zNet gB b a < zNet gB k a))) i)
      · refine Or.inl ⟨_, by simp only [lp_MD_game_198]; rw [hG.1, if_neg (by rw [nI_leI (by omega) (by omega)]; omega), if_pos zF0], ?_⟩
        have : (b0 && zAll (fun k => !(cA k && decide (zNet gA a b < zNet gA k b)) && !(cB k && decide (zNet gB b a < zNet gB k a))) c) = false := by
          rw [Bool.and_eq_false_iff] at hz ⊢
          rcases hz with hz | hz
          · exact Or.inl hz
          · exact Or.inr (zAll_mono (by omega) hz)
        rw [this]
      · have hb0 : b0 = true ∧ zAll (fun k => !(cA k && decide (zNet gA a b < zNet gA k b)) && !(cB k && decide (zNet gB b a < zNet gB k a))) i = true := by simpa using hz
        obtain ⟨rfl, hz2⟩ := hb0
        refine Or.inr ⟨(zB (true && zAll (fun k => !(cA k && decide (zNet gA a b < zNet gA k b)) && !(cB k && decide (zNet gB b a < zNet gB k a))) (i + 1)), nI (i + 1)), ?_, rfl, rfl⟩
        have k1 := md_isOf (a := sA) (k := i) (by omega) (by omega)
        have k2 := md_isOf (a := sB) (k := i) (by omega) (by omega)
        rw [eA i hi] at k1
        rw [eB i hi] at k2
        have g1 := m_gain0 h10 hG hi hb
        have g2 := m_gain0 h10 hG ha hb
        have g3 := m_gain1 h10 hG hi ha
        have g4 := m_gain1 h10 hG hb ha
        have hz3 : zAll (fun k => !(cA k && decide (zNet gA a b < zNet gA k b)) && !(cB k && decide (zNet gB b a < zNet gB k a))) (i + 1) = (!(cA i && decide (zNet gA a b < zNet gA i b)) && !(cB i && decide (zNet gB b a < zNet gB i a))) := by
          show (zAll _ i && _) = _
          rw [hz2, Bool.true_and]
        simp only [lp_MD_game_198, jn_MD_game_278, jn_MD_game_279, jn_MD_game_243, jn_MD_game_274]
        rw [hG.1, if_neg (by rw [nI_leI (by omega) (by omega)]; omega), if_neg (show ¬ zB true = 0 by decide), k1, kn_bs, g1, kn_bs, g2, kn_bs, k2, g3, g4]
        simp only [kn_bs]
        rw [hz3, nI_1, Bool.true_and]
        by_cases q1 : zNet gA a b < zNet gA i b
        · rw [if_pos q1, decide_eq_true q1]
          by_cases q2 : zNet gB b a < zNet gB i a
          · rw [if_pos q2, decide_eq_true q2]
            cases cA i <;> cases cB i <;> rfl
          · rw [if_neg q2, decide_eq_false q2]
            cases cA i <;> cases cB i <;> rfl
        · rw [if_neg q1, decide_eq_false q1]
          by_cases q2 : zNet gB b a < zNet gB i a
          · rw [if_pos q2, decide_eq_true q2]
            cases cA i <;> cases cB i <;> rfl
          · rw [if_neg q2, decide_eq_false q2]
            cases cA i <;> cases cB i <;> rfl)
    c 0 n (zB b0, 0) (by omega) (by omega) ⟨by show zB b0 = zB (b0 && true); rw [Bool.and_true], rfl⟩
  rw [show lp_MD_game_198 n z (nI sA) (nI sB) x y (nI a) (nI b) μ n (zB b0) 0 = some r from e1, e2]
theorem m_game_in {n : Nat} (hn : 100 ≤ n) (z : Int32) {μ : kbM} {cA : Nat → Bool} {gA : Nat → Int32} {cB : Nat → Bool} {gB : Nat → Int32} {c : Nat} (h10 : c ≤ 10) (hG : mG μ gA gB c) {a : Nat} (ha : a < c) {sA sB : Nat} (hA : sA < 1024) (hB : sB < 1024) (eA : ∀ i, i < c → zBit sA i = cA i) (eB : ∀ i, i < c → zBit sB i = cB i) {s0 : Nat × Int32} (hs0 : gI s0) : lp_MD_game_159 n z (nI sA) (nI sB) (nI a) μ n (nI s0.1) s0.2 0 = some (nI (zGin (zPr cA gA cB gB c) a s0 c).1, (zGin (zPr cA gA cB gB c) a s0 c).2) := by
  exact kn_loop (fun k (s : Nat × Int32) i => lp_MD_game_159 n z (nI sA) (nI sB) (nI a) μ k (nI s.1) s.2 (nI i)) (fun b s => zGs (zPr cA gA cB gB c) a b s) s0 c (nI (zGin (zPr cA gA cB gB c) a s0 c).1, (zGin (zPr cA gA cB gB c) a s0 c).2)
    (fun k => by simp only [lp_MD_game_159]; rw [hG.1, if_pos (by rw [nI_leI (by omega) (by omega)]; omega)]; rfl)
    (fun k i hi => by
      have hg := (zGin_ok (P := zPr cA gA cB gB c) (a := a) (by omega) hs0 i (by omega)).1
      rw [show zFold (fun b s => zGs (zPr cA gA cB gB c) a b s) s0 i = zGin (zPr cA gA cB gB c) a s0 i from rfl]
      generalize zGin (zPr cA gA cB gB c) a s0 i = s at hg
      obtain ⟨s1, s2⟩ := s
      have k1 := md_isOf (a := sA) (k := a) (by omega) (by omega)
      have k2 := md_isOf (a := sB) (k := i) (by omega) (by omega)
      rw [eA a ha] at k1
      rw [eB i hi] at k2
      have hr := fun b0 : Bool => m_rests hn z (nI s1) s2 h10 hG ha hi b0 hA hB eA eB
      have hP : zPr cA gA cB gB c a i = ((cA a && cB i) && zAll (fun k => !(cA k && decide (zNet gA a i < zNet gA k i)) && !(cB k && decide (zNet gB i a < zNet gB k a))) c) := by
        unfold zPr zRs
        rw [zAll_and]
        cases cA a <;> cases cB i <;> simp
      have fin : ∀ b0 : Bool, b0 = (cA a && cB i) → jn_MD_game_193 n (lp_MD_game_159 n z (nI sA) (nI sB) (nI a) μ k) z (nI sA) (nI sB) (nI s1) s2 (nI a) (nI i) (zB b0) μ = lp_MD_game_159 n z (nI sA) (nI sB) (nI a) μ k (nI (zGs (zPr cA gA cB gB c) a i (s1, s2)).1) (zGs (zPr cA gA cB gB c) a i (s1, s2)).2 (nI (i + 1)) := by
        intro b0 hb0
        simp only [jn_MD_game_193, jn_MD_game_287, jn_MD_game_317, jn_MD_game_319]
        rw [hr b0, kn_bs, hb0, ← hP]
        unfold zGs
        cases zPr cA gA cB gB c a i
        · rw [if_pos zF0, if_neg (by decide), nI_1]
        · rw [if_neg (show ¬ zB true = 0 by decide), if_pos rfl, nI_1, nI_1]
          unfold gI at hg
          simp only at hg ⊢
          by_cases h0 : s1 = 0
          · rw [if_pos (hg.mp h0), if_pos h0, kl_10, pk_mul, nI_add]
          · rw [if_neg (fun q => h0 (hg.mpr q)), if_neg h0]
      simp only [lp_MD_game_159, jn_MD_game_192]
      rw [hG.1, if_neg (by rw [nI_leI (by omega) (by omega)]; omega), k1, kn_bs, k2, kn_bs]
      cases e1 : cA a
      · rw [if_pos zF0]
        exact fin false (by rw [e1]; rfl)
      · rw [if_neg (show ¬ zB true = 0 by decide)]
        cases e2 : cB i
        · rw [if_pos zF0]
          exact fin false (by rw [e1, e2]; rfl)
        · rw [if_neg (show ¬ zB true = 0 by decide)]
          exact fin true (by rw [e1, e2]; rfl))
    c 0 n (by omega) (by omega)
theorem m_game_out {n : Nat} (hn : 100 ≤ n) (z : Int32) {μ : kbM} {cA : Nat → Bool} {gA : Nat → Int32} {cB : Nat → Bool} {gB : Nat → Int32} {c : Nat} (h10 : c ≤ 10) (hG : mG μ gA gB c) {sA sB : Nat} (hA : sA < 1024) (hB : sB < 1024) (eA : ∀ i, i < c → zBit sA i = cA i) (eB : ∀ i, i < c → zBit sB i = cB i) : lp_MD_game_147 n z (nI sA) (nI sB) μ n 0 (-1) 0 = some (nI (zGo (zPr cA gA cB gB c) c c).1, (zGo (zPr cA gA cB gB c) c c).2) := by
  exact kn_loop (fun k (s : Nat × Int32) i => lp_MD_game_147 n z (nI sA) (nI sB) μ k (nI s.1) s.2 (nI i)) (fun a s => zGin (zPr cA gA cB gB c) a s c) (0, -1) c (nI (zGo (zPr cA gA cB gB c) c c).1, (zGo (zPr cA gA cB gB c) c c).2)
    (fun k => by simp only [lp_MD_game_147]; rw [hG.1, if_pos (by rw [nI_leI (by omega) (by omega)]; omega)]; rfl)
    (fun k i hi => by
      have hg := (zGo_ok (P := zPr cA gA cB gB c) h10 i (by omega)).1
      rw [show zFold (fun a s => zGin (zPr cA gA cB gB c) a s c) (0, -1) i = zGo (zPr cA gA cB gB c) c i from rfl]
      simp only [lp_MD_game_147]
      rw [hG.1, if_neg (by rw [nI_leI (by omega) (by omega)]; omega), m_game_in hn z h10 hG hi hA hB eA eB hg, kn_bs, nI_1])
    c 0 n (by omega) (by omega)
theorem zWordsOf_bit (W : zW) (D : List (Nat × Nat)) (d : Nat) {i : Nat} (hi : i < W.length) : zBit (zWordsOf W D d) i = zCanB W D d i := by
  unfold zWordsOf
  rw [zBit_or, decide_eq_true hi, Bool.true_and]
theorem zWordsOf_lt {W : zW} (h : zWok W) (D : List (Nat × Nat)) (d : Nat) : zWordsOf W D d < 1024 := Nat.lt_of_lt_of_le (zOr_lt _ _) (Nat.pow_le_pow_right (by decide) h.1)
def zGm (A : zA) (d e : Nat) : Nat × Int32 := zGo (zPr (zCanB A.1.1.1 A.2.2.1 d) (zGi A.1.1.1 A.2.2.1 A.1.1.2 e) (zCanB A.1.1.1 A.2.2.1 e) (zGi A.1.1.1 A.2.2.1 A.1.1.2 d) A.1.1.1.length) A.1.1.1.length A.1.1.1.length
def s_game (A : zA) (u1 u2 u3 : Int32) : Int32 × Int32 := if zIn u1 A.2.2.1.length = true then (if zIn u2 A.2.2.1.length = true then (if zIn u3 2 = true then (if u1 = u2 then (2, 0) else (0, if u3 = 0 then nI (zGm A u1.toNatClampNeg u2.toNatClampNeg).1 else (zGm A u1.toNatClampNeg u2.toNatClampNeg).2)) else (1, 0)) else (1, 0)) else (1, 0)
theorem cl_game {n : Nat} (hn : 100 ≤ n) {μ : kbM} {A : zA} (hA : zOk A) (h : rC μ A) (u1 u2 u3 : Int32) : ∃ μ1, f_L_game n u1 u2 u3 μ = some ((s_game A u1 u2 u3).1, μ1) ∧ ((s_game A u1 u2 u3).1 = 0 → μ1.2 97 0 = (s_game A u1 u2 u3).2.toInt64) := by
  have h6 := hA.doors.1
  unfold f_L_game f_KB_game s_game jn_KB_game_61
  rw [kb_needDoor n h.doors h6]
  rcases zIn_cases u1 (c := A.2.2.1.length) (by omega) with ⟨a, ha, rfl⟩ | ⟨h1, -⟩
  · rw [zIn_n (by omega), decide_eq_true ha]
    simp only [↓reduceIte, kn_or_r]
    rw [kb_needDoor n h.doors h6]
    rcases zIn_cases u2 (c := A.2.2.1.length) (by omega) with ⟨b, hb, rfl⟩ | ⟨h1, -⟩
    · rw [zIn_n (by omega), decide_eq_true hb]
      simp only [↓reduceIte, kn_or_r]
      rw [show f_KB_needWhat n u3 2 μ = _ from kb_needWhat n μ u3 (c := 2) (by decide)]
      cases q3 : zIn u3 2
      · exact ⟨μ, rfl, fun q => absurd q z1n⟩
      · simp only [↓reduceIte, kn_or_r]
        by_cases q : nI a = nI b
        · rw [if_pos q, if_pos q]; exact ⟨_, rfl, fun q => absurd q z2n⟩
        · obtain ⟨ν, e1, e2, e3⟩ := c_settle hn hA.H h.H ha hb
          rw [if_neg q, if_neg q, e1, kn_bs, e2, e3, nI_clamp (by omega), nI_clamp (by omega)]
          by_cases q0 : u3 = 0
          · rw [if_pos q0, if_pos q0]; exact ⟨_, rfl, fun _ => kX_at⟩
          · rw [if_neg q0, if_neg q0]; exact ⟨_, rfl, fun _ => kX_at⟩
    · rw [h1]; exact ⟨μ, rfl, fun q => absurd q z1n⟩
  · rw [h1]; exact ⟨μ, rfl, fun q => absurd q z1n⟩
theorem md_game {n : Nat} (hn : 100 ≤ n) {μ : kbM} {A : zA} (hA : zOk A) (h0 : rM μ A) (u1 u2 u3 : Int32) : ∃ v μ2, f_MD_game n u1 u2 u3 μ = some (v, μ2) ∧ μ2.1 57 3 = (s_game A u1 u2 u3).1 ∧ ((s_game A u1 u2 u3).1 = 0 → v = (s_game A u1 u2 u3).2) := by
  have h6 := hA.doors.1
  have h := h0.c0 0
  unfold f_MD_game s_game jn_MD_game_30 jn_MD_game_342 f_MD_fail
  rw [md_isDoor h.doors h6, md_isDoor h.doors h6]
  simp only [kn_bs]
  rcases zIn_cases u1 (c := A.2.2.1.length) (by omega) with ⟨a, ha, rfl⟩ | ⟨h1, -⟩
  · rw [zIn_n (by omega), decide_eq_true ha, if_neg zT0]
    rcases zIn_cases u2 (c := A.2.2.1.length) (by omega) with ⟨b, hb, rfl⟩ | ⟨h1, -⟩
    · rw [zIn_n (by omega), decide_eq_true hb, if_neg zT0]
      simp only [↓reduceIte]
      rcases zIn_2 u3 with ⟨k1, k2⟩ | ⟨k1, k2, k3⟩ | ⟨k1, k2, k3, k4⟩
      · rw [if_pos k1, k2]; exact ⟨_, _, rfl, kW_at, fun q => absurd q z1n⟩
      · rw [if_neg k1, if_neg k2, k3]; exact ⟨_, _, rfl, kW_at, fun q => absurd q z1n⟩
      · rw [if_neg k1, if_pos k2, k3]
        simp only [↓reduceIte]
        by_cases q : nI a = nI b
        · rw [if_pos q, if_pos q]; exact ⟨_, _, rfl, kW_at, fun q => absurd q z2n⟩
        · obtain ⟨ν, e1, hG⟩ := m_gains hn u3 (nI (zWordsOf A.1.1.1 A.2.2.1 a)) (nI (zWordsOf A.1.1.1 A.2.2.1 b)) hA.H h.H ha hb
          have f := fr_lp_MD_game_64 e1
          have k57 : ν.1 57 3 = 0 := (fr_57 f (by decide) (by decide)).trans kW_at
          have e2 := m_game_out hn u3 hA.words.1 hG (zWordsOf_lt hA.words A.2.2.1 a) (zWordsOf_lt hA.words A.2.2.1 b) (fun i hi => zWordsOf_bit A.1.1.1 A.2.2.1 a hi) (fun i hi => zWordsOf_bit A.1.1.1 A.2.2.1 b hi)
          rw [if_neg q, if_neg q, m_wordsOf hn hA.H h.H ha, kn_bs, m_wordsOf hn hA.H h.H hb, kn_bs, e1, kn_bs, e2, kn_bs, nI_clamp (by omega), nI_clamp (by omega)]
          by_cases q0 : u3 = 0
          · rw [if_pos q0, if_pos q0]; exact ⟨_, _, rfl, k57, fun _ => rfl⟩
          · rw [if_neg q0, if_neg q0]; exact ⟨_, _, rfl, k57, fun _ => rfl⟩
    · rw [h1]; exact ⟨_, _, rfl, kW_at, fun q => absurd q z1n⟩
  · rw [h1]; exact ⟨_, _, rfl, kW_at, fun q => absurd q z1n⟩
theorem op_31 {n : Nat} (hn : 5000 ≤ n) {μ : kbM} (hI : kbInv μ) (u1 u2 u3 : Int32) : ∃ μ', c_law_31 n u1 u2 u3 μ = some μ' ∧ kbInv μ' := by
  obtain ⟨A, hA, hC, hM⟩ := hI
  obtain ⟨μ1, h1, h4⟩ := cl_game (n := n) (by omega) hA hC u1 u2 u3
  have f1 := fr_f_L_game h1
  have hC1 := hC.fr f1 (by decide) (by decide)
  have hM1 := hM.fr f1 (by decide) (by decide)
  obtain ⟨v, μ2, h2, h3, h5⟩ := md_game (n := n) (by omega) hA hM1 u1 u2 u3
  have f2 := fr_f_MD_game h2
  refine ⟨μ2, law_int h1 h2 h3 (fun q => ?_), A, hA, hC1.fr f2 (by decide) (by decide), hM1.fr f2 (by decide) (by decide)⟩
  rw [fr_at2 f2 (by decide) (by decide), h4 q, h5 q]
