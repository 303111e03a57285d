/-! THE MODEL READS A BOOK: tokens -/
def mTx (μ : kbM) (x : pX) : Prop := μ.1 57 15 = nI x.2 ∧ ∀ i, i < x.2 → μ.1 69 i = nI (x.1 i)
theorem m_byte {μ : kbM} {x : pX} (hx : xOk x) (h : mTx μ x) {i : Nat} (hi : i < x.2) : f_MD_byteAt (nI i) μ = some (nI (x.1 i)) := by
  have := hx.1
  unfold f_MD_byteAt jn_MD_byteAt_18
  rw [h.1, if_neg (by rw [nI_leI (by omega) (by omega)]; omega), kn_inT (by omega) (by omega), kn_if_t, nI_clamp (by omega), h.2 i hi]
theorem m_byte0 {μ : kbM} {x : pX} (hx : xOk x) (h : mTx μ x) : f_MD_byteAt (nI x.2) μ = some (-1) := by
  have := hx.1
  unfold f_MD_byteAt jn_MD_byteAt_18
  rw [h.1, if_pos (by rw [nI_leI (by omega) (by omega)]; omega)]
theorem mTx.sm {μ μ' : kbM} {x : pX} (h : mTx μ x) (s : sm 57 [14, 16, 17, 18, 19, 20, 21] μ μ') : mTx μ' x := by
  unfold mTx
  rw [s.2 15 (by decide), s.1 69 (by decide)]
  exact h
theorem m_skip {n : Nat} {x : pX} (hx : xOk x) : ∀ (j k i : Nat) (μ : kbM), i + j = x.2 → j < k → mTx μ x → μ.1 57 14 = nI i → ∃ μ', lp_MD_stepOn_0 n k μ = some μ' ∧ μ'.1 57 14 = nI (tSk isBl x.1 j i) ∧ sm 57 [14] μ μ' := by
  have hn := hx.1
  intro j
  induction j with
  | zero =>
    intro k i μ h1 h2 h3 h4
    obtain ⟨k, rfl⟩ : ∃ q, k = q + 1 := ⟨k - 1, by omega⟩
    obtain rfl : i = x.2 := by omega
    refine ⟨μ, ?_, h4, sm.rf⟩
    simp only [lp_MD_stepOn_0]
    rw [h4, m_byte0 hx h3, kn_bs, if_neg (by decide), kn_bs, if_neg (by decide)]
  | succ j ih =>
    intro k i μ h1 h2 h3 h4
    obtain ⟨k, rfl⟩ : ∃ q, k = q + 1 := ⟨k - 1, by omega⟩
    have hb := hx.2 i (by omega)
    have start : lp_MD_stepOn_0 n (k + 1) μ = if zB (isBl (x.1 i)) = 0 then some μ else lp_MD_stepOn_0 n k (kbW μ 57 14 (nI (i + 1))) := by
      simp only [lp_MD_stepOn_0]
      unfold jn_MD_stepOn_26 isBl
      rw [h4, m_byte hx h3 (by omega), kn_bs, nI_1, show (32 : Int32) = nI 32 from rfl, kl_10]
      by_cases q1 : x.1 i = 32
      · rw [q1, if_pos rfl]; rfl
      · rw [if_neg (by rw [nI_eq (by omega) (by decide)]; exact q1), kn_bs, beq_eq_false_iff_ne.mpr q1]
        by_cases q2 : x.1 i = 10
        · rw [q2, if_pos rfl]; rfl
        · rw [if_neg (by rw [nI_eq (by omega) (by decide)]; exact q2), beq_eq_false_iff_ne.mpr q2]; rfl
    simp only [tSk]
    cases hbl : isBl (x.1 i)
    · exact ⟨μ, by rw [start, hbl, if_pos zF0], by rw [h4, if_neg (by decide)], sm.rf⟩
    · obtain ⟨μ', e1, e2, e3⟩ := ih k (i + 1) (kbW μ 57 14 (nI (i + 1))) (by omega) (by omega) (h3.sm (sm.rf.w (by decide))) kW_at
      exact ⟨μ', by rw [start, hbl, if_neg zT0]; exact e1, by rw [e2, if_pos rfl], (sm.rf.w (by decide)).tr e3⟩
theorem m_let {n : Nat} {x : pX} (hx : xOk x) : ∀ (j k i : Nat) (μ : kbM), i + j = x.2 → j < k → mTx μ x → μ.1 57 14 = nI i → ∃ μ', lp_MD_stepOn_76 n k μ = some μ' ∧ μ'.1 57 14 = nI (tSk isLe x.1 j i) ∧ sm 57 [14] μ μ' := by
  have hn := hx.1
  intro j
  induction j with
  | zero =>
    intro k i μ h1 h2 h3 h4
    obtain ⟨k, rfl⟩ : ∃ q, k = q + 1 := ⟨k - 1, by omega⟩
    obtain rfl : i = x.2 := by omega
    refine ⟨μ, ?_, h4, sm.rf⟩
    simp only [lp_MD_stepOn_76]
    rw [h4, m_byte0 hx h3, kn_bs, md_letM1.1, kn_bs, if_pos rfl]
  | succ j ih =>
    intro k i μ h1 h2 h3 h4
    obtain ⟨k, rfl⟩ : ∃ q, k = q + 1 := ⟨k - 1, by omega⟩
    have hb := hx.2 i (by omega)
    have start : lp_MD_stepOn_76 n (k + 1) μ = if zB (isLe (x.1 i)) = 0 then some μ else lp_MD_stepOn_76 n k (kbW μ 57 14 (nI (i + 1))) := by
      simp only [lp_MD_stepOn_76]
      rw [h4, m_byte hx h3 (by omega), kn_bs, md_isLetter hb, kn_bs, nI_1]
    simp only [tSk]
    cases hbl : isLe (x.1 i)
    · exact ⟨μ, by rw [start, hbl, if_pos zF0], by rw [h4, if_neg (by decide)], sm.rf⟩
    · obtain ⟨μ', e1, e2, e3⟩ := ih k (i + 1) (kbW μ 57 14 (nI (i + 1))) (by omega) (by omega) (h3.sm (sm.rf.w (by decide))) kW_at
      exact ⟨μ', by rw [start, hbl, if_neg zT0]; exact e1, by rw [e2, if_pos rfl], (sm.rf.w (by decide)).tr e3⟩
def dgv (b : Nat → Nat) : Nat → Nat → Nat → Nat
  | 0, _, v => v
  | k + 1, i, v => if isDi (b i) = true then dgv b k (i + 1) (min 100000 (10 * v + (b i - 48))) else v
theorem dgv_num {x : pX} {f : Nat} : ∀ (j m v : Nat), v = zFold (fun j v => 10 * v + (x.1 (f + j) - 48)) 0 m → v < 10 ^ m → tSk isDi x.1 j (f + m) - f ≤ 4 → dgv x.1 j (f + m) v = zFold (fun j v => 10 * v + (x.1 (f + j) - 48)) 0 (tSk isDi x.1 j (f + m) - f) := by
  intro j
  induction j with
  | zero =>
    intro m v h1 h2 h3
    simp only [tSk, dgv]
    rw [show f + m - f = m by omega]; exact h1
  | succ j ih =>
    intro m v h1 h2 h3
    simp only [tSk, dgv] at h3 ⊢
    by_cases hd : isDi (x.1 (f + m)) = true
    · rw [if_pos hd] at h3 ⊢
      rw [if_pos hd]
      have g := tSk_ge isDi x.1 j (f + m + 1)
      have hd' := hd
      unfold isDi at hd'
      simp only [Bool.and_eq_true, decide_eq_true_eq] at hd'
      have h2' : 10 * v + (x.1 (f + m) - 48) < 10 ^ (m + 1) := by rw [Nat.pow_succ]; omega
      have h5 : (10 : Nat) ^ (m + 1) ≤ 10 ^ 4 := Nat.pow_le_pow_right (by decide) (by omega)
      rw [Nat.min_eq_right (show 10 * v + (x.1 (f + m) - 48) ≤ 100000 by omega)]
      exact ih (m + 1) (10 * v + (x.1 (f + m) - 48)) (by show _ = 10 * zFold (fun j v => 10 * v + (x.1 (f + j) - 48)) 0 m + (x.1 (f + m) - 48); rw [h1]) h2' h3
    · rw [if_neg hd] at h3 ⊢
      rw [if_neg hd, show f + m - f = m by omega]; exact h1
theorem m_dig {n : Nat} {x : pX} (hx : xOk x) : ∀ (j k i v : Nat) (μ : kbM), i + j = x.2 → j < k → mTx μ x → μ.1 57 14 = nI i → μ.1 57 17 = nI v → v ≤ 100000 → ∃ μ', lp_MD_stepOn_123 n k μ = some μ' ∧ μ'.1 57 14 = nI (tSk isDi x.1 j i) ∧ μ'.1 57 17 = nI (dgv x.1 j i v) ∧ sm 57 [14, 17] μ μ' := by
  have hn := hx.1
  intro j
  induction j with
  | zero =>
    intro k i v μ h1 h2 h3 h4 h5 h6
    obtain ⟨k, rfl⟩ : ∃ q, k = q + 1 := ⟨k - 1, by omega⟩
    obtain rfl : i = x.2 := by omega
    refine ⟨μ, ?_, h4, h5, sm.rf⟩
    simp only [lp_MD_stepOn_123]
    rw [h4, m_byte0 hx h3, kn_bs, md_letM1.2, kn_bs, if_pos rfl]
  | succ j ih =>
    intro k i v μ h1 h2 h3 h4 h5 h6
    obtain ⟨k, rfl⟩ : ∃ q, k = q + 1 := ⟨k - 1, by omega⟩
    have hb := hx.2 i (by omega)
    simp only [tSk, dgv]
    cases hd : isDi (x.1 i)
    · refine ⟨μ, ?_, by rw [h4, if_neg (by decide)], by rw [h5, if_neg (by decide)], sm.rf⟩
      simp only [lp_MD_stepOn_123]
      rw [h4, m_byte hx h3 (by omega), kn_bs, md_isDigit hb, kn_bs, hd, if_pos zF0]
    · have hd' := hd
      unfold isDi at hd'
      simp only [Bool.and_eq_true, decide_eq_true_eq] at hd'
      have start : lp_MD_stepOn_123 n (k + 1) μ = lp_MD_stepOn_123 n k (kbW (kbW μ 57 17 (nI (min 100000 (10 * v + (x.1 i - 48))))) 57 14 (nI (i + 1))) := by
        simp only [lp_MD_stepOn_123]
        rw [h4, m_byte hx h3 (by omega), kn_bs, md_isDigit hb, kn_bs, hd, if_neg zT0, kn_bs, h5, kl_10, pk_mul, nI_add, show (48 : Int32) = nI 48 from rfl, pk_sub (by omega), show (100000 : Int32) = nI 100000 from rfl, kb_min (by decide) (by omega), kW_no (by decide), h4, nI_1, show 10 * v + x.1 i - 48 = 10 * v + (x.1 i - 48) by omega]
      obtain ⟨μ', e1, e2, e3, e4⟩ := ih k (i + 1) (min 100000 (10 * v + (x.1 i - 48))) (kbW (kbW μ 57 17 (nI (min 100000 (10 * v + (x.1 i - 48))))) 57 14 (nI (i + 1))) (by omega) (by omega) (h3.sm ((sm.rf.w (by decide)).w (by decide))) kW_at (by rw [kW_no (by decide), kW_at]) (Nat.min_le_left _ _)
      exact ⟨μ', by rw [start]; exact e1, by rw [e2, if_pos rfl], by rw [e3, if_pos rfl], ((sm.rf.w (by decide)).w (by decide)).tr e4⟩
def tc (k : Nat) : Nat := if k ≤ 2 then k else if k = 3 then 4 else 3
/-- the model's token -/
def mKt (μ : kbM) (x : pX) (t : pT) : Prop := μ.1 57 16 = nI (tc t.1) ∧ μ.1 57 18 = nI t.2.1 ∧ μ.1 57 19 = nI t.2.2 ∧ μ.1 57 14 = nI t.2.2 ∧ (t.1 = 2 → t.2.2 - t.2.1 ≤ 4 → μ.1 57 17 = nI (pNum x t.2.1 t.2.2))
theorem m_step {n : Nat} (hn : 1000 ≤ n) {x : pX} (hx : xOk x) {μ : kbM} (h : mTx μ x) {e : Nat} (he : e ≤ x.2) (h9 : μ.1 57 14 = nI e) : ∃ μ', f_MD_stepOn n μ = some μ' ∧ sm 57 [14, 16, 17, 18, 19] μ μ' ∧ mKt μ' x (pTok x e) := by
  have hxn := hx.1
  obtain ⟨μ1, e1, k8, s1⟩ := m_skip (n := n) hx (x.2 - e) n e μ (by omega) (by omega) h h9
  have hf := tSk_ge isBl x.1 (x.2 - e) e
  unfold f_MD_stepOn jn_MD_stepOn_209 jn_MD_stepOn_212 pTok
  rw [e1, kn_bs]
  generalize tSk isBl x.1 (x.2 - e) e = f at k8 hf
  unfold pTk1
  rw [k8]
  have S2 : sm 57 [14, 16, 17, 18, 19] μ (kbW μ1 57 18 (nI f)) := (s1.up (by decide)).w (by decide)
  have T2 : mTx (kbW μ1 57 18 (nI f)) x := h.sm (S2.up (by decide))
  have q8 : (kbW μ1 57 18 (nI f)).1 57 14 = nI f := by rw [kW_no (by decide)]; exact k8
  have q18 : (kbW μ1 57 18 (nI f)).1 57 18 = nI f := kW_at
  generalize kbW μ1 57 18 (nI f) = κ at S2 T2 q8 q18
  rw [q8]
  by_cases hlt : f < x.2
  · have hb := hx.2 f hlt
    rw [m_byte hx T2 hlt, kn_bs, if_neg (by rw [kn_nm1 (by omega)]; exact id), md_isLetter hb, kn_bs, if_pos hlt]
    cases hl : isLe (x.1 f)
    · rw [if_pos zF0, if_neg Bool.false_ne_true, md_isDigit hb, kn_bs]
      cases hd : isDi (x.1 f)
      · rw [if_pos zF0, if_neg Bool.false_ne_true, md_isMark ⟨x.1 f, hb⟩, kn_bs, nI_1]
        simp only
        cases hsg : isSg (x.1 f)
        · rw [if_pos zF0, if_neg Bool.false_ne_true]
          refine ⟨_, rfl, ((S2.w (by decide)).w (by decide)).w (by decide), ?_, ?_, ?_, ?_, (fun q => by cases q)⟩
          · rw [kW_no (by decide), kW_at]; rfl
          · rw [kW_no (by decide), kW_no (by decide), kW_no (by decide)]; exact q18
          · rw [kW_at, kW_no (by decide), kW_at]
          · rw [kW_no (by decide), kW_no (by decide), kW_at]
        · have sl := isSg_lt hsg
          rw [if_neg zT0, if_pos rfl]
          refine ⟨_, rfl, ((S2.w (by decide)).w (by decide)).w (by decide), ?_, ?_, ?_, ?_, fun q => ?_⟩
          · rw [kW_no (by decide), kW_at]
            unfold tc
            rw [if_neg (by omega), if_neg (by omega)]; rfl
          · rw [kW_no (by decide), kW_no (by decide), kW_no (by decide)]; exact q18
          · rw [kW_at, kW_no (by decide), kW_at]
          · rw [kW_no (by decide), kW_no (by decide), kW_at]
          · simp only at q; omega
      · have g := tSk_ge isDi x.1 (x.2 - f) f
        obtain ⟨μ', e2, k14, k17, s2⟩ := m_dig (n := n) hx (x.2 - f) n f 0 (kbW κ 57 17 0) (by omega) (by omega) (T2.sm (sm.rf.w (by decide))) (by rw [kW_no (by decide)]; exact q8) kW_at (by decide)
        have tt : tSk isDi x.1 (x.2 - f) f = tSk isDi x.1 (x.2 - (f + 1)) (f + 1) := by
          obtain ⟨w, hw⟩ : ∃ w, x.2 - f = w + 1 := ⟨x.2 - f - 1, by omega⟩
          rw [hw, show x.2 - (f + 1) = w by omega]
          simp only [tSk]
          rw [if_pos hd]
        rw [if_neg zT0, if_pos rfl, e2, kn_bs]
        refine ⟨_, rfl, (((S2.w (k := 17) (by decide)).tr (s2.up (by decide))).w (by decide)).w (by decide), ?_, ?_, ?_, ?_, fun _ h4 => ?_⟩
        · rw [kW_no (by decide), kW_at]; rfl
        · rw [kW_no (by decide), kW_no (by decide), s2.2 18 (by decide), kW_no (by decide)]; exact q18
        · rw [kW_at, kW_no (by decide), k14, tt]
        · rw [kW_no (by decide), kW_no (by decide), k14, tt]
        · rw [kW_no (by decide), kW_no (by decide), k17]
          unfold pNum
          simp only at h4 ⊢
          rw [← tt] at h4 ⊢
          congr 1
          exact dgv_num (x.2 - f) 0 0 rfl (by decide) h4
    · have tt : tSk isLe x.1 (x.2 - f) f = tSk isLe x.1 (x.2 - (f + 1)) (f + 1) := by
        obtain ⟨w, hw⟩ : ∃ w, x.2 - f = w + 1 := ⟨x.2 - f - 1, by omega⟩
        rw [hw, show x.2 - (f + 1) = w by omega]
        simp only [tSk]
        rw [if_pos hl]
      obtain ⟨μ', e2, k14, s2⟩ := m_let (n := n) hx (x.2 - f) n f κ (by omega) (by omega) T2 q8
      rw [if_neg zT0, if_pos rfl, e2, kn_bs]
      refine ⟨_, rfl, ((S2.tr (s2.up (by decide))).w (by decide)).w (by decide), ?_, ?_, ?_, ?_, (fun q => by cases q)⟩
      · rw [kW_no (by decide), kW_at]; rfl
      · rw [kW_no (by decide), kW_no (by decide), s2.2 18 (by decide)]; exact q18
      · rw [kW_at, kW_no (by decide), k14, tt]
      · rw [kW_no (by decide), kW_no (by decide), k14, tt]
  · obtain rfl : f = x.2 := by omega
    rw [m_byte0 hx T2, kn_bs, if_pos rfl, if_neg hlt]
    refine ⟨_, rfl, (S2.w (by decide)).w (by decide), ?_, ?_, ?_, ?_, (fun q => by cases q)⟩
    · rw [kW_no (by decide), kW_at]; rfl
    · rw [kW_no (by decide), kW_no (by decide)]; exact q18
    · rw [kW_at, kW_no (by decide)]; exact q8
    · rw [kW_no (by decide), kW_no (by decide)]; exact q8
