/-! THE BOOK'S TEXT: tokens -/
abbrev pX : Type := (Nat → Nat) × Nat
abbrev pT : Type := Nat × Nat × Nat
abbrev pS : Type := pT × List Int × zW × List (Nat × Nat)
abbrev pR : Type := (Nat × Nat) ⊕ pS
def tSk (p : Nat → Bool) (b : Nat → Nat) : Nat → Nat → Nat
  | 0, i => i
  | k + 1, i => if p (b i) = true then tSk p b k (i + 1) else i
def isBl (c : Nat) : Bool := c == 32 || c == 10
def isLe (c : Nat) : Bool := decide (97 ≤ c) && decide (c ≤ 122)
def isDi (c : Nat) : Bool := decide (48 ≤ c) && decide (c ≤ 57)
def isSg (c : Nat) : Bool := c == 59 || c == 40 || c == 41 || c == 43 || c == 45 || c == 42 || c == 47 || c == 60 || c == 61
def pTk1 (x : pX) (f : Nat) : pT := if f < x.2 then (if isLe (x.1 f) = true then (1, f, tSk isLe x.1 (x.2 - (f + 1)) (f + 1)) else if isDi (x.1 f) = true then (2, f, tSk isDi x.1 (x.2 - (f + 1)) (f + 1)) else (if isSg (x.1 f) = true then x.1 f else 3, f, f + 1)) else (0, f, f)
def pTok (x : pX) (e : Nat) : pT := pTk1 x (tSk isBl x.1 (x.2 - e) e)
def pAdv (x : pX) (s : pS) : pS := (pTok x s.1.2.2, s.2)
theorem tSk_ge (p : Nat → Bool) (b : Nat → Nat) : ∀ k i, i ≤ tSk p b k i ∧ tSk p b k i ≤ i + k := by
  intro k
  induction k with
  | zero => intro i; exact ⟨Nat.le_refl _, Nat.le_refl _⟩
  | succ k ih =>
    intro i
    simp only [tSk]
    split
    · have := ih (i + 1); omega
    · omega
theorem tSk_all (p : Nat → Bool) (b : Nat → Nat) : ∀ k i j, i ≤ j → j < tSk p b k i → p (b j) = true := by
  intro k
  induction k with
  | zero => intro i j h1 h2; simp only [tSk] at h2; omega
  | succ k ih =>
    intro i j h1 h2
    simp only [tSk] at h2
    split at h2
    · rename_i h
      by_cases e : j = i
      · subst e; exact h
      · exact ih (i + 1) j (by omega) h2
    · omega
def xOk (x : pX) : Prop := x.2 ≤ 600 ∧ ∀ i, i < x.2 → x.1 i < 256
/-- a token as it may stand -/
def kOk (x : pX) (t : pT) : Prop := t.2.1 ≤ t.2.2 ∧ t.2.2 ≤ x.2 ∧ (t.1 = 0 ∨ t.2.1 < t.2.2) ∧ (t.1 ≤ 3 ∨ (isSg t.1 = true ∧ x.1 t.2.1 = t.1)) ∧ (t.1 = 2 → ∀ j, t.2.1 ≤ j → j < t.2.2 → isDi (x.1 j) = true)
theorem isSg_lt {c : Nat} (h : isSg c = true) : 40 ≤ c ∧ c ≤ 61 := by
  unfold isSg at h
  simp only [Bool.or_eq_true, beq_iff_eq] at h
  omega
theorem pTok_ok {x : pX} {e : Nat} (he : e ≤ x.2) : kOk x (pTok x e) ∧ e ≤ (pTok x e).2.1 := by
  have h1 := tSk_ge isBl x.1 (x.2 - e) e
  unfold pTok
  generalize tSk isBl x.1 (x.2 - e) e = f at h1
  unfold pTk1 kOk
  by_cases hf : f < x.2
  · rw [if_pos hf]
    by_cases hl : isLe (x.1 f) = true
    · have h2 := tSk_ge isLe x.1 (x.2 - (f + 1)) (f + 1)
      rw [if_pos hl]
      refine ⟨⟨?_, ?_, Or.inr ?_, Or.inl ?_, fun q => ?_⟩, ?_⟩ <;> simp only at * <;> omega
    · rw [if_neg hl]
      by_cases hd : isDi (x.1 f) = true
      · have h2 := tSk_ge isDi x.1 (x.2 - (f + 1)) (f + 1)
        rw [if_pos hd]
        refine ⟨⟨?_, ?_, Or.inr ?_, Or.inl ?_, fun _ j h3 h4 => ?_⟩, ?_⟩
        · simp only; omega
        · simp only; omega
        · simp only; omega
        · simp only; omega
        · simp only at h3 h4
          by_cases e : j = f
          · rw [e]; exact hd
          · exact tSk_all isDi x.1 _ (f + 1) j (by omega) h4
        · simp only; omega
      · rw [if_neg hd]
        by_cases hs : isSg (x.1 f) = true
        · have := isSg_lt hs
          rw [if_pos hs]
          refine ⟨⟨?_, ?_, Or.inr ?_, Or.inr ⟨hs, rfl⟩, fun q => ?_⟩, ?_⟩ <;> simp only at * <;> omega
        · rw [if_neg hs]
          refine ⟨⟨?_, ?_, Or.inr ?_, Or.inl ?_, fun q => ?_⟩, ?_⟩ <;> simp only at * <;> omega
  · rw [if_neg hf]
    refine ⟨⟨?_, ?_, Or.inl rfl, Or.inl ?_, fun q => ?_⟩, ?_⟩ <;> simp only at * <;> omega
theorem kOk.lt {x : pX} {t : pT} (h : kOk x t) : t.1 < 256 ∧ t.1 ≠ 4 := by
  rcases h.2.2.2.1 with q | q
  · omega
  · have := isSg_lt q.1; omega
/-! memory: one cell's slots -/
def sm (c : Nat) (ks : List Nat) (μ μ' : kbM) : Prop := (∀ a, a ≠ c → μ'.1 a = μ.1 a) ∧ ∀ k, k ∉ ks → μ'.1 c k = μ.1 c k
theorem sm.rf {c : Nat} {ks : List Nat} {μ : kbM} : sm c ks μ μ := ⟨fun _ _ => rfl, fun _ _ => rfl⟩
theorem sm.w {c : Nat} {ks : List Nat} {μ μ' : kbM} (h : sm c ks μ μ') {k : Nat} {v : Int32} (hk : k ∈ ks) : sm c ks μ (kbW μ' c k v) := ⟨fun a ha => (kW_ne ha).trans (h.1 a ha), fun j hj => (kW_no (fun e => hj (by rw [e]; exact hk))).trans (h.2 j hj)⟩
theorem sm.tr {c : Nat} {ks : List Nat} {μ μ' μ'' : kbM} (h : sm c ks μ μ') (h' : sm c ks μ' μ'') : sm c ks μ μ'' := ⟨fun a ha => (h'.1 a ha).trans (h.1 a ha), fun k hk => (h'.2 k hk).trans (h.2 k hk)⟩
/-! letters and digits by both sides -/
theorem nI_ltL {a : Nat} (ha : a < 256) (c : Nat) (hc : c < 256) : (nI a < nI c) = (a < c) := propext (nI_ltI (by omega) (by omega))
theorem bt_isBlank {c : Nat} (hc : c < 256) : f_BT_isBlank (nI c) = some (zB (isBl c)) := by
  unfold f_BT_isBlank jn_BT_isBlank_12 jn_BT_isBlank_17 isBl
  rw [show (32 : Int32) = nI 32 from rfl, kl_10]
  by_cases h : c = 32
  · subst h; rfl
  · rw [if_neg (by rw [nI_eq (by omega) (by decide)]; exact h), beq_eq_false_iff_ne.mpr h]
    by_cases h2 : c = 10
    · subst h2; rfl
    · rw [if_neg (by rw [nI_eq (by omega) (by decide)]; exact h2), beq_eq_false_iff_ne.mpr h2]; rfl
theorem bt_isLetter {c : Nat} (hc : c < 256) : f_BT_isLetter (nI c) = some (zB (isLe c)) := by
  unfold f_BT_isLetter jn_BT_isLetter_16 jn_BT_isLetter_17 isLe
  rw [show (97 : Int32) = nI 97 from rfl, show (122 : Int32) = nI 122 from rfl]
  by_cases h : c < 97
  · rw [if_pos (by rw [nI_ltI (by omega) (by decide)]; exact h), decide_eq_false (show ¬ 97 ≤ c by omega)]; rfl
  · rw [if_neg (by rw [nI_ltI (by omega) (by decide)]; exact h), decide_eq_true (show 97 ≤ c by omega)]
    by_cases h2 : 122 < c
    · rw [if_pos (by rw [nI_ltI (by decide) (by omega)]; exact h2), decide_eq_false (show ¬ c ≤ 122 by omega)]; rfl
    · rw [if_neg (by rw [nI_ltI (by decide) (by omega)]; exact h2), decide_eq_true (show c ≤ 122 by omega)]; rfl
theorem bt_isDigit {c : Nat} (hc : c < 256) : f_BT_isDigit (nI c) = some (zB (isDi c)) := by
  unfold f_BT_isDigit jn_BT_isDigit_16 jn_BT_isDigit_17 isDi
  rw [show (48 : Int32) = nI 48 from rfl, show (57 : Int32) = nI 57 from rfl]
  by_cases h : c < 48
  · rw [if_pos (by rw [nI_ltI (by omega) (by decide)]; exact h), decide_eq_false (show ¬ 48 ≤ c by omega)]; rfl
  · rw [if_neg (by rw [nI_ltI (by omega) (by decide)]; exact h), decide_eq_true (show 48 ≤ c by omega)]
    by_cases h2 : 57 < c
    · rw [if_pos (by rw [nI_ltI (by decide) (by omega)]; exact h2), decide_eq_false (show ¬ c ≤ 57 by omega)]; rfl
    · rw [if_neg (by rw [nI_ltI (by decide) (by omega)]; exact h2), decide_eq_true (show c ≤ 57 by omega)]; rfl
theorem md_isLetter {c : Nat} (hc : c < 256) : f_MD_isLetter (nI c) = some (zB (isLe c)) := bt_isLetter hc
theorem md_isDigit {c : Nat} (hc : c < 256) : f_MD_isDigit (nI c) = some (zB (isDi c)) := bt_isDigit hc
theorem bt_sign : ∀ c : Fin 256, (kbSindex 30 (kbI2c (nI c.val)) < 0) = (isSg c.val = false) := by
  have h : ∀ c : Fin 256, decide (kbSindex 30 (kbI2c (nI c.val)) < 0) = (isSg c.val == false) := by decide +kernel
  intro c
  have := h c
  apply propext
  constructor
  · intro q
    rw [decide_eq_true q] at this
    simpa using this.symm
  · intro q
    rw [q] at this
    exact of_decide_eq_true this
theorem md_isMark : ∀ c : Fin 256, f_MD_isMark (nI c.val) = some (zB (isSg c.val)) := by decide +kernel
theorem md_letM1 : f_MD_isLetter (-1) = some 0 ∧ f_MD_isDigit (-1) = some 0 := by decide
/-! the class's bytes -/
def cTx (μ : kbM) (x : pX) : Prop := μ.1 1 6 = nI x.2 ∧ ∀ i, i < x.2 → zByte (μ.1 2) i = nI (x.1 i)
theorem bt_byte {μ : kbM} {x : pX} (hx : xOk x) (h : cTx μ x) {i : Nat} (hi : i < x.2) : f_BT_byteAt (nI i) μ = some (nI (x.1 i)) := by
  have := hx.1
  have e := h.2 i hi
  unfold f_BT_byteAt
  rw [if_neg (nI_pos (by omega)), h.1, if_neg (by rw [nI_leI (by omega) (by omega)]; omega), show (600 : Int32) = nI 600 from rfl, if_pos (by rw [nI_ltI (by omega) (by decide)]; omega), kl_4, kn_div (by omega) (by decide) (by decide), kn_rem (by omega) (by decide) (by decide), kn_inT (show i / 4 < 150 by omega) (by omega), kn_if_t, nI_clamp (show i / 4 < 2 ^ 31 by omega), ← e]
  rfl
theorem bt_byte0 {μ : kbM} {x : pX} (hx : xOk x) (h : cTx μ x) : f_BT_byteAt (nI x.2) μ = some 0 := by
  have := hx.1
  unfold f_BT_byteAt jn_BT_byteAt_19
  rw [if_neg (nI_pos (by omega)), h.1, if_pos (by rw [nI_leI (by omega) (by omega)]; omega)]
theorem cTx.sm {μ μ' : kbM} {x : pX} (h : cTx μ x) (s : sm 1 [5, 7, 8, 9, 10, 11] μ μ') : cTx μ' x := by
  unfold cTx
  rw [s.2 6 (by decide), s.1 2 (by decide)]
  exact h
theorem bt_skip {n : Nat} {x : pX} (hx : xOk x) : ∀ (j k i : Nat) (μ : kbM), i + j = x.2 → j < k → cTx μ x → μ.1 1 8 = nI i → ∃ μ', lp_BT_advance_16 n k μ = some μ' ∧ μ'.1 1 8 = nI (tSk isBl x.1 j i) ∧ sm 1 [8] μ μ' := by
  have hn := hx.1
  intro j
  induction j with
  | zero =>
    intro k i μ h1 h2 h3 h4
    obtain ⟨k, rfl⟩ : ∃ q, k = q + 1 := ⟨k - 1, by omega⟩
    refine ⟨μ, ?_, h4, sm.rf⟩
    simp only [lp_BT_advance_16]
    rw [h3.1, h4, if_pos (by rw [nI_leI (by omega) (by omega)]; omega)]
  | succ j ih =>
    intro k i μ h1 h2 h3 h4
    obtain ⟨k, rfl⟩ : ∃ q, k = q + 1 := ⟨k - 1, by omega⟩
    have hb := hx.2 i (by omega)
    have start : lp_BT_advance_16 n (k + 1) μ = if zB (isBl (x.1 i)) = 0 then some μ else lp_BT_advance_16 n k (kbW μ 1 8 (nI (i + 1))) := by
      simp only [lp_BT_advance_16]
      rw [h3.1, h4, if_neg (by rw [nI_leI (by omega) (by omega)]; omega), bt_byte hx h3 (by omega), kn_bs, bt_isBlank hb, kn_bs, nI_1]
    simp only [tSk]
    cases hbl : isBl (x.1 i)
    · exact ⟨μ, by rw [start, hbl, if_pos zF0], by rw [h4, if_neg (by decide)], sm.rf⟩
    · obtain ⟨μ', e1, e2, e3⟩ := ih k (i + 1) (kbW μ 1 8 (nI (i + 1))) (by omega) (by omega) (h3.sm (sm.rf.w (by decide))) kW_at
      exact ⟨μ', by rw [start, hbl, if_neg zT0]; exact e1, by rw [e2, if_pos rfl], (sm.rf.w (by decide)).tr e3⟩
theorem bt_let {n : Nat} {x : pX} (hx : xOk x) : ∀ (j k i : Nat) (μ : kbM), i + j = x.2 → j < k → cTx μ x → μ.1 1 9 = nI i → ∃ μ', lp_BT_advance_111 n k μ = some μ' ∧ μ'.1 1 9 = nI (tSk isLe x.1 j i) ∧ sm 1 [9] μ μ' := by
  have hn := hx.1
  intro j
  induction j with
  | zero =>
    intro k i μ h1 h2 h3 h4
    obtain ⟨k, rfl⟩ : ∃ q, k = q + 1 := ⟨k - 1, by omega⟩
    refine ⟨μ, ?_, h4, sm.rf⟩
    simp only [lp_BT_advance_111]
    rw [h3.1, h4, if_pos (by rw [nI_leI (by omega) (by omega)]; omega)]
  | succ j ih =>
    intro k i μ h1 h2 h3 h4
    obtain ⟨k, rfl⟩ : ∃ q, k = q + 1 := ⟨k - 1, by omega⟩
    have hb := hx.2 i (by omega)
    have start : lp_BT_advance_111 n (k + 1) μ = if zB (isLe (x.1 i)) = 0 then some μ else lp_BT_advance_111 n k (kbW μ 1 9 (nI (i + 1))) := by
      simp only [lp_BT_advance_111]
      rw [h3.1, h4, if_neg (by rw [nI_leI (by omega) (by omega)]; omega), bt_byte hx h3 (by omega), kn_bs, bt_isLetter hb, kn_bs, nI_1]
    simp only [tSk]
    cases hbl : isLe (x.1 i)
    · exact ⟨μ, by rw [start, hbl, if_pos zF0], by rw [h4, if_neg (by decide)], sm.rf⟩
    · obtain ⟨μ', e1, e2, e3⟩ := ih k (i + 1) (kbW μ 1 9 (nI (i + 1))) (by omega) (by omega) (h3.sm (sm.rf.w (by decide))) kW_at
      exact ⟨μ', by rw [start, hbl, if_neg zT0]; exact e1, by rw [e2, if_pos rfl], (sm.rf.w (by decide)).tr e3⟩
theorem bt_dig {n : Nat} {x : pX} (hx : xOk x) : ∀ (j k i : Nat) (μ : kbM), i + j = x.2 → j < k → cTx μ x → μ.1 1 9 = nI i → ∃ μ', lp_BT_advance_161 n k μ = some μ' ∧ μ'.1 1 9 = nI (tSk isDi x.1 j i) ∧ sm 1 [9] μ μ' := by
  have hn := hx.1
  intro j
  induction j with
  | zero =>
    intro k i μ h1 h2 h3 h4
    obtain ⟨k, rfl⟩ : ∃ q, k = q + 1 := ⟨k - 1, by omega⟩
    refine ⟨μ, ?_, h4, sm.rf⟩
    simp only [lp_BT_advance_161]
    rw [h3.1, h4, if_pos (by rw [nI_leI (by omega) (by omega)]; omega)]
  | succ j ih =>
    intro k i μ h1 h2 h3 h4
    obtain ⟨k, rfl⟩ : ∃ q, k = q + 1 := ⟨k - 1, by omega⟩
    have hb := hx.2 i (by omega)
    have start : lp_BT_advance_161 n (k + 1) μ = if zB (isDi (x.1 i)) = 0 then some μ else lp_BT_advance_161 n k (kbW μ 1 9 (nI (i + 1))) := by
      simp only [lp_BT_advance_161]
      rw [h3.1, h4, if_neg (by rw [nI_leI (by omega) (by omega)]; omega), bt_byte hx h3 (by omega), kn_bs, bt_isDigit hb, kn_bs, nI_1]
    simp only [tSk]
    cases hbl : isDi (x.1 i)
    · exact ⟨μ, by rw [start, hbl, if_pos zF0], by rw [h4, if_neg (by decide)], sm.rf⟩
    · obtain ⟨μ', e1, e2, e3⟩ := ih k (i + 1) (kbW μ 1 9 (nI (i + 1))) (by omega) (by omega) (h3.sm (sm.rf.w (by decide))) kW_at
      exact ⟨μ', by rw [start, hbl, if_neg zT0]; exact e1, by rw [e2, if_pos rfl], (sm.rf.w (by decide)).tr e3⟩
theorem sm.up {c : Nat} {ks ks' : List Nat} {μ μ' : kbM} (h : sm c ks μ μ') (hk : ∀ k ∈ ks, k ∈ ks') : sm c ks' μ μ' := ⟨h.1, fun k q => h.2 k (fun z => q (hk k z))⟩
/-- the class steps on to the next token -/
theorem bt_adv {n : Nat} (hn : 1000 ≤ n) {x : pX} (hx : xOk x) {μ : kbM} (h : cTx μ x) {e : Nat} (he : e ≤ x.2) (h9 : μ.1 1 9 = nI e) (h0 : μ.1 1 10 = 0) : ∃ μ', f_BT_advance n μ = some μ' ∧ sm 1 [7, 8, 9] μ μ' ∧ μ'.1 1 7 = nI (pTok x e).1 ∧ μ'.1 1 8 = nI (pTok x e).2.1 ∧ μ'.1 1 9 = nI (pTok x e).2.2 := by
  have hxn := hx.1
  obtain ⟨μ1, e1, k8, s1⟩ := bt_skip (n := n) hx (x.2 - e) n e (kbW μ 1 8 (nI e)) (by omega) (by omega) (h.sm (sm.rf.w (by decide))) kW_at
  have hf := tSk_ge isBl x.1 (x.2 - e) e
  have S1 : sm 1 [7, 8, 9] μ μ1 := (sm.rf.w (k := 8) (by decide)).tr (s1.up (by decide))
  have T1 : cTx μ1 x := h.sm (S1.up (by decide))
  unfold f_BT_advance pTok
  rw [h0, if_pos rfl, h9, e1, kn_bs]
  generalize tSk isBl x.1 (x.2 - e) e = f at k8 hf
  unfold jn_BT_advance_54 jn_BT_advance_215 jn_BT_advance_218 pTk1
  have m9 : kbMin (μ1.1 1 8 + 1) (μ1.1 1 6) = nI (min (f + 1) x.2) := by rw [k8, T1.1, nI_1, kb_min (by omega) (by omega)]
  rw [m9]
  have S2 : sm 1 [7, 8, 9] μ (kbW μ1 1 9 (nI (min (f + 1) x.2))) := S1.w (by decide)
  have T2 : cTx (kbW μ1 1 9 (nI (min (f + 1) x.2))) x := h.sm (S2.up (by decide))
  have q8 : (kbW μ1 1 9 (nI (min (f + 1) x.2))).1 1 8 = nI f := by rw [kW_no (by decide)]; exact k8
  have q9 : (kbW μ1 1 9 (nI (min (f + 1) x.2))).1 1 9 = nI (min (f + 1) x.2) := kW_at
  generalize kbW μ1 1 9 (nI (min (f + 1) x.2)) = κ at S2 T2 q8 q9
  rw [q8, T2.1]
  by_cases hlt : f < x.2
  · have hb := hx.2 f hlt
    have mf : min (f + 1) x.2 = f + 1 := by omega
    rw [mf] at q9
    rw [bt_byte hx T2 hlt, kn_bs, if_pos (by rw [nI_ltI (by omega) (by omega)]; exact hlt), bt_isLetter hb, kn_bs, bt_isDigit hb, kn_bs, if_pos hlt]
    cases hl : isLe (x.1 f)
    · rw [if_pos zF0, if_neg Bool.false_ne_true]
      cases hd : isDi (x.1 f)
      · rw [if_pos zF0, if_neg Bool.false_ne_true]
        have hs := bt_sign ⟨x.1 f, hb⟩
        simp only at hs
        cases hsg : isSg (x.1 f)
        · rw [if_pos (by rw [hs]; exact hsg), if_neg Bool.false_ne_true]
          exact ⟨_, rfl, S2.w (by decide), kW_at, by rw [kW_no (by decide)]; exact q8, by rw [kW_no (by decide)]; exact q9⟩
        · rw [if_neg (by rw [hs, hsg]; decide), if_pos rfl]
          exact ⟨_, rfl, S2.w (by decide), kW_at, by rw [kW_no (by decide)]; exact q8, by rw [kW_no (by decide)]; exact q9⟩
      · obtain ⟨μ', e2, k9, s2⟩ := bt_dig (n := n) hx (x.2 - (f + 1)) n (f + 1) (kbW κ 1 7 2) (by omega) (by omega) (T2.sm (sm.rf.w (by decide))) (by rw [kW_no (by decide)]; exact q9)
        rw [if_neg zT0, if_pos rfl, e2, kn_bs]
        exact ⟨_, rfl, (S2.w (k := 7) (by decide)).tr (s2.up (by decide)), by rw [s2.2 7 (by decide)]; exact kW_at, by rw [s2.2 8 (by decide), kW_no (by decide)]; exact q8, k9⟩
    · obtain ⟨μ', e2, k9, s2⟩ := bt_let (n := n) hx (x.2 - (f + 1)) n (f + 1) (kbW κ 1 7 1) (by omega) (by omega) (T2.sm (sm.rf.w (by decide))) (by rw [kW_no (by decide)]; exact q9)
      rw [if_neg zT0, if_pos rfl, e2, kn_bs]
      exact ⟨_, rfl, (S2.w (k := 7) (by decide)).tr (s2.up (by decide)), by rw [s2.2 7 (by decide)]; exact kW_at, by rw [s2.2 8 (by decide), kW_no (by decide)]; exact q8, k9⟩
  · have ef : f = x.2 := by omega
    subst ef
    rw [bt_byte0 hx T2, kn_bs, if_neg (by rw [nI_ltI (by omega) (by omega)]; exact hlt), if_neg hlt]
    refine ⟨_, rfl, S2.w (by decide), kW_at, by rw [kW_no (by decide)]; exact q8, ?_⟩
    rw [kW_no (by decide), q9]
    congr 1
    exact Nat.min_eq_right (by omega)
