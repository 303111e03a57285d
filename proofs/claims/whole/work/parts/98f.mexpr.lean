/-! the model reads an expression -/
def lw (μ0 μ : kbM) : Prop := (∀ k, k < 3 → μ.1 61 k = μ0.1 61 k) ∧ (∀ k, k < 6 → μ.1 65 k = μ0.1 65 k ∧ μ.1 66 k = μ0.1 66 k) ∧ ∀ k, k < 600 → μ.1 67 k = μ0.1 67 k
def mOo (μ : kbM) (o : List Int × zW × List (Nat × Nat)) : Prop := (μ.1 61 5 = nI o.1.length ∧ ∀ i, i < o.1.length → μ.1 67 (600 + i) = kI (zTrI (o.1.getD i 0))) ∧ (μ.1 61 3 = nI o.2.1.length ∧ ∀ i, i < o.2.1.length → μ.1 62 (10 + i) = nI (zRowAt o.2.1 i) ∧ μ.1 63 (10 + i) = nI (zPartAt o.2.1 i) ∧ μ.1 64 (10 + i) = nI (zWorthAt o.2.1 i)) ∧ μ.1 61 4 = nI o.2.2.length ∧ ∀ i, i < o.2.2.length → μ.1 65 (6 + i) = nI (zKind o.2.2 i) ∧ μ.1 66 (6 + i) = nI (zHand o.2.2 i)
def mSs (μ0 μ : kbM) (x : pX) (s : pS) : Prop := mTx μ x ∧ μ.1 57 20 = 0 ∧ mKt μ x s.1 ∧ mOo μ s.2 ∧ lw μ0 μ
def mFf (μ0 μ : kbM) (f q : Nat) : Prop := μ.1 57 20 = nI f ∧ μ.1 57 21 = nI q ∧ 0 < f ∧ f ≤ 5 ∧ lw μ0 μ
def mRr (μ0 μ : kbM) (x : pX) : pR → Prop
  | .inl z => mFf μ0 μ z.1 z.2
  | .inr s => mSs μ0 μ x s
def tOk1 (x : pX) (s : pS) : Prop := tOk' x s ∧ 1 ≤ s.1.2.1
def mPp (μ0 : kbM) (x : pX) (g : kbM → Option kbM) (p : pS → pR) : Prop := (∀ μ s, mSs μ0 μ x s → tOk1 x s → ∃ μ', g μ = some μ' ∧ mRr μ0 μ' x (p s)) ∧ ∀ μ f q, mFf μ0 μ f q → g μ = some μ
def tk1 (x : pX) (p : pS → pR) : Prop := ∀ s s', tOk1 x s → p s = .inr s' → tOk1 x s'
theorem gd.tk1 {x : pX} {B : Nat} {p : pS → pR} (h : gd x B p) : tk1 x p := fun s s' a b => by
  refine ⟨h.tok a.1 b, ?_⟩
  obtain ⟨_, _, X, _, h4, _⟩ := h s s' a.1 b
  have := a.2
  omega
theorem pAdv_tok1 {x : pX} {s : pS} (h : tOk1 x s) : tOk1 x (pAdv x s) := by
  have := pAdv_tok h.1
  have h2 := h.2
  have h3 := h.1.2.1.1
  exact ⟨this.1, by omega⟩
theorem mPp.bind {μ0 : kbM} {x : pX} {g h : kbM → Option kbM} {p k : pS → pR} (hg : mPp μ0 x g p) (ht : tk1 x p) (hh : mPp μ0 x h k) : mPp μ0 x (fun μ => (g μ).bind h) (fun s => pB (p s) k) := by
  constructor
  · intro μ s hs ho
    obtain ⟨μ1, e1, r1⟩ := hg.1 μ s hs ho
    show ∃ μ', (g μ).bind h = some μ' ∧ mRr μ0 μ' x (pB (p s) k)
    rw [e1, kn_bs]
    cases hp : p s with
    | inl z =>
      rw [hp] at r1
      exact ⟨μ1, hh.2 μ1 _ _ r1, r1⟩
    | inr s1 =>
      rw [hp] at r1
      exact hh.1 μ1 s1 r1 (ht s s1 ho hp)
  · intro μ f q hf
    show (g μ).bind h = some μ
    rw [hg.2 μ f q hf, kn_bs]
    exact hh.2 μ f q hf
theorem mFf.ne {μ0 μ : kbM} {f q : Nat} (h : mFf μ0 μ f q) : ¬ μ.1 57 20 = 0 := by
  rw [h.1, kn_0, nI_eq (by have := h.2.2.2.1; omega) (by decide)]
  have := h.2.2.1
  omega
theorem mFf.wrong {μ0 μ : kbM} {f q : Nat} (h : mFf μ0 μ f q) (c : Int32) : f_MD_wrong c μ = some μ := by
  unfold f_MD_wrong
  rw [if_neg h.ne]
theorem mFf.lay {μ0 μ : kbM} {f q : Nat} (h : mFf μ0 μ f q) (c : Int32) : f_MD_lay c μ = some μ := by
  unfold f_MD_lay
  rw [if_neg h.ne]
theorem is_no {n : Nat} (hn : 1 ≤ n) (μ : kbM) (sid : Nat) : jn_MD_is_35 n sid μ = some 0 := by
  unfold jn_MD_is_35 jn_MD_is_36 jn_MD_is_82
  obtain ⟨k, hk⟩ : ∃ z, n = z + 1 := ⟨n - 1, by omega⟩
  have e : lp_MD_is_39 n sid μ n 0 0 = some 0 := by
    rw [show lp_MD_is_39 n sid μ n 0 0 = lp_MD_is_39 n sid μ (k + 1) 0 0 by rw [← hk]]
    simp only [lp_MD_is_39]
    rw [if_pos trivial]
  rw [e, kn_bs]
  rfl
theorem mFf.is {n : Nat} (hn : 1 ≤ n) {μ0 μ : kbM} {f q : Nat} (h : mFf μ0 μ f q) (sid : Nat) : f_MD_is n sid μ = some 0 := by
  unfold f_MD_is
  rw [if_neg h.ne, is_no hn]
theorem mFf.marked {μ0 μ : kbM} {f q : Nat} (h : mFf μ0 μ f q) (c : Int32) : f_MD_isMarked c μ = some 0 := by
  unfold f_MD_isMarked jn_MD_isMarked_32 jn_MD_isMarked_33
  rw [if_neg h.ne]
  rfl
theorem mFf.mark {n : Nat} {μ0 μ : kbM} {f q : Nat} (h : mFf μ0 μ f q) (c : Int32) : f_MD_mark n c μ = some μ := by
  unfold f_MD_mark jn_MD_mark_20 jn_MD_mark_31
  rw [if_neg h.ne, if_neg h.ne]
theorem mOo.sm {μ μ' : kbM} {o : List Int × zW × List (Nat × Nat)} (h : mOo μ o) {l : List Nat} (s : sm 57 l μ μ') : mOo μ' o := by
  unfold mOo at h ⊢
  rw [s.1 61 (by decide), s.1 62 (by decide), s.1 63 (by decide), s.1 64 (by decide), s.1 65 (by decide), s.1 66 (by decide), s.1 67 (by decide)]
  exact h
theorem lw.sm {μ0 μ μ' : kbM} (h : lw μ0 μ) {l : List Nat} (s : sm 57 l μ μ') : lw μ0 μ' := by
  unfold lw at h ⊢
  rw [s.1 61 (by decide), s.1 65 (by decide), s.1 66 (by decide), s.1 67 (by decide)]
  exact h
theorem m_adv {n : Nat} (hn : 1000 ≤ n) {μ0 : kbM} {x : pX} {μ : kbM} {s : pS} (hs : mSs μ0 μ x s) (hx : xOk x) (he : s.1.2.2 ≤ x.2) : ∃ μ', f_MD_stepOn n μ = some μ' ∧ mSs μ0 μ' x (pAdv x s) := by
  obtain ⟨k1, k2, k3, k4, k5⟩ := hs
  obtain ⟨μ', e, sm1, a⟩ := m_step hn hx k1 he k3.2.2.2.1
  exact ⟨μ', e, k1.sm (sm1.up (by decide)), by rw [sm1.2 20 (by decide)]; exact k2, a, k4.sm sm1, k5.sm sm1⟩
theorem m_wrong {μ0 : kbM} {x : pX} {μ : kbM} {s : pS} (hs : mSs μ0 μ x s) {c : Nat} (h0 : 0 < c) (h5 : c ≤ 5) : ∃ μ', f_MD_wrong (nI c) μ = some μ' ∧ mFf μ0 μ' c s.1.2.1 := by
  obtain ⟨k1, k2, k3, k4, k5⟩ := hs
  unfold f_MD_wrong
  rw [if_pos k2]
  have S : sm 57 [20, 21] μ (kbW (kbW μ 57 20 (nI c)) 57 21 ((kbW μ 57 20 (nI c)).1 57 18)) := (sm.rf.w (by decide)).w (by decide)
  refine ⟨_, rfl, ?_, ?_, h0, h5, k5.sm S⟩
  · rw [kW_no (by decide), kW_at]
  · rw [kW_at, kW_no (by decide)]; exact k3.2.1
theorem m_lay {μ0 : kbM} {x : pX} {μ : kbM} {s : pS} (hs : mSs μ0 μ x s) (hl : s.2.1.length < 600) (c : Int) : ∃ μ', f_MD_lay (kI (zTrI c)) μ = some μ' ∧ mSs μ0 μ' x (pEm c s) := by
  obtain ⟨k1, k2, k3, ⟨⟨o1, o2⟩, o3, o4⟩, l1, l2, l3⟩ := hs
  unfold f_MD_lay
  rw [if_pos k2, o1, show (600 : Int32) = nI 600 from rfl, nI_add, kn_inT (by omega) (by omega), kn_if_t, nI_clamp (by omega)]
  have a1 : (kbW μ 67 (600 + s.2.1.length) (kI (zTrI c))).1 61 = μ.1 61 := kW_ne (by decide)
  rw [a1, o1, nI_1]
  refine ⟨_, rfl, ?_, ?_, ?_, ⟨⟨?_, ?_⟩, ?_, ?_⟩, ?_, ?_, ?_⟩
  · unfold mTx at k1 ⊢; rw [kW_ne (by decide), kW_ne (by decide), kW_ne (by decide), kW_ne (by decide)]; exact k1
  · rw [kW_ne (by decide), kW_ne (by decide)]; exact k2
  · unfold mKt at k3 ⊢; rw [kW_ne (by decide), kW_ne (by decide)]; exact k3
  · rw [kW_at]; show _ = nI (s.2.1 ++ [c]).length; rw [List.length_append]; rfl
  · intro i hi
    have hi' : i < s.2.1.length + 1 := by
      have : i < (s.2.1 ++ [c]).length := hi
      rw [List.length_append] at this
      exact this
    rw [kW_ne (by decide)]
    show _ = kI (zTrI ((s.2.1 ++ [c]).getD i 0))
    by_cases e : i = s.2.1.length
    · subst e
      rw [kW_at]
      congr 2
      simp [List.getD_eq_getElem?_getD]
    · rw [kW_no (by omega), o2 i (by omega)]
      congr 2
      simp only [List.getD_eq_getElem?_getD]
      rw [List.getElem?_append_left (by omega)]
  · refine ⟨?_, ?_⟩
    · rw [kW_no (by decide), a1]; exact o3.1
    · rw [kW_ne (by decide), kW_ne (by decide), kW_ne (by decide), kW_ne (by decide), kW_ne (by decide), kW_ne (by decide)]; exact o3.2
  · refine ⟨?_, ?_⟩
    · rw [kW_no (by decide), a1]; exact o4.1
    · rw [kW_ne (by decide), kW_ne (by decide), kW_ne (by decide), kW_ne (by decide)]; exact o4.2
  · intro k hk
    rw [kW_no (by omega), a1]; exact l1 k hk
  · rw [kW_ne (by decide), kW_ne (by decide), kW_ne (by decide), kW_ne (by decide)]; exact l2
  · intro k hk
    rw [kW_ne (by decide), kW_no (by omega)]; exact l3 k hk
theorem m_is {n : Nat} (hn : 100 ≤ n) {μ0 : kbM} {x : pX} {μ : kbM} {s : pS} (hs : mSs μ0 μ x s) (ho : tOk' x s) {sid : Nat} (hsid : sid ∈ sids) : f_MD_is n sid μ = some (zB (pNm x sid s)) := by
  obtain ⟨a1, a2, a0, a3⟩ := sid_ok sid hsid
  obtain ⟨k1, k2, ⟨j1, j2, j3, j4, j5⟩, k4, k5⟩ := hs
  obtain ⟨hx, ⟨t1, t2, t3, t4, t5⟩, tc0⟩ := ho
  have hx6 := hx.1
  have tl := kOk.lt ⟨t1, t2, t3, t4, t5⟩
  unfold f_MD_is
  rw [if_pos k2, j1, j2, j3, is_no (by omega), pk_sub t1, a1, show (1 : Int32) = nI 1 from rfl]
  have tcl : tc s.1.1 < 2 ^ 31 := by unfold tc; split; omega; split <;> omega
  unfold pNm
  by_cases h1 : s.1.1 = 1
  · rw [if_pos (by rw [h1]; rfl), h1]
    by_cases h2 : s.1.2.2 - s.1.2.1 = pLen sid
    · rw [if_pos (by rw [h2]), h2]
      have e : ∀ j i k, i + j = pLen sid → j < k → zAll (fun j => x.1 (s.1.2.1 + j) == pChr sid j) i = true → lp_MD_is_39 n sid μ k (nI 1) (nI i) = some (zB (zAll (fun j => x.1 (s.1.2.1 + j) == pChr sid j) (pLen sid))) := by
        intro j
        induction j with
        | zero =>
          intro i k h1 h2 hz
          obtain ⟨k, rfl⟩ : ∃ z, k = z + 1 := ⟨k - 1, by omega⟩
          obtain rfl : i = pLen sid := by omega
          simp only [lp_MD_is_39]
          rw [if_neg (by decide), a1, if_pos (by rw [nI_leI (by omega) (by omega)]; omega), hz]
          rfl
        | succ j ih =>
          intro i k h1 h2 hz
          obtain ⟨k, rfl⟩ : ∃ z, k = z + 1 := ⟨k - 1, by omega⟩
          have hb := hx.2 (s.1.2.1 + i) (by omega)
          obtain ⟨b1, b2⟩ := a3 i (by omega)
          simp only [lp_MD_is_39]
          unfold jn_MD_is_75
          rw [if_neg (by decide), a1, if_neg (by rw [nI_leI (by omega) (by omega)]; omega), kn_inT (show i < (kbTx.getD sid []).length from (by show i < pLen sid; omega)) (by omega), kn_if_t, j2, nI_add, kn_inT (by omega) (by omega), kn_if_t, nI_clamp (by omega), k1.2 _ (by omega), b1, nI_1]
          by_cases hp : x.1 (s.1.2.1 + i) = pChr sid i
          · rw [if_pos (by rw [hp])]
            exact ih (i + 1) k (by omega) (by omega) (by simp [zAll, hz, hp])
          · rw [if_neg (by rw [nI_eq (by omega) (by omega)]; exact fun q => hp q.symm), zAll_f (p := fun j => x.1 (s.1.2.1 + j) == pChr sid j) (c := pLen sid) (i := i) (by omega) (beq_eq_false_iff_ne.mpr hp)]
            obtain ⟨k, rfl⟩ : ∃ z, k = z + 1 := ⟨k - 1, by omega⟩
            simp only [lp_MD_is_39]
            rw [if_pos trivial]
            rfl
      unfold jn_MD_is_36 jn_MD_is_82
      rw [show (0 : Int32) = nI 0 from rfl, e (pLen sid) 0 n (by omega) (by omega) rfl, kn_bs]
      cases zAll (fun j => x.1 (s.1.2.1 + j) == pChr sid j) (pLen sid)
      · simp [zB, kbIf]; rfl
      · simp [zB, kbIf]
    · rw [if_neg (by rw [nI_eq (by omega) (by omega)]; exact fun q => h2 q.symm), beq_eq_false_iff_ne.mpr h2]
      simp [zB]
  · have : tc s.1.1 ≠ 1 := by unfold tc; split; omega; split <;> omega
    rw [if_neg (by rw [nI_eq tcl (by decide)]; exact this), beq_eq_false_iff_ne.mpr h1]
    simp [zB]
theorem m_marked {μ0 : kbM} {x : pX} {μ : kbM} {s : pS} (hs : mSs μ0 μ x s) (ho : tOk' x s) {c : Nat} (hc : c < 256) (h3 : 3 < c) : f_MD_isMarked (nI c) μ = some (zB (s.1.1 == c)) := by
  obtain ⟨k1, k2, ⟨j1, j2, j3, j4, j5⟩, k4, k5⟩ := hs
  obtain ⟨hx, ⟨t1, t2, t3, t4, t5⟩, tc0⟩ := ho
  have hx6 := hx.1
  have tl := kOk.lt ⟨t1, t2, t3, t4, t5⟩
  have tcl : tc s.1.1 < 2 ^ 31 := by unfold tc; split; omega; split <;> omega
  unfold f_MD_isMarked jn_MD_isMarked_32 jn_MD_isMarked_33
  rw [if_pos k2, j1, j2, kl_3]
  rcases t4 with h | ⟨h, h'⟩
  · have : tc s.1.1 ≠ 3 := by unfold tc; split; omega; split <;> omega
    rw [if_neg (by rw [nI_eq tcl (by decide)]; exact this), beq_eq_false_iff_ne.mpr (by omega)]
    rfl
  · have sl := isSg_lt h
    have : tc s.1.1 = 3 := by unfold tc; rw [if_neg (by omega), if_neg (by omega)]
    have lt : s.1.2.1 < s.1.2.2 := by omega
    rw [if_pos (by rw [this]), kn_inT (by omega) (by omega), kn_if_t, nI_clamp (by omega), k1.2 _ (by omega), h']
    by_cases e : s.1.1 = c
    · rw [if_pos (by rw [e]), e, beq_self_eq_true]; rfl
    · rw [if_neg (by rw [nI_eq (by omega) (by omega)]; exact e), beq_eq_false_iff_ne.mpr e]; rfl
theorem m_mark {n : Nat} (hn : 1000 ≤ n) (μ0 : kbM) (x : pX) {c : Nat} (hc : c < 256) (h3 : 3 < c) : mPp μ0 x (f_MD_mark n (nI c)) (pSign x c) := by
  constructor
  · intro μ s hs ho
    unfold f_MD_mark jn_MD_mark_20 jn_MD_mark_31 pSign
    rw [if_pos hs.2.1, m_marked hs ho.1 hc h3, kn_bs]
    by_cases e : s.1.1 = c
    · obtain ⟨μ', e1, r⟩ := m_adv hn hs ho.1.1 ho.1.2.1.2.1
      rw [e, beq_self_eq_true, if_neg zT0, if_pos hs.2.1, if_pos rfl, bnd_s]
      exact ⟨μ', e1, r⟩
    · obtain ⟨μ', e1, r⟩ := m_wrong hs (c := 1) (by decide) (by decide)
      rw [beq_eq_false_iff_ne.mpr e, if_pos zF0, if_neg e, show (1 : Int32) = nI 1 from rfl, e1, kn_bs, if_neg r.ne]
      exact ⟨μ', rfl, r⟩
  · intro μ f q h; exact h.mark _
theorem m_kind {μ0 : kbM} {x : pX} {μ : kbM} {s : pS} (hs : mSs μ0 μ x s) (ho : tOk' x s) {c : Nat} (hc : c ≤ 2) : (μ.1 57 16 = nI c) = (s.1.1 = c) := by
  have tl := (kOk.lt ho.2.1).1
  have tcl : tc s.1.1 < 2 ^ 31 := by unfold tc; split; omega; split <;> omega
  rw [hs.2.2.1.1]
  apply propext
  rw [nI_eq tcl (by omega)]
  unfold tc
  constructor
  · intro h
    split at h
    · exact h
    · split at h <;> omega
  · intro h
    rw [if_pos (by omega)]; exact h
theorem m_val {n : Nat} (hn : 100 ≤ n) {μ0 : kbM} {x : pX} {μ : kbM} {s : pS} (hs : mSs μ0 μ x s) (ho : tOk' x s) : f_MD_wordOf_60 n μ = some (match pVal x s with | some i => nI i | none => -1) := by
  have hm : ∀ i, i < 6 → 7 + i ∈ sids := by decide
  have e : lp_MD_wordOf_60_2 n μ n (nI 0) = some (match pVal x s with | some q => .inl (nI q) | none => .inr ()) := by
    refine kn_search (fun k i => lp_MD_wordOf_60_2 n μ k (nI i)) (fun i => pNm x (7 + i) s) 6 (fun q => .inl (nI q)) (.inr ()) ?_ ?_ ?_ 6 0 n rfl (by omega)
    · intro k; simp only [lp_MD_wordOf_60_2]; rw [if_pos (by decide)]
    · intro k i hi hp
      simp only [lp_MD_wordOf_60_2]
      rw [kl_6, if_neg (by rw [nI_leI (by decide) (by omega)]; omega), kn_inT hi (by omega), kn_if_t, nI_clamp (by omega), m_is hn hs ho (hm i hi), kn_bs, hp, if_neg zT0]
    · intro k i hi hp
      simp only [lp_MD_wordOf_60_2]
      rw [kl_6, if_neg (by rw [nI_leI (by decide) (by omega)]; omega), kn_inT hi (by omega), kn_if_t, nI_clamp (by omega), m_is hn hs ho (hm i hi), kn_bs, hp, if_pos zF0, nI_1]
  unfold f_MD_wordOf_60
  rw [show (0 : Int32) = nI 0 from rfl, e]
  cases pVal x s <;> rfl
theorem mFf.num {n : Nat} {μ0 μ : kbM} {f q : Nat} (h : mFf μ0 μ f q) (a b : Int32) : f_MD_readNumber n a b μ = some (0, μ) := by
  unfold f_MD_readNumber
  rw [if_neg h.ne]
/-- the model's number -/
theorem m_num {n : Nat} (hn : 1000 ≤ n) {μ0 : kbM} {x : pX} {μ : kbM} {s : pS} (hs : mSs μ0 μ x s) (ho : tOk' x s) {hi : Nat} (hh : hi ≤ 9999) : (s.1.1 = 2 ∧ s.1.2.2 - s.1.2.1 ≤ 4 ∧ pNum x s.1.2.1 s.1.2.2 ≤ hi → ∃ μ', f_MD_readNumber n 0 (nI hi) μ = some (nI (pNum x s.1.2.1 s.1.2.2), μ') ∧ mSs μ0 μ' x (pAdv x s)) ∧ (s.1.1 = 2 → ¬ (s.1.2.2 - s.1.2.1 ≤ 4 ∧ pNum x s.1.2.1 s.1.2.2 ≤ hi) → ∃ μ', f_MD_readNumber n 0 (nI hi) μ = some (0, μ') ∧ mFf μ0 μ' 2 s.1.2.1) ∧ (s.1.1 ≠ 2 → ∃ μ', f_MD_readNumber n 0 (nI hi) μ = some (0, μ') ∧ mFf μ0 μ' 1 s.1.2.1) := by
  have hx6 := ho.1.1
  have t2 := ho.2.1.2.1
  unfold f_MD_readNumber jn_MD_readNumber_54 jn_MD_readNumber_59 jn_MD_readNumber_74 jn_MD_readNumber_86
  rw [if_pos hs.2.1, hs.2.2.1.2.1, hs.2.2.1.2.2.1, pk_sub ho.2.1.1, kl_4]
  refine ⟨fun ⟨h2, h4, h5⟩ => ?_, fun h2 h4 => ?_, fun h2 => ?_⟩
  · have e17 := hs.2.2.1.2.2.2.2 h2 h4
    obtain ⟨μ', e1, r⟩ := m_adv hn hs ho.1 t2
    have nl := pNum_le h4 (ho.2.1.2.2.2.2 h2)
    rw [kl_2, if_pos (by rw [m_kind hs ho (by decide)]; exact h2), if_neg (by rw [nI_ltI (by decide) (by omega)]; omega), e17, if_neg (nI_pos (by omega)), if_pos (by rw [nI_leI (by omega) (by omega)]; exact h5), if_pos hs.2.1, if_pos hs.2.1, e1, kn_bs]
    exact ⟨μ', rfl, r⟩
  · obtain ⟨μ', e1, r⟩ := m_wrong hs (c := 2) (by decide) (by decide)
    rw [kl_2, if_pos (by rw [m_kind hs ho (by decide)]; exact h2), e1, kn_bs, if_neg r.ne, if_neg r.ne]
    by_cases h4' : s.1.2.2 - s.1.2.1 ≤ 4
    · have e17 := hs.2.2.1.2.2.2.2 h2 h4'
      have nl := pNum_le h4' (ho.2.1.2.2.2.2 h2)
      rw [if_neg (by rw [nI_ltI (by decide) (by omega)]; omega), e17, if_neg (nI_pos (by omega)), if_neg (by rw [nI_leI (by omega) (by omega)]; omega)]
      exact ⟨μ', rfl, r⟩
    · rw [if_pos (by rw [nI_ltI (by decide) (by omega)]; omega)]
      exact ⟨μ', rfl, r⟩
  · obtain ⟨μ', e1, r⟩ := m_wrong hs (c := 1) (by decide) (by decide)
    rw [show (1 : Int32) = nI 1 from rfl, kl_2, if_neg (by rw [m_kind hs ho (by decide)]; exact h2), e1, kn_bs, if_neg r.ne, if_neg r.ne]
    exact ⟨μ', rfl, r⟩
