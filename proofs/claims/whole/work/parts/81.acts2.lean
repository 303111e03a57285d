/-! die, worth, part, rain, undo -/
theorem kW_self {μ : kbM} {c k : Nat} : kbW μ c k (μ.1 c k) = μ := by
  refine Prod.ext (funext fun a => ?_) rfl
  by_cases h : a = c
  · subst h; rw [kW_eq]; funext j
    by_cases e : j = k
    · subst e; rw [pk_us]
    · rw [pk_un e]
  · rw [kW_ne h]
theorem c_keepW {μ : kbM} {A : zA} (hA : zOk A) (h : rC μ A) {p : Nat} (hp : p < A.1.1.1.length) (k : Nat) : ∃ μ', f_ST_keepWord_12 (nI k) (nI p) μ = some μ' ∧ cLog μ' 18 (zKeep A.1.2.1 (k, p, zRowAt A.1.1.1 p, zPartAt A.1.1.1 p, zWorthAt A.1.1.1 p) A.1.1) ∧ μ'.1 12 5 = nI (zKeep A.1.2.1 (k, p, zRowAt A.1.1.1 p, zPartAt A.1.1.1 p, zWorthAt A.1.1.1 p) A.1.1).length ∧ (∀ c, c ≠ 12 → c ≠ 18 → μ'.1 c = μ.1 c) ∧ (∀ k, k ≠ 5 → μ'.1 12 k = μ.1 12 k) := by
  have h10 := hA.words.1
  have hw := h.words.2 p hp
  obtain ⟨μ', e, g⟩ := c_keep (μ := μ) (G := A.1.2.1) h.1.2.2.1 h.1.2.2.2.2.1 hA.1.2.1 (k, p, zRowAt A.1.1.1 p, zPartAt A.1.1.1 p, zWorthAt A.1.1.1 p) A.1.1
  have e' : f_ST_keepAct_12 (nI k) (nI p) (nI (zRowAt A.1.1.1 p)) (nI (zPartAt A.1.1.1 p)) (nI (zWorthAt A.1.1.1 p)) μ = some μ' := e
  refine ⟨μ', ?_, g⟩
  simp (disch := omega) only [kn_if_t, kn_bs, kn_or_l, kn_or_r, kn_inT, nI_clamp, nI_leI, nI_ltI, nI_eq, nI_add, pk_mul, nI_1, kn_eq0, kn_lt0, kn_le0, kn_0le, kn_div, kn_rem, kn_or, kn_and, kn_or0, kn_ad0, kn_shl1, kn_bitB, zBt, zBf, zB1t, zB1f, zB_01, zB_10, kl_2, kl_3, kl_4, kl_5, kl_6, kl_7, kl_8, kl_10, kl_12, kl_13, if_pos, if_neg, ↓reduceIte, eq_self, not_true_eq_false, not_false_eq_true, Nat.add_zero, Nat.or_zero, reduceCtorEq, or_true, true_or, or_false, false_or, decide_true, decide_false, kn_sub1, sb_m1, pk_sub, kW_ne, kW_at, kW_no, kA_ne, kA_eq, ite_self, and_self, true_and, and_true, f_ST_keepWord_12, hw.1, hw.2.2.1, hw.2.2.2, e']
def t_die (A : zA) (u : Int32) : zSes × Int32 × Int32 := if zIn u A.1.1.1.length = true then (zDo A.1 (1, u.toNatClampNeg, zRowAt A.1.1.1 u.toNatClampNeg, zPartAt A.1.1.1 u.toNatClampNeg, zWorthAt A.1.1.1 u.toNatClampNeg) (A.1.1.1.eraseIdx u.toNatClampNeg, A.1.1.2), 0, nI (zRowAt A.1.1.1 u.toNatClampNeg)) else (A.1, 1, 0)
theorem cl_die {n : Nat} (hn : 2000 ≤ n) {μ : kbM} {A : zA} (hA : zOk A) (h : rC μ A) (u : Int32) : ∃ μ1, f_L_die n u μ = some ((t_die A u).2.1, μ1) ∧ ((t_die A u).2.1 = 0 → μ1.2 97 0 = (t_die A u).2.2.toInt64) ∧ rC μ1 ((t_die A u).1, A.2) := by
  have h10 := hA.words.1
  unfold f_L_die f_KB_die t_die
  rw [kb_needWord n h.words h10]
  rcases zIn_cases u (c := A.1.1.1.length) (by omega) with ⟨p, hp, rfl⟩ | ⟨h1, -⟩
  · obtain ⟨x1, e1, k1, k2, k3, k4⟩ := c_keepW hA h hp 1
    have hw1 : cWords x1 13 14 15 16 17 A.1.1.1 := h.words.cg (fun c hc => k3 c (by revert c; decide) (by revert c; decide))
    obtain ⟨x2, e2, w2⟩ := c_remove (n := n) (by omega) hw1 h10 hp
    have f2 := fr_f_WO_remove_13 e2
    rw [zIn_n (by omega), if_pos (decide_eq_true hp), if_pos (decide_eq_true hp), kn_or_r, kn_inT (by omega) (by omega), kn_if_t, nI_clamp (by omega), (h.words.2 p hp).1, show f_ST_keepWord_12 1 (nI p) μ = some x1 from e1, kn_bs, e2, kn_bs, jo_renew, kn_bs, kn_or_r]
    refine ⟨_, rfl, fun _ => kX_at, (c_act h ?_ w2 ?_ ?_ ?_ ?_ ?_).kX _⟩
    · exact Nat.le_trans (List.length_eraseIdx_le _ _) h10
    · rw [fr_at f2 (by decide) (by decide), k4 7 (by decide)]; exact h.wet
    · rw [fr_at f2 (by decide) (by decide)]; exact k2
    · unfold cLog at k1 ⊢; rw [fr_at f2 (by decide) (by decide)]; exact k1
    · rw [fr_at f2 (by decide) (by decide), k4 6 (by decide)]
    · intro c hc
      rw [fr_at f2 (by revert c; decide) (by revert c; decide), k3 c (by revert c; decide) (by revert c; decide)]
  · rw [h1]
    exact ⟨μ, rfl, fun q => absurd q z1n, h⟩
theorem md_die {n : Nat} (hn : 2000 ≤ n) {μ : kbM} {A : zA} (hA : zOk A) (h0 : rM μ A) (u : Int32) : ∃ v μ2, f_MD_die n u μ = some (v, μ2) ∧ μ2.1 57 3 = (t_die A u).2.1 ∧ ((t_die A u).2.1 = 0 → v = (t_die A u).2.2) ∧ rM μ2 ((t_die A u).1, A.2) := by
  have h10 := hA.words.1
  have h := h0.c0 0
  unfold f_MD_die t_die f_MD_fail
  rw [md_isWord h.words h10, kn_bs]
  rcases zIn_cases u (c := A.1.1.1.length) (by omega) with ⟨p, hp, rfl⟩ | ⟨h1, -⟩
  · obtain ⟨x, e1, k1, k2, k3, k4, kw, kwt⟩ := m_keepA hn hA h (1, p, zRowAt A.1.1.1 p, zPartAt A.1.1.1 p, zWorthAt A.1.1.1 p)
    obtain ⟨y, e2, w2, y3, y4⟩ := m_remove (n := n) (by omega) (nI (zRowAt A.1.1.1 p)) kw h10 hp
    rw [zIn_n (by omega), decide_eq_true hp, if_neg (show ¬ zB true = 0 by decide), if_pos rfl, e1, kn_bs, kn_inT (by omega) (by omega), kn_if_t, nI_clamp (by omega), (kw.2 p hp).1, kw.1, kn_sub1 (by omega), e2, kn_bs]
    refine ⟨_, _, rfl, ?_, fun _ => rfl, m_act h w2 ?_ ?_ ?_ ?_ ?_⟩
    · rw [y4 3 (by decide), k4 3 (by decide)]; exact kW_at
    · rw [y4 28 (by decide)]; exact kwt
    · rw [y4 29 (by decide)]; exact k2
    · unfold mPast mPack at k1 ⊢; rw [y3 73 (by decide) (by decide) (by decide) (by decide)]; exact k1
    · intro c hc
      rw [y3 c (by revert c; decide) (by revert c; decide) (by revert c; decide) (by revert c; decide), k3 c (by revert c; decide) (by revert c; decide)]
    · intro k hk
      rw [y4 k (by revert k; decide), k4 k (by revert k; decide)]
  · rw [h1]
    exact ⟨_, _, rfl, kW_at, fun q => absurd q z1n, h.c0 1⟩
theorem ok_die {A : zA} (hA : zOk A) (u : Int32) : zOk ((t_die A u).1, A.2) := by
  have h10 := hA.words.1
  unfold t_die
  rcases zIn_cases u (c := A.1.1.1.length) (by omega) with ⟨p, hp, rfl⟩ | ⟨h1, -⟩
  · rw [zIn_n (by omega), decide_eq_true hp, if_pos rfl, nI_clamp (by omega)]
    have hw := hA.words.at hp
    have hr := hw.1.2.2
    refine hA.ses (zDo_ok hA.1 ⟨zWok_ers hA.words p, hA.wet⟩ ⟨?_, (by show 1 ≤ 3; decide), (by show p < 2 ^ 31; omega), (by show zRowAt A.1.1.1 p < 2 ^ 31; omega), hw.2.1, hw.2.2, fun q => (by simp at q), fun _ => ⟨?_, ?_, hw.1⟩, fun q => (by simp at q), fun q => (by simp at q)⟩)
    · show ((A.1.1.1.eraseIdx p).insertIdx p (zRowAt A.1.1.1 p, zPartAt A.1.1.1 p, zWorthAt A.1.1.1 p), A.1.1.2) = A.1.1
      have := zUnErs (0, 0, 0) A.1.1.1 p hp
      have e : (zRowAt A.1.1.1 p, zPartAt A.1.1.1 p, zWorthAt A.1.1.1 p) = A.1.1.1.getD p (0, 0, 0) := rfl
      rw [e, this]
    · show p ≤ (A.1.1.1.eraseIdx p).length
      rw [List.length_eraseIdx_of_lt hp]; omega
    · show (A.1.1.1.eraseIdx p).length < 10
      rw [List.length_eraseIdx_of_lt hp]; omega
  · rw [h1]; exact hA
theorem op_12 {n : Nat} (hn : 5000 ≤ n) {μ : kbM} (hI : kbInv μ) (u1 : Int32) : ∃ μ', c_law_12 n u1 μ = some μ' ∧ kbInv μ' := by
  obtain ⟨A, hA, hC, hM⟩ := hI
  obtain ⟨μ1, h1, h4, hC1⟩ := cl_die (n := n) (by omega) hA hC u1
  have f1 := fr_f_L_die h1
  have hM1 := hM.fr f1 (by decide) (by decide)
  obtain ⟨v, μ2, h2, h3, h5, hM2⟩ := md_die (n := n) (by omega) hA hM1 u1
  have f2 := fr_f_MD_die h2
  refine ⟨μ2, law_int h1 h2 h3 (fun q => ?_), _, ok_die hA u1, hC1.fr f2 (by decide) (by decide), hM2⟩
  rw [fr_at2 f2 (by decide) (by decide), h4 q, h5 q]
def t_worth (A : zA) (u1 u2 : Int32) : zSes × Int32 × Int32 := if zIn u1 A.1.1.1.length = true then (if zIn u2 100 = true then (zDo A.1 (2, u1.toNatClampNeg, zRowAt A.1.1.1 u1.toNatClampNeg, zPartAt A.1.1.1 u1.toNatClampNeg, zWorthAt A.1.1.1 u1.toNatClampNeg) (A.1.1.1.set u1.toNatClampNeg (zRowAt A.1.1.1 u1.toNatClampNeg, zPartAt A.1.1.1 u1.toNatClampNeg, u2.toNatClampNeg), A.1.1.2), 0, nI (zWorthAt A.1.1.1 u1.toNatClampNeg)) else (zRf A.1 1, 0, -1)) else (A.1, 1, 0)
theorem cl_worth {n : Nat} (hn : 2000 ≤ n) {μ : kbM} {A : zA} (hA : zOk A) (h : rC μ A) (u1 u2 : Int32) : ∃ μ1, f_L_worth n u1 u2 μ = some ((t_worth A u1 u2).2.1, μ1) ∧ ((t_worth A u1 u2).2.1 = 0 → μ1.2 97 0 = (t_worth A u1 u2).2.2.toInt64) ∧ rC μ1 ((t_worth A u1 u2).1, A.2) := by
  have h10 := hA.words.1
  unfold f_L_worth f_KB_worth t_worth
  rw [kb_needWord n h.words h10]
  rcases zIn_cases u1 (c := A.1.1.1.length) (by omega) with ⟨p, hp, rfl⟩ | ⟨h1, -⟩
  · have hw := h.words.2 p hp
    rw [zIn_n (by omega), if_pos (decide_eq_true hp), if_pos (decide_eq_true hp), kn_or_r, kb_isWorth, kn_bs]
    cases h2 : zIn u2 100 with
    | false =>
      exact ⟨_, rfl, fun _ => kX_at, (c_refuse h (by decide)).kX _⟩
    | true =>
      obtain ⟨v, hv, rfl⟩ := zIn_f (by decide) h2
      obtain ⟨x1, e1, k1, k2, k3, k4⟩ := c_keepW hA h hp 2
      have hw1 : cWords x1 13 14 15 16 17 A.1.1.1 := h.words.cg (fun c hc => k3 c (by revert c; decide) (by revert c; decide))
      obtain ⟨x2, e2, w2⟩ := c_change (pt := zPartAt A.1.1.1 p) (wt := v) hw1 h10 hp
      have f2 := fr_f_WO_change_13 e2
      have g := hw1.2 p hp
      rw [if_neg (show ¬ zB true = 0 by decide), if_pos rfl, kn_inT (by omega) (by omega), kn_if_t, nI_clamp (by omega), nI_clamp (by omega), show f_ST_keepWord_12 2 (nI p) μ = some x1 from e1, kn_bs, kn_if_t, g.2.2.1, e2, kn_bs, jo_renew, kn_bs, kn_or_r, hw.2.2.2]
      refine ⟨_, rfl, fun _ => kX_at, (c_act h ?_ w2 ?_ ?_ ?_ ?_ ?_).kX _⟩
      · show (A.1.1.1.set p _).length ≤ 10
        rw [List.length_set]; exact h10
      · rw [fr_at f2 (by decide) (by decide), k4 7 (by decide)]; exact h.wet
      · rw [fr_at f2 (by decide) (by decide)]; exact k2
      · unfold cLog at k1 ⊢; rw [fr_at f2 (by decide) (by decide)]; exact k1
      · rw [fr_at f2 (by decide) (by decide), k4 6 (by decide)]
      · intro c hc
        rw [fr_at f2 (by revert c; decide) (by revert c; decide), k3 c (by revert c; decide) (by revert c; decide)]
  · rw [h1]
    exact ⟨μ, rfl, fun q => absurd q z1n, h⟩
theorem md_worth {n : Nat} (hn : 2000 ≤ n) {μ : kbM} {A : zA} (hA : zOk A) (h0 : rM μ A) (u1 u2 : Int32) : ∃ v μ2, f_MD_worth n u1 u2 μ = some (v, μ2) ∧ μ2.1 57 3 = (t_worth A u1 u2).2.1 ∧ ((t_worth A u1 u2).2.1 = 0 → v = (t_worth A u1 u2).2.2) ∧ rM μ2 ((t_worth A u1 u2).1, A.2) := by
  have h10 := hA.words.1
  have h := h0.c0 0
  unfold f_MD_worth t_worth f_MD_fail
  rw [md_isWord h.words h10, kn_bs]
  rcases zIn_cases u1 (c := A.1.1.1.length) (by omega) with ⟨p, hp, rfl⟩ | ⟨h1, -⟩
  · rw [zIn_n (by omega), decide_eq_true hp, if_neg (show ¬ zB true = 0 by decide), if_pos rfl, kn_isIn99, kn_bs]
    cases h2 : zIn u2 100 with
    | false =>
      rw [if_pos (show zB false = 0 from rfl), show f_MD_refuse 1 (kbW μ 57 3 0) = _ from md_refuse (k := 1) (by decide), kn_bs]
      exact ⟨_, _, rfl, by rw [kW_ne (by decide)]; exact kW_at, fun _ => rfl, m_refuse h (by decide)⟩
    | true =>
      obtain ⟨v, hv, rfl⟩ := zIn_f (by decide) h2
      obtain ⟨x, e1, k1, k2, k3, k4, kw, kwt⟩ := m_keepA hn hA h (2, p, zRowAt A.1.1.1 p, zPartAt A.1.1.1 p, zWorthAt A.1.1.1 p)
      have g := kw.2 p hp
      have ms := m_set (pt := zPartAt A.1.1.1 p) (wt := v) kw hp
      rw [← g.2.1, kW_self] at ms
      rw [if_neg (show ¬ zB true = 0 by decide), if_pos rfl, e1, kn_bs, kn_inT (by omega) (by omega), kn_if_t, kn_if_t, nI_clamp (by omega), nI_clamp (by omega), g.2.2]
      refine ⟨_, _, rfl, ?_, fun _ => rfl, m_act h ms ?_ ?_ ?_ ?_ ?_⟩
      · rw [kW_ne (by decide), k4 3 (by decide)]; exact kW_at
      · rw [kW_ne (by decide)]; exact kwt
      · rw [kW_ne (by decide)]; exact k2
      · unfold mPast mPack at k1 ⊢; rw [kW_ne (by decide)]; exact k1
      · intro c hc
        rw [kW_ne (by revert c; decide), k3 c (by revert c; decide) (by revert c; decide)]
      · intro k hk
        rw [kW_ne (by decide), k4 k (by revert k; decide)]
  · rw [h1]
    exact ⟨_, _, rfl, kW_at, fun q => absurd q z1n, h.c0 1⟩
theorem ok_worth {A : zA} (hA : zOk A) (u1 u2 : Int32) : zOk ((t_worth A u1 u2).1, A.2) := by
  have h10 := hA.words.1
  unfold t_worth
  rcases zIn_cases u1 (c := A.1.1.1.length) (by omega) with ⟨p, hp, rfl⟩ | ⟨h1, -⟩
  · rw [zIn_n (by omega), decide_eq_true hp, if_pos rfl]
    cases h2 : zIn u2 100 with
    | false => exact hA.ses (zRf_ok hA.1 1)
    | true =>
      obtain ⟨v, hv, rfl⟩ := zIn_f (by decide) h2
      rw [if_pos rfl, nI_clamp (by omega), nI_clamp (by omega)]
      have hw := hA.words.at hp
      have hr := hw.1.2.2
      refine hA.ses (zDo_ok hA.1 ⟨zWok_set hA.words hp hw.2.1 (by omega), hA.wet⟩ ⟨?_, (by show 2 ≤ 3; decide), (by show p < 2 ^ 31; omega), (by show zRowAt A.1.1.1 p < 2 ^ 31; omega), hw.2.1, hw.2.2, fun q => (by simp at q), fun q => (by simp at q), fun _ => ?_, fun q => (by simp at q)⟩)
      · show ((A.1.1.1.set p (zRowAt A.1.1.1 p, zPartAt A.1.1.1 p, v)).set p (zRowAt (A.1.1.1.set p (zRowAt A.1.1.1 p, zPartAt A.1.1.1 p, v)) p, zPartAt A.1.1.1 p, zWorthAt A.1.1.1 p), A.1.1.2) = A.1.1
        have e1 : zRowAt (A.1.1.1.set p (zRowAt A.1.1.1 p, zPartAt A.1.1.1 p, v)) p = zRowAt A.1.1.1 p := by
          unfold zRowAt; rw [zSet_at _ _ _ _ _ hp, if_pos rfl]
        have e : (zRowAt A.1.1.1 p, zPartAt A.1.1.1 p, zWorthAt A.1.1.1 p) = A.1.1.1.getD p (0, 0, 0) := rfl
        rw [e1, List.set_set, e, zSetSelf _ _ _ hp]
      · show p < (A.1.1.1.set p _).length
        rw [List.length_set]; exact hp
  · rw [h1]; exact hA
theorem op_13 {n : Nat} (hn : 5000 ≤ n) {μ : kbM} (hI : kbInv μ) (u1 u2 : Int32) : ∃ μ', c_law_13 n u1 u2 μ = some μ' ∧ kbInv μ' := by
  obtain ⟨A, hA, hC, hM⟩ := hI
  obtain ⟨μ1, h1, h4, hC1⟩ := cl_worth (n := n) (by omega) hA hC u1 u2
  have f1 := fr_f_L_worth h1
  have hM1 := hM.fr f1 (by decide) (by decide)
  obtain ⟨v, μ2, h2, h3, h5, hM2⟩ := md_worth (n := n) (by omega) hA hM1 u1 u2
  have f2 := fr_f_MD_worth h2
  refine ⟨μ2, law_int h1 h2 h3 (fun q => ?_), _, ok_worth hA u1 u2, hC1.fr f2 (by decide) (by decide), hM2⟩
  rw [fr_at2 f2 (by decide) (by decide), h4 q, h5 q]
def t_part (A : zA) (u1 u2 : Int32) : zSes × Int32 × Int32 := if zIn u1 A.1.1.1.length = true then (if zIn u2 3 = true then (zDo A.1 (2, u1.toNatClampNeg, zRowAt A.1.1.1 u1.toNatClampNeg, zPartAt A.1.1.1 u1.toNatClampNeg, zWorthAt A.1.1.1 u1.toNatClampNeg) (A.1.1.1.set u1.toNatClampNeg (zRowAt A.1.1.1 u1.toNatClampNeg, u2.toNatClampNeg, zWorthAt A.1.1.1 u1.toNatClampNeg), A.1.1.2), 0, nI (zPartAt A.1.1.1 u1.toNatClampNeg)) else (zRf A.1 1, 0, -1)) else (A.1, 1, 0)
theorem cl_part {n : Nat} (hn : 2000 ≤ n) {μ : kbM} {A : zA} (hA : zOk A) (h : rC μ A) (u1 u2 : Int32) : ∃ μ1, f_L_part n u1 u2 μ = some ((t_part A u1 u2).2.1, μ1) ∧ ((t_part A u1 u2).2.1 = 0 → μ1.2 97 0 = (t_part A u1 u2).2.2.toInt64) ∧ rC μ1 ((t_part A u1 u2).1, A.2) := by
  have h10 := hA.words.1
  unfold f_L_part f_KB_part t_part
  rw [kb_needWord n h.words h10]
  rcases zIn_cases u1 (c := A.1.1.1.length) (by omega) with ⟨p, hp, rfl⟩ | ⟨h1, -⟩
  · have hw := h.words.2 p hp
    rw [zIn_n (by omega), if_pos (decide_eq_true hp), if_pos (decide_eq_true hp), kn_or_r, kb_isPart, kn_bs]
    cases h2 : zIn u2 3 with
    | false =>
      exact ⟨_, rfl, fun _ => kX_at, (c_refuse h (by decide)).kX _⟩
    | true =>
      obtain ⟨v, hv, rfl⟩ := zIn_f (by decide) h2
      obtain ⟨x1, e1, k1, k2, k3, k4⟩ := c_keepW hA h hp 2
      have hw1 : cWords x1 13 14 15 16 17 A.1.1.1 := h.words.cg (fun c hc => k3 c (by revert c; decide) (by revert c; decide))
      obtain ⟨x2, e2, w2⟩ := c_change (pt := v) (wt := zWorthAt A.1.1.1 p) hw1 h10 hp
      have f2 := fr_f_WO_change_13 e2
      have g := hw1.2 p hp
      rw [if_neg (show ¬ zB true = 0 by decide), if_pos rfl, kn_inT (by omega) (by omega), kn_if_t, nI_clamp (by omega), nI_clamp (by omega), show f_ST_keepWord_12 2 (nI p) μ = some x1 from e1, kn_bs, kn_if_t, g.2.2.2, e2, kn_bs, jo_renew, kn_bs, kn_or_r, hw.2.2.1]
      refine ⟨_, rfl, fun _ => kX_at, (c_act h ?_ w2 ?_ ?_ ?_ ?_ ?_).kX _⟩
      · show (A.1.1.1.set p _).length ≤ 10
        rw [List.length_set]; exact h10
      · rw [fr_at f2 (by decide) (by decide), k4 7 (by decide)]; exact h.wet
      · rw [fr_at f2 (by decide) (by decide)]; exact k2
      · unfold cLog at k1 ⊢; rw [fr_at f2 (by decide) (by decide)]; exact k1
      · rw [fr_at f2 (by decide) (by decide), k4 6 (by decide)]
      · intro c hc
        rw [fr_at f2 (by revert c; decide) (by revert c; decide), k3 c (by revert c; decide) (by revert c; decide)]
  · rw [h1]
    exact ⟨μ, rfl, fun q => absurd q z1n, h⟩
theorem md_part {n : Nat} (hn : 2000 ≤ n) {μ : kbM} {A : zA} (hA : zOk A) (h0 : rM μ A) (u1 u2 : Int32) : ∃ v μ2, f_MD_part n u1 u2 μ = some (v, μ2) ∧ μ2.1 57 3 = (t_part A u1 u2).2.1 ∧ ((t_part A u1 u2).2.1 = 0 → v = (t_part A u1 u2).2.2) ∧ rM μ2 ((t_part A u1 u2).1, A.2) := by
  have h10 := hA.words.1
  have h := h0.c0 0
  unfold f_MD_part t_part f_MD_fail
  rw [md_isWord h.words h10, kn_bs]
  rcases zIn_cases u1 (c := A.1.1.1.length) (by omega) with ⟨p, hp, rfl⟩ | ⟨h1, -⟩
  · rw [zIn_n (by omega), decide_eq_true hp, if_neg (show ¬ zB true = 0 by decide), if_pos rfl, kn_isIn2, kn_bs]
    cases h2 : zIn u2 3 with
    | false =>
      rw [if_pos (show zB false = 0 from rfl), show f_MD_refuse 1 (kbW μ 57 3 0) = _ from md_refuse (k := 1) (by decide), kn_bs]
      exact ⟨_, _, rfl, by rw [kW_ne (by decide)]; exact kW_at, fun _ => rfl, m_refuse h (by decide)⟩
    | true =>
      obtain ⟨v, hv, rfl⟩ := zIn_f (by decide) h2
      obtain ⟨x, e1, k1, k2, k3, k4, kw, kwt⟩ := m_keepA hn hA h (2, p, zRowAt A.1.1.1 p, zPartAt A.1.1.1 p, zWorthAt A.1.1.1 p)
      have g := kw.2 p hp
      have ms := m_set (pt := v) (wt := zWorthAt A.1.1.1 p) kw hp
      rw [show nI (zWorthAt A.1.1.1 p) = (kbW x 71 p (nI v)).1 72 p by rw [kW_ne (by decide), g.2.2], kW_self] at ms
      rw [if_neg (show ¬ zB true = 0 by decide), if_pos rfl, e1, kn_bs, kn_inT (by omega) (by omega), kn_if_t, kn_if_t, nI_clamp (by omega), nI_clamp (by omega), g.2.1]
      refine ⟨_, _, rfl, ?_, fun _ => rfl, m_act h ms ?_ ?_ ?_ ?_ ?_⟩
      · rw [kW_ne (by decide), k4 3 (by decide)]; exact kW_at
      · rw [kW_ne (by decide)]; exact kwt
      · rw [kW_ne (by decide)]; exact k2
      · unfold mPast mPack at k1 ⊢; rw [kW_ne (by decide)]; exact k1
      · intro c hc
        rw [kW_ne (by revert c; decide), k3 c (by revert c; decide) (by revert c; decide)]
      · intro k hk
        rw [kW_ne (by decide), k4 k (by revert k; decide)]
  · rw [h1]
    exact ⟨_, _, rfl, kW_at, fun q => absurd q z1n, h.c0 1⟩
theorem ok_part {A : zA} (hA : zOk A) (u1 u2 : Int32) : zOk ((t_part A u1 u2).1, A.2) := by
  have h10 := hA.words.1
  unfold t_part
  rcases zIn_cases u1 (c := A.1.1.1.length) (by omega) with ⟨p, hp, rfl⟩ | ⟨h1, -⟩
  · rw [zIn_n (by omega), decide_eq_true hp, if_pos rfl]
    cases h2 : zIn u2 3 with
    | false => exact hA.ses (zRf_ok hA.1 1)
    | true =>
      obtain ⟨v, hv, rfl⟩ := zIn_f (by decide) h2
      rw [if_pos rfl, nI_clamp (by omega), nI_clamp (by omega)]
      have hw := hA.words.at hp
      have hr := hw.1.2.2
      refine hA.ses (zDo_ok hA.1 ⟨zWok_set hA.words hp (by omega) hw.2.2, hA.wet⟩ ⟨?_, (by show 2 ≤ 3; decide), (by show p < 2 ^ 31; omega), (by show zRowAt A.1.1.1 p < 2 ^ 31; omega), hw.2.1, hw.2.2, fun q => (by simp at q), fun q => (by simp at q), fun _ => ?_, fun q => (by simp at q)⟩)
      · show ((A.1.1.1.set p (zRowAt A.1.1.1 p, v, zWorthAt A.1.1.1 p)).set p (zRowAt (A.1.1.1.set p (zRowAt A.1.1.1 p, v, zWorthAt A.1.1.1 p)) p, zPartAt A.1.1.1 p, zWorthAt A.1.1.1 p), A.1.1.2) = A.1.1
        have e1 : zRowAt (A.1.1.1.set p (zRowAt A.1.1.1 p, v, zWorthAt A.1.1.1 p)) p = zRowAt A.1.1.1 p := by
          unfold zRowAt; rw [zSet_at _ _ _ _ _ hp, if_pos rfl]
        have e : (zRowAt A.1.1.1 p, zPartAt A.1.1.1 p, zWorthAt A.1.1.1 p) = A.1.1.1.getD p (0, 0, 0) := rfl
        rw [e1, List.set_set, e, zSetSelf _ _ _ hp]
      · show p < (A.1.1.1.set p _).length
        rw [List.length_set]; exact hp
  · rw [h1]; exact hA
theorem op_14 {n : Nat} (hn : 5000 ≤ n) {μ : kbM} (hI : kbInv μ) (u1 u2 : Int32) : ∃ μ', c_law_14 n u1 u2 μ = some μ' ∧ kbInv μ' := by
  obtain ⟨A, hA, hC, hM⟩ := hI
  obtain ⟨μ1, h1, h4, hC1⟩ := cl_part (n := n) (by omega) hA hC u1 u2
  have f1 := fr_f_L_part h1
  have hM1 := hM.fr f1 (by decide) (by decide)
  obtain ⟨v, μ2, h2, h3, h5, hM2⟩ := md_part (n := n) (by omega) hA hM1 u1 u2
  have f2 := fr_f_MD_part h2
  refine ⟨μ2, law_int h1 h2 h3 (fun q => ?_), _, ok_part hA u1 u2, hC1.fr f2 (by decide) (by decide), hM2⟩
  rw [fr_at2 f2 (by decide) (by decide), h4 q, h5 q]
