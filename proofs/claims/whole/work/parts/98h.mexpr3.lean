theorem m_cm' {n : Nat} (hn : 1000 ≤ n) {μ0 : kbM} {x : pX} {re : Int32 → kbM → Option kbM} {a : Int32} {pre : pS → pR} {B : Nat} (hB : B + 2 < 64) (hre : mPp μ0 x (re (a + 1)) pre) (hg : gd x (B + 2) pre) {m : Int32} {μ : kbM} {s : pS} (hs : mSs μ0 μ x s) (ho : tOk1 x s) : ∃ μ3, mRr μ0 μ3 x (pCm x pre s) ∧ ((f_MD_readSum n re a μ).bind fun x5 =>
  (f_MD_isMarked 60 x5).bind fun x6 =>
  if x6 = 0 then
    (f_MD_isMarked 61 x5).bind fun x13 =>
    if x13 = 0 then
      jn_MD_readNot_94 n re m x5
    else
      jn_MD_readNot_63 n re a m x5
  else
    jn_MD_readNot_63 n re a m x5) = jn_MD_readNot_94 n re m μ3 := by
  have ho' := m_su hn hB hre hg
  have G := gd_su hB hg
  obtain ⟨μ1, e1, r1⟩ := ho'.1 μ s hs ho
  unfold pCm
  rw [e1, kn_bs]
  cases hp : pSu x pre s with
  | inl z =>
    rw [hp] at r1
    have r1' : mFf μ0 μ1 z.1 z.2 := r1
    rw [r1'.marked, kn_bs, if_pos rfl, r1'.marked, kn_bs, if_pos rfl]
    exact ⟨μ1, r1, rfl⟩
  | inr s1 =>
    rw [hp] at r1
    have r1' : mSs μ0 μ1 x s1 := r1
    have o1 := G.tk1 s s1 ho hp
    show ∃ μ3, mRr μ0 μ3 x (pLp x pT3 (pSu x pre) 1 s1) ∧ _
    simp only [pLp]
    unfold pT3 jn_MD_readNot_63 jn_MD_readNot_79
    rw [show (60 : Int32) = nI 60 from rfl, show (61 : Int32) = nI 61 from rfl, m_marked r1' o1.1 (by decide) (by decide), kn_bs, kn_bs]
    by_cases h1 : s1.1.1 = 60
    · obtain ⟨μ2, e2, r2, _⟩ := m_stp hn ho' G r1' o1 (by omega) (-10)
      rw [h1, beq_self_eq_true, if_neg zT0, if_neg zT0, if_pos rfl]
      refine ⟨μ2, r2, ?_⟩
      have e3 := congrArg (fun o => Option.bind o (jn_MD_readNot_94 n re m)) e2
      simp only [Option.bind_assoc, kn_bs] at e3
      exact e3
    · rw [beq_eq_false_iff_ne.mpr h1, if_pos zF0, if_pos zF0, if_neg h1, m_marked r1' o1.1 (by decide) (by decide), kn_bs]
      by_cases h2 : s1.1.1 = 61
      · obtain ⟨μ2, e2, r2, _⟩ := m_stp hn ho' G r1' o1 (by omega) (-11)
        rw [h2, beq_self_eq_true, if_neg zT0, if_pos rfl]
        refine ⟨μ2, r2, ?_⟩
        have e3 := congrArg (fun o => Option.bind o (jn_MD_readNot_94 n re m)) e2
        simp only [Option.bind_assoc, kn_bs] at e3
        exact e3
      · rw [beq_eq_false_iff_ne.mpr h2, if_pos zF0, if_neg h2]
        exact ⟨μ1, r1, rfl⟩
theorem m_no {n : Nat} (hn : 1000 ≤ n) {μ0 : kbM} {x : pX} {re : Int32 → kbM → Option kbM} {a : Int32} {pre : pS → pR} {B : Nat} (hB : B + 3 < 64) (hre : mPp μ0 x (re (a + 1)) pre) (hg : gd x (B + 3) pre) : mPp μ0 x (f_MD_readNot n re a) (pNo x pre) := by
  have G := gd_cm hB hg
  refine ⟨fun μ s hs ho => ?_, fun μ f q h => h.no hn re a⟩
  obtain ⟨I1, I2⟩ := m_nots hn re a 6 0 n μ s rfl (by omega) hs ho
  obtain ⟨b1, b2, b3, b4⟩ := pNt_ok 6 s ho.1
  have c0 := ho.1.2.2
  have hx6 := ho.1.1.1
  have h1 := ho.2
  rw [Nat.zero_add] at I1
  unfold f_MD_readNot pNo
  generalize (pNt x 6 s).1 = m at b3 b4 I1
  generalize (pNt x 6 s).2 = s1 at b1 b2 b3 I1 I2
  cases hb : pNm x 29 s1
  · obtain ⟨μ1, e1, r1⟩ := I1 hb
    rw [if_neg Bool.false_ne_true, show (0 : Int32) = nI 0 from rfl, e1, kn_bs]
    obtain ⟨μ3, r3, e3⟩ := m_cm' hn (B := B + 1) hB hre hg (m := nI m) r1 ⟨b1, by omega⟩
    show ∃ μ', ((f_MD_readSum n re a μ1).bind _) = some μ' ∧ _
    rw [show (nI 0 : Int32) = 0 from rfl]
    refine Exists.imp (fun μ' h => ⟨e3.trans h.1, h.2⟩) (p := fun μ' => jn_MD_readNot_94 n re (nI m) μ3 = some μ' ∧ mRr μ0 μ' x (pB (pCm x pre s1) fun s' => .inr (pEms (-7) m s'))) ?_
    unfold jn_MD_readNot_94
    rw [bnd_s]
    cases hp : pCm x pre s1 with
    | inl z =>
      rw [hp] at r3
      exact ⟨μ3, mFf.ems re (by omega) r3 m 0 n (by omega) (by omega), r3⟩
    | inr s2 =>
      rw [hp] at r3
      obtain ⟨q1, q2, X, q3, q4, q5, q6⟩ := G _ _ b1 hp
      have l1 : s2.2.1.length = s.2.1.length + X.length := by rw [q3, List.length_append, b2]
      have t1 := q1.1
      have t2 := q1.2.1
      exact m_ems re b4 m 0 n μ3 s2 (by omega) (by omega) r3 (by omega)
  · obtain ⟨μ1, e1, r1⟩ := I2 hb
    rw [if_pos rfl, show (0 : Int32) = nI 0 from rfl, e1, kn_bs]
    exact ⟨μ1, r1.no' hn (m := 7) (by decide) re a, r1⟩
theorem m_cj {n : Nat} (hn : 1000 ≤ n) {μ0 : kbM} {x : pX} {re : Int32 → kbM → Option kbM} {a : Int32} {pre : pS → pR} {B : Nat} (hB : B + 3 < 64) (hre : mPp μ0 x (re (a + 1)) pre) (hg : gd x (B + 3) pre) : mPp μ0 x (f_MD_readAnd n re a) (pCj x pre) := by
  have ho' := m_no hn hB hre hg
  have G := gd_no hB hg
  have L : mPp μ0 x (lp_MD_readAnd_5 n re a n) (pLp x (pT4 x) (pNo x pre) 600) := by
    refine m_lp hn (tst4 x) ho' G (fun k μ f q h => h.al hn re a k) (fun k μ s hs ho h => ?_) (fun k μ s c hs ho h => ?_)
    · unfold pT4 at h
      simp only [lp_MD_readAnd_5]
      rw [m_is (by omega) hs ho (by decide), kn_bs]
      cases hb : pNm x 28 s
      · rw [if_pos zF0]
      · rw [hb, if_pos rfl] at h; cases h
    · unfold pT4 at h
      simp only [lp_MD_readAnd_5]
      rw [m_is (by omega) hs ho (by decide), kn_bs]
      cases hb : pNm x 28 s
      · rw [hb, if_neg Bool.false_ne_true] at h; cases h
      · rw [hb, if_pos rfl] at h
        cases h
        rw [if_neg zT0]
        rfl
  have R := ho'.bind G.tk1 L
  refine ⟨fun μ s hs ho => ?_, fun μ f q h => h.an hn re a⟩
  obtain ⟨μ', e, r⟩ := R.1 μ s hs ho
  refine ⟨μ', ?_, r⟩
  rw [← e]
  unfold f_MD_readAnd
  simp only [bnd_s]
theorem m_ex {n : Nat} (hn : 1000 ≤ n) {μ0 : kbM} {x : pX} {re : Int32 → kbM → Option kbM} {a : Int32} {pre : pS → pR} {B : Nat} (hB : B + 4 < 64) (hre : mPp μ0 x (re (a + 1)) pre) (hg : gd x (B + 4) pre) : mPp μ0 x (jn_MD_readExpression_62 n re a) (pEx x pre) := by
  have ho' := m_cj hn (B := B + 1) hB hre hg
  have G := gd_cj hB hg
  have L : mPp μ0 x (lp_MD_readExpression_67 n re a n) (pLp x (pT5 x) (pCj x pre) 600) := by
    refine m_lp hn (tst5 x) ho' G (fun k μ f q h => h.el hn re a k) (fun k μ s hs ho h => ?_) (fun k μ s c hs ho h => ?_)
    · unfold pT5 at h
      simp only [lp_MD_readExpression_67]
      rw [m_is (by omega) hs ho (by decide), kn_bs]
      cases hb : pNm x 27 s
      · rw [if_pos zF0]
      · rw [hb, if_pos rfl] at h; cases h
    · unfold pT5 at h
      simp only [lp_MD_readExpression_67]
      rw [m_is (by omega) hs ho (by decide), kn_bs]
      cases hb : pNm x 27 s
      · rw [hb, if_neg Bool.false_ne_true] at h; cases h
      · rw [hb, if_pos rfl] at h
        cases h
        rw [if_neg zT0]
        rfl
  have R := ho'.bind G.tk1 L
  refine ⟨fun μ s hs ho => ?_, fun μ f q h => h.e62 hn re a⟩
  obtain ⟨μ', e, r⟩ := R.1 μ s hs ho
  refine ⟨μ', ?_, r⟩
  rw [← e]
  unfold jn_MD_readExpression_62
  simp only [bnd_s]
/-- an expression that begins with no value, name or bracket -/
theorem pEx_no {x : pX} {pre : pS → pR} {s : pS} (h2 : s.1.1 ≠ 2) (h1 : s.1.1 ≠ 1) (h40 : s.1.1 ≠ 40) : pEx x pre s = pFail 1 s := by
  have hnm : pNm x 29 s = false := by
    cases hb : pNm x 29 s
    · rfl
    · exact absurd (pNm_1 hb) h1
  have pn : pNt x 6 s = (0, s) := by simp only [pNt, hnm, Bool.false_eq_true, if_false]
  have eo : pOp x pre s = pFail 1 s := by unfold pOp; rw [if_neg h2, if_neg h1, if_neg h40]
  have ep : pPr x pre s = pFail 1 s := by unfold pPr; rw [eo]; rfl
  have es : pSu x pre s = pFail 1 s := by unfold pSu; rw [ep]; rfl
  have ec : pCm x pre s = pFail 1 s := by unfold pCm; rw [es]; rfl
  have en : pNo x pre s = pFail 1 s := by
    unfold pNo
    rw [pn]
    show (if pNm x 29 s = true then _ else _) = _
    rw [hnm, if_neg Bool.false_ne_true]
    show pB (pCm x pre s) _ = _
    rw [ec]
    rfl
  have ej : pCj x pre s = pFail 1 s := by unfold pCj; rw [en]; rfl
  unfold pEx
  rw [ej]
  rfl
theorem m_e {n : Nat} (hn : 1000 ≤ n) (μ0 : kbM) (x : pX) : ∀ k a, a ≤ 6 → 8 ≤ a + k → mPp μ0 x (F_MD_readExpression n k (nI a)) (pE x k a) := by
  intro k
  induction k with
  | zero => intro a h1 h2; omega
  | succ k ih =>
    intro a ha hk
    show mPp μ0 x (f_MD_readExpression n (F_MD_readExpression n k) (nI a)) (pEa x (pE x k (a + 1)) a)
    refine ⟨fun μ s hs ho => ?_, fun μ f q h => h.ex _ _⟩
    have begins : (s.1.1 = 2 ∨ s.1.1 = 1 ∨ s.1.1 = 40) → ∃ μ', jn_MD_readExpression_38 n (F_MD_readExpression n k) (nI a) 1 μ = some μ' ∧ mRr μ0 μ' x (pEa x (pE x k (a + 1)) a s) := by
      intro hb
      unfold jn_MD_readExpression_38 pEa
      rw [if_neg (by decide), kl_6]
      by_cases h6 : 6 ≤ a
      · obtain ⟨μ1, e1, r1⟩ := m_wrong hs (c := 2) (by decide) (by decide)
        rw [if_pos (by rw [show a = 6 by omega]), if_pos h6, if_pos hb, kl_2, e1, kn_bs]
        exact ⟨μ1, r1.e62 hn _ _, r1⟩
      · have I := ih (a + 1) (by omega) (by omega)
        rw [← nI_1] at I
        rw [if_neg (by rw [nI_eq (by omega) (by decide)]; omega), if_neg h6]
        exact (m_ex hn (B := 5 * a) (by omega) I ((gd_e x k (a + 1) (by omega)).le (by omega))).1 μ s hs ho
    unfold f_MD_readExpression jn_MD_readExpression_33
    rw [if_pos hs.2.1]
    by_cases h2 : s.1.1 = 2
    · rw [if_pos (show μ.1 57 16 = 2 by rw [kl_2, m_kind hs ho.1 (by decide)]; exact h2)]
      exact begins (Or.inl h2)
    · rw [if_neg (show ¬ μ.1 57 16 = 2 by rw [kl_2, m_kind hs ho.1 (by decide)]; exact h2)]
      by_cases h1 : s.1.1 = 1
      · rw [if_pos (show μ.1 57 16 = 1 by rw [kn_1, m_kind hs ho.1 (by decide)]; exact h1)]
        exact begins (Or.inr (Or.inl h1))
      · rw [if_neg (show ¬ μ.1 57 16 = 1 by rw [kn_1, m_kind hs ho.1 (by decide)]; exact h1), show (40 : Int32) = nI 40 from rfl, m_marked hs ho.1 (by decide) (by decide), kn_bs]
        by_cases h40 : s.1.1 = 40
        · rw [h40, beq_self_eq_true, if_neg zT0]
          exact begins (Or.inr (Or.inr h40))
        · obtain ⟨μ1, e1, r1⟩ := m_wrong hs (c := 1) (by decide) (by decide)
          rw [beq_eq_false_iff_ne.mpr h40, if_pos zF0]
          unfold jn_MD_readExpression_38 pEa
          rw [if_pos rfl, show (1 : Int32) = nI 1 from rfl, e1, kn_bs, pEx_no h2 h1 h40, if_neg (show ¬ (s.1.1 = 2 ∨ s.1.1 = 1 ∨ s.1.1 = 40) by omega), ite_self]
          exact ⟨μ1, r1.e62 hn _ _, r1⟩
