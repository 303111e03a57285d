theorem zTrI_up {c : Int} (h : -6 ≤ c) : zTrI c = c := by
  unfold zTrI
  rw [if_neg (by omega), if_neg (by omega), if_neg (by omega), if_neg (by omega), if_neg (by omega), if_neg (by omega), if_neg (by omega), if_neg (by omega), if_neg (by omega)]
theorem mFf.part {n : Nat} {μ0 μ : kbM} {f q : Nat} (h : mFf μ0 μ f q) (re : Int32 → kbM → Option kbM) (a : Int32) : f_MD_readPart n re a μ = some μ := by
  unfold f_MD_readPart
  rw [if_neg h.ne]
theorem m_nam : ∀ i, i < 6 → ((-1 : Int32) - nI i) = kI (-1 - (i : Int)) := by decide
theorem m_op {n : Nat} (hn : 1000 ≤ n) {μ0 : kbM} {x : pX} {re : Int32 → kbM → Option kbM} {a : Int32} {pre : pS → pR} {B : Nat} (hre : mPp μ0 x (re (a + 1)) pre) (hg : gd x B pre) : mPp μ0 x (f_MD_readPart n re a) (pOp x pre) := by
  constructor
  · intro μ s hs ho1
    have ho := ho1.1
    have hx6 := ho.1.1
    have c0 := ho.2.2
    have t2 := ho.2.1.2.1
    unfold f_MD_readPart jn_MD_readPart_56 jn_MD_readPart_74 pOp
    rw [if_pos hs.2.1]
    by_cases h2 : s.1.1 = 2
    · rw [if_pos (show μ.1 57 16 = 2 by rw [kl_2, m_kind hs ho (by decide)]; exact h2), if_pos h2, show (9999 : Int32) = nI 9999 from rfl]
      have r := tReal ho (by omega)
      obtain ⟨n1, n2, n3⟩ := m_num hn hs ho (hi := 9999) (by decide)
      by_cases h4 : s.1.2.2 - s.1.2.1 ≤ 4
      · have nl := pNum_le h4 (ho.2.1.2.2.2.2 h2)
        obtain ⟨μ1, e1, r1⟩ := n1 ⟨h2, h4, nl⟩
        obtain ⟨μ2, e2, r2⟩ := m_lay r1 (show s.2.1.length < 600 by omega) (pNum x s.1.2.1 s.1.2.2 : Nat)
        rw [zTrI_up (by omega)] at e2
        rw [e1, kn_bs, if_pos h4, bnd_s]
        exact ⟨μ2, e2, r2⟩
      · obtain ⟨μ1, e1, r1⟩ := n2 h2 (fun q => h4 q.1)
        rw [e1, kn_bs, if_neg h4, bnd_s]
        exact ⟨μ1, r1.lay _, r1⟩
    · rw [if_neg (show ¬ μ.1 57 16 = 2 by rw [kl_2, m_kind hs ho (by decide)]; exact h2), if_neg h2]
      by_cases h1 : s.1.1 = 1
      · rw [if_pos (show μ.1 57 16 = 1 by rw [kn_1, m_kind hs ho (by decide)]; exact h1), if_pos h1, m_val (by omega) hs ho, kn_bs]
        have r := tReal ho (by omega)
        cases hv : pVal x s with
        | some i =>
          have il := zFind_lt _ _ _ _ _ hv
          obtain ⟨μ1, e1, r1⟩ := m_lay hs (by omega) (-1 - (i : Int))
          rw [zTrI_up (by omega)] at e1
          obtain ⟨μ2, e2, r2⟩ := m_adv hn r1 ho.1 t2
          show ∃ μ', (if nI i = -1 then _ else _) = some μ' ∧ _
          rw [if_neg (by rw [kn_nm1 (by omega)]; exact id), m_nam i il, e1, kn_bs, if_pos r1.2.1, bnd_s]
          exact ⟨μ2, e2, r2⟩
        | none =>
          obtain ⟨μ1, e1, r1⟩ := m_wrong hs (c := 3) (by decide) (by decide)
          show ∃ μ', (if (-1 : Int32) = -1 then _ else _) = some μ' ∧ _
          rw [if_pos rfl, kl_3, e1, kn_bs, r1.lay, kn_bs, if_neg r1.ne]
          exact ⟨μ1, rfl, r1⟩
      · rw [if_neg (show ¬ μ.1 57 16 = 1 by rw [kn_1, m_kind hs ho (by decide)]; exact h1), if_neg h1]
        obtain ⟨μ1, e1, r1⟩ := (m_mark hn μ0 x (c := 40) (by decide) (by decide)).1 μ s hs ho1
        unfold pSign at r1
        show ∃ μ', ((f_MD_mark n (nI 40) μ).bind _) = some μ' ∧ _
        rw [e1, kn_bs]
        by_cases h40 : s.1.1 = 40
        · rw [if_pos h40] at r1 ⊢
          obtain ⟨μ2, e2, r2⟩ := (hre.bind hg.tk1 (m_mark hn μ0 x (c := 41) (by decide) (by decide))).1 μ1 _ r1 (pAdv_tok1 ho1)
          refine ⟨μ2, ?_, r2⟩
          rw [← e2]
          simp only [bnd_s]
          rfl
        · rw [if_neg h40] at r1 ⊢
          have r1' : mFf μ0 μ1 1 s.1.2.1 := r1
          rw [hre.2 μ1 _ _ r1, kn_bs, r1'.mark, kn_bs]
          exact ⟨μ1, rfl, r1⟩
  · intro μ f q h; exact h.part re a
theorem m_stp {n : Nat} (hn : 1000 ≤ n) {μ0 : kbM} {x : pX} {g : kbM → Option kbM} {q : pS → pR} {B : Nat} (hg : mPp μ0 x g q) (hq : gd x B q) {μ : kbM} {s : pS} (hs : mSs μ0 μ x s) (ho1 : tOk1 x s) (h0 : s.1.1 ≠ 0) (c : Int) : ∃ μ', ((f_MD_stepOn n μ).bind fun a => (g a).bind fun b => f_MD_lay (kI (zTrI c)) b) = some μ' ∧ mRr μ0 μ' x (pB (q (pAdv x s)) fun s' => .inr (pEm c s')) ∧ ∀ s', q (pAdv x s) = .inr s' → tOk1 x (pEm c s') ∧ s.1.2.1 < s'.1.2.1 := by
  have ho := ho1.1
  obtain ⟨μ1, e1, r1⟩ := m_adv hn hs ho.1 ho.2.1.2.1
  obtain ⟨a1, a2⟩ := pAdv_tok ho
  obtain ⟨μ2, e2, r2⟩ := hg.1 μ1 _ r1 (pAdv_tok1 ho1)
  have r := tReal ho h0
  have hx6 := ho.1.1
  rw [e1, kn_bs, e2, kn_bs]
  cases hp : q (pAdv x s) with
  | inl z =>
    rw [hp] at r2
    exact ⟨μ2, mFf.lay r2 _, r2, (fun s' e => by cases e)⟩
  | inr s1 =>
    rw [hp] at r2
    obtain ⟨q1, q2, X, q3, q4, q5, q6⟩ := hq _ _ a1 hp
    have l1 : s1.2.1.length = s.2.1.length + X.length := by rw [q3, List.length_append]; rfl
    have c0 := ho.2.2
    have t1 := q1.1
    have t2 := q1.2.1
    have h1 := ho1.2
    obtain ⟨μ3, e3, r3⟩ := m_lay r2 (by omega) c
    refine ⟨μ3, e3, r3, fun s' e => ?_⟩
    cases e
    refine ⟨⟨⟨ho.1, q1, ?_⟩, ?_⟩, ?_⟩
    · show (s1.2.1 ++ [c]).length ≤ s1.1.2.1
      rw [List.length_append]
      show s1.2.1.length + 1 ≤ _
      omega
    · show 1 ≤ s1.1.2.1
      omega
    · omega
theorem m_lp {n : Nat} (hn : 1000 ≤ n) {μ0 : kbM} {x : pX} {lp : Nat → kbM → Option kbM} {test : pS → Option Int} {g : kbM → Option kbM} {q : pS → pR} {B : Nat} (ht : tst test) (hg : mPp μ0 x g q) (hq : gd x B q)
    (hf : ∀ k μ f q, mFf μ0 μ f q → lp (k + 1) μ = some μ)
    (hno : ∀ k μ s, mSs μ0 μ x s → tOk' x s → test s = none → lp (k + 1) μ = some μ)
    (hst : ∀ k μ s c, mSs μ0 μ x s → tOk' x s → test s = some c → lp (k + 1) μ = (f_MD_stepOn n μ).bind fun a => (g a).bind fun b => (f_MD_lay (kI (zTrI c)) b).bind fun d => lp k d) :
    mPp μ0 x (lp n) (pLp x test q 600) := by
  have key : ∀ j k μ s, mSs μ0 μ x s → tOk1 x s → x.2 - s.1.2.1 < j → x.2 - s.1.2.1 < k → ∃ μ', lp k μ = some μ' ∧ mRr μ0 μ' x (pLp x test q j s) := by
    intro j
    induction j with
    | zero => intro k μ s _ _ h _; omega
    | succ j ih =>
      intro k μ s hs ho h1 h2
      obtain ⟨k, rfl⟩ : ∃ z, k = z + 1 := ⟨k - 1, by omega⟩
      simp only [pLp]
      cases hc : test s with
      | none => exact ⟨μ, hno k μ s hs ho.1 hc, hs⟩
      | some c =>
        obtain ⟨μ1, e1, r1, o1⟩ := m_stp hn hg hq hs ho (ht s c hc).1 c
        have r := tReal ho.1 (ht s c hc).1
        have t2 := ho.1.2.1.2.1
        have e : lp (k + 1) μ = ((f_MD_stepOn n μ).bind fun a => (g a).bind fun b => f_MD_lay (kI (zTrI c)) b).bind (lp k) := by
          rw [hst k μ s c hs ho.1 hc]
          simp only [Option.bind_assoc]
        rw [e, e1, kn_bs]
        cases hp : q (pAdv x s) with
        | inl z =>
          rw [hp] at r1
          obtain ⟨k, rfl⟩ : ∃ z, k = z + 1 := ⟨k - 1, by omega⟩
          exact ⟨μ1, hf k μ1 _ _ r1, r1⟩
        | inr s1 =>
          rw [hp] at r1
          obtain ⟨o2, o3⟩ := o1 s1 hp
          have eq : (pEm c s1).1.2.1 = s1.1.2.1 := rfl
          exact ih k μ1 _ r1 o2 (by rw [eq]; omega) (by rw [eq]; omega)
  refine ⟨fun μ s hs ho => ?_, fun μ f q h => ?_⟩
  · have hx6 := ho.1.1.1
    have h1 := ho.2
    exact key 600 n μ s hs ho (by omega) (by omega)
  · obtain ⟨k, hk⟩ : ∃ z, n = z + 1 := ⟨n - 1, by omega⟩
    rw [hk]
    exact hf k μ f q h
theorem mFf.pl {n : Nat} {μ0 μ : kbM} {f q : Nat} (h : mFf μ0 μ f q) (re : Int32 → kbM → Option kbM) (a : Int32) (k : Nat) : lp_MD_readProduct_5 n re a (k + 1) μ = some μ := by
  simp only [lp_MD_readProduct_5]
  rw [h.marked, kn_bs, if_pos rfl, h.marked, kn_bs, if_pos rfl]
theorem mFf.sl {n : Nat} {μ0 μ : kbM} {f q : Nat} (h : mFf μ0 μ f q) (re : Int32 → kbM → Option kbM) (a : Int32) (k : Nat) : lp_MD_readSum_5 n re a (k + 1) μ = some μ := by
  simp only [lp_MD_readSum_5]
  rw [h.marked, kn_bs, if_pos rfl, h.marked, kn_bs, if_pos rfl]
theorem mFf.al {n : Nat} (hn : 1000 ≤ n) {μ0 μ : kbM} {f q : Nat} (h : mFf μ0 μ f q) (re : Int32 → kbM → Option kbM) (a : Int32) (k : Nat) : lp_MD_readAnd_5 n re a (k + 1) μ = some μ := by
  simp only [lp_MD_readAnd_5]
  rw [h.is (by omega), kn_bs, if_pos rfl]
theorem mFf.el {n : Nat} (hn : 1000 ≤ n) {μ0 μ : kbM} {f q : Nat} (h : mFf μ0 μ f q) (re : Int32 → kbM → Option kbM) (a : Int32) (k : Nat) : lp_MD_readExpression_67 n re a (k + 1) μ = some μ := by
  simp only [lp_MD_readExpression_67]
  rw [h.is (by omega), kn_bs, if_pos rfl]
theorem mFf.pr {n : Nat} (hn : 1000 ≤ n) {μ0 μ : kbM} {f q : Nat} (h : mFf μ0 μ f q) (re : Int32 → kbM → Option kbM) (a : Int32) : f_MD_readProduct n re a μ = some μ := by
  obtain ⟨n, rfl⟩ : ∃ z, n = z + 1 := ⟨n - 1, by omega⟩
  unfold f_MD_readProduct
  rw [h.part, kn_bs, h.pl, kn_bs]
theorem mFf.su {n : Nat} (hn : 1000 ≤ n) {μ0 μ : kbM} {f q : Nat} (h : mFf μ0 μ f q) (re : Int32 → kbM → Option kbM) (a : Int32) : f_MD_readSum n re a μ = some μ := by
  unfold f_MD_readSum
  rw [h.pr hn, kn_bs]
  obtain ⟨n, rfl⟩ : ∃ z, n = z + 1 := ⟨n - 1, by omega⟩
  rw [h.sl, kn_bs]
theorem mFf.ems {n : Nat} (re : Int32 → kbM → Option kbM) {m : Nat} (hm : m ≤ 7) {μ0 μ : kbM} {f q : Nat} (h : mFf μ0 μ f q) : ∀ j i k, i + j = m → j < k → lp_MD_readNot_96 n re (nI m) k (nI i) μ = some μ := by
  intro j
  induction j with
  | zero =>
    intro i k h1 h2
    obtain ⟨k, rfl⟩ : ∃ z, k = z + 1 := ⟨k - 1, by omega⟩
    simp only [lp_MD_readNot_96]
    rw [if_pos (by rw [nI_leI (by omega) (by omega)]; omega)]
  | succ j ih =>
    intro i k h1 h2
    obtain ⟨k, rfl⟩ : ∃ z, k = z + 1 := ⟨k - 1, by omega⟩
    simp only [lp_MD_readNot_96]
    rw [if_neg (by rw [nI_leI (by omega) (by omega)]; omega), h.lay, kn_bs, nI_1]
    exact ih (i + 1) k (by omega) (by omega)
/-- behind a fault the negations' remainder does nothing -/
theorem mFf.no' {n : Nat} (hn : 1000 ≤ n) {m : Nat} (hm : m ≤ 7) {μ0 μ : kbM} {f q : Nat} (h : mFf μ0 μ f q) (re : Int32 → kbM → Option kbM) (a : Int32) : ((f_MD_readSum n re a μ).bind fun x5 =>
  (f_MD_isMarked 60 x5).bind fun x6 =>
  if x6 = 0 then
    (f_MD_isMarked 61 x5).bind fun x13 =>
    if x13 = 0 then
      jn_MD_readNot_94 n re (nI m) x5
    else
      jn_MD_readNot_63 n re a (nI m) x5
  else
    jn_MD_readNot_63 n re a (nI m) x5) = some μ := by
  rw [h.su hn, kn_bs, h.marked, kn_bs, if_pos rfl, h.marked, kn_bs, if_pos rfl]
  unfold jn_MD_readNot_94
  rw [show (0 : Int32) = nI 0 from rfl, mFf.ems re hm h m 0 n (by omega) (by omega), kn_bs]
theorem mFf.no {n : Nat} (hn : 1000 ≤ n) {μ0 μ : kbM} {f q : Nat} (h : mFf μ0 μ f q) (re : Int32 → kbM → Option kbM) (a : Int32) : f_MD_readNot n re a μ = some μ := by
  have h1 : lp_MD_readNot_2 n re a n 0 μ = some (nI 0, μ) := by
    have e : ∀ k, lp_MD_readNot_2 n re a (k + 1) 0 μ = some (nI 0, μ) := fun k => by
      simp only [lp_MD_readNot_2]
      rw [h.is (by omega), kn_bs, if_pos rfl]
      rfl
    obtain ⟨k, hk⟩ : ∃ z, n = z + 1 := ⟨n - 1, by omega⟩
    rw [show lp_MD_readNot_2 n re a n 0 μ = lp_MD_readNot_2 n re a (k + 1) 0 μ by rw [← hk]]
    exact e k
  unfold f_MD_readNot
  rw [h1, kn_bs]
  exact h.no' hn (m := 0) (by decide) re a
theorem mFf.an {n : Nat} (hn : 1000 ≤ n) {μ0 μ : kbM} {f q : Nat} (h : mFf μ0 μ f q) (re : Int32 → kbM → Option kbM) (a : Int32) : f_MD_readAnd n re a μ = some μ := by
  unfold f_MD_readAnd
  rw [h.no hn, kn_bs]
  obtain ⟨k, hk⟩ : ∃ z, n = z + 1 := ⟨n - 1, by omega⟩
  rw [show lp_MD_readAnd_5 n re a n μ = lp_MD_readAnd_5 n re a (k + 1) μ by rw [← hk], h.al hn, kn_bs]
theorem mFf.e62 {n : Nat} (hn : 1000 ≤ n) {μ0 μ : kbM} {f q : Nat} (h : mFf μ0 μ f q) (re : Int32 → kbM → Option kbM) (a : Int32) : jn_MD_readExpression_62 n re a μ = some μ := by
  unfold jn_MD_readExpression_62
  rw [h.an hn, kn_bs]
  obtain ⟨k, hk⟩ : ∃ z, n = z + 1 := ⟨n - 1, by omega⟩
  rw [show lp_MD_readExpression_67 n re a n μ = lp_MD_readExpression_67 n re a (k + 1) μ by rw [← hk], h.el hn, kn_bs]
theorem mFf.ex {n : Nat} {μ0 μ : kbM} {f q : Nat} (h : mFf μ0 μ f q) (re : Int32 → kbM → Option kbM) (a : Int32) : f_MD_readExpression n re a μ = some μ := by
  unfold f_MD_readExpression
  rw [if_neg h.ne]
theorem m_pr {n : Nat} (hn : 1000 ≤ n) {μ0 : kbM} {x : pX} {re : Int32 → kbM → Option kbM} {a : Int32} {pre : pS → pR} {B : Nat} (hB : B < 64) (hre : mPp μ0 x (re (a + 1)) pre) (hg : gd x B pre) : mPp μ0 x (f_MD_readProduct n re a) (pPr x pre) := by
  have ho' := m_op hn hre hg
  have L : mPp μ0 x (lp_MD_readProduct_5 n re a n) (pLp x pT1 (pOp x pre) 600) := by
    refine m_lp hn tst1 ho' (gd_op hB hg) (fun k μ f q h => h.pl re a k) (fun k μ s hs ho h => ?_) (fun k μ s c hs ho h => ?_)
    · unfold pT1 at h
      simp only [lp_MD_readProduct_5]
      rw [show (42 : Int32) = nI 42 from rfl, show (47 : Int32) = nI 47 from rfl, m_marked hs ho (by decide) (by decide), kn_bs]
      by_cases h1 : s.1.1 = 42
      · rw [if_pos h1] at h; cases h
      · by_cases h2 : s.1.1 = 47
        · rw [if_neg h1, if_pos h2] at h; cases h
        · rw [beq_eq_false_iff_ne.mpr h1, if_pos zF0, m_marked hs ho (by decide) (by decide), kn_bs, beq_eq_false_iff_ne.mpr h2, if_pos zF0]
    · unfold pT1 at h
      simp only [lp_MD_readProduct_5]
      unfold jn_MD_readProduct_23 jn_MD_readProduct_39
      rw [show (42 : Int32) = nI 42 from rfl, show (47 : Int32) = nI 47 from rfl, m_marked hs ho (by decide) (by decide), kn_bs, kn_bs]
      by_cases h1 : s.1.1 = 42
      · rw [if_pos h1] at h
        cases h
        rw [h1, beq_self_eq_true, if_neg zT0, if_neg zT0]
        rfl
      · rw [if_neg h1] at h
        by_cases h2 : s.1.1 = 47
        · rw [if_pos h2] at h
          cases h
          rw [beq_eq_false_iff_ne.mpr h1, if_pos zF0, if_pos zF0, m_marked hs ho (by decide) (by decide), kn_bs, h2, beq_self_eq_true, if_neg zT0]
          rfl
        · rw [if_neg h2] at h; cases h
  have R := ho'.bind (gd_op hB hg).tk1 L
  refine ⟨fun μ s hs ho => ?_, fun μ f q h => h.pr hn re a⟩
  obtain ⟨μ', e, r⟩ := R.1 μ s hs ho
  refine ⟨μ', ?_, r⟩
  rw [← e]
  unfold f_MD_readProduct
  simp only [bnd_s]
theorem m_su {n : Nat} (hn : 1000 ≤ n) {μ0 : kbM} {x : pX} {re : Int32 → kbM → Option kbM} {a : Int32} {pre : pS → pR} {B : Nat} (hB : B + 1 < 64) (hre : mPp μ0 x (re (a + 1)) pre) (hg : gd x (B + 1) pre) : mPp μ0 x (f_MD_readSum n re a) (pSu x pre) := by
  have ho' := m_pr hn hB hre hg
  have G := gd_pr hB hg
  have L : mPp μ0 x (lp_MD_readSum_5 n re a n) (pLp x pT2 (pPr x pre) 600) := by
    refine m_lp hn tst2 ho' G (fun k μ f q h => h.sl re a k) (fun k μ s hs ho h => ?_) (fun k μ s c hs ho h => ?_)
    · unfold pT2 at h
      simp only [lp_MD_readSum_5]
      rw [show (43 : Int32) = nI 43 from rfl, show (45 : Int32) = nI 45 from rfl, m_marked hs ho (by decide) (by decide), kn_bs]
      by_cases h1 : s.1.1 = 43
      · rw [if_pos h1] at h; cases h
      · by_cases h2 : s.1.1 = 45
        · rw [if_neg h1, if_pos h2] at h; cases h
        · rw [beq_eq_false_iff_ne.mpr h1, if_pos zF0, m_marked hs ho (by decide) (by decide), kn_bs, beq_eq_false_iff_ne.mpr h2, if_pos zF0]
    · unfold pT2 at h
      simp only [lp_MD_readSum_5]
      unfold jn_MD_readSum_23 jn_MD_readSum_39
      rw [show (43 : Int32) = nI 43 from rfl, show (45 : Int32) = nI 45 from rfl, m_marked hs ho (by decide) (by decide), kn_bs, kn_bs]
      by_cases h1 : s.1.1 = 43
      · rw [if_pos h1] at h
        cases h
        rw [h1, beq_self_eq_true, if_neg zT0, if_neg zT0]
        rfl
      · rw [if_neg h1] at h
        by_cases h2 : s.1.1 = 45
        · rw [if_pos h2] at h
          cases h
          rw [beq_eq_false_iff_ne.mpr h1, if_pos zF0, if_pos zF0, m_marked hs ho (by decide) (by decide), kn_bs, h2, beq_self_eq_true, if_neg zT0]
          rfl
        · rw [if_neg h2] at h; cases h
  have R := ho'.bind G.tk1 L
  refine ⟨fun μ s hs ho => ?_, fun μ f q h => h.su hn re a⟩
  obtain ⟨μ', e, r⟩ := R.1 μ s hs ho
  refine ⟨μ', ?_, r⟩
  rw [← e]
  unfold f_MD_readSum
  simp only [bnd_s]
theorem m_ems {n : Nat} {μ0 : kbM} {x : pX} (re : Int32 → kbM → Option kbM) {m : Nat} (hm : m ≤ 6) : ∀ j i k μ s, i + j = m → j < k → mSs μ0 μ x s → s.2.1.length + j ≤ 600 → ∃ μ', lp_MD_readNot_96 n re (nI m) k (nI i) μ = some μ' ∧ mSs μ0 μ' x (pEms (-7) j s) := by
  intro j
  induction j with
  | zero =>
    intro i k μ s h1 h2 hs hl
    obtain ⟨k, rfl⟩ : ∃ z, k = z + 1 := ⟨k - 1, by omega⟩
    refine ⟨μ, ?_, hs⟩
    simp only [lp_MD_readNot_96]
    rw [if_pos (by rw [nI_leI (by omega) (by omega)]; omega)]
  | succ j ih =>
    intro i k μ s h1 h2 hs hl
    obtain ⟨k, rfl⟩ : ∃ z, k = z + 1 := ⟨k - 1, by omega⟩
    obtain ⟨μ1, e1, r1⟩ := m_lay hs (by omega) (-7)
    obtain ⟨μ2, e2, r2⟩ := ih (i + 1) k μ1 _ (by omega) (by omega) r1 (by show (s.2.1 ++ [-7]).length + j ≤ 600; rw [List.length_append]; show s.2.1.length + 1 + j ≤ 600; omega)
    refine ⟨μ2, ?_, r2⟩
    simp only [lp_MD_readNot_96]
    rw [if_neg (by rw [nI_leI (by omega) (by omega)]; omega), show (-28 : Int32) = kI (zTrI (-7)) from rfl, e1, kn_bs, nI_1, e2]
/-- the model's count of nots: the seventh is a fault -/
theorem m_nots {n : Nat} (hn : 1000 ≤ n) {μ0 : kbM} {x : pX} (re : Int32 → kbM → Option kbM) (a : Int32) : ∀ j i k μ s, i + j = 6 → j + 1 < k → mSs μ0 μ x s → tOk1 x s → (pNm x 29 (pNt x j s).2 = false → ∃ μ', lp_MD_readNot_2 n re a k (nI i) μ = some (nI (i + (pNt x j s).1), μ') ∧ mSs μ0 μ' x (pNt x j s).2) ∧ (pNm x 29 (pNt x j s).2 = true → ∃ μ', lp_MD_readNot_2 n re a k (nI i) μ = some (nI 7, μ') ∧ mFf μ0 μ' 2 (pNt x j s).2.1.2.1) := by
  intro j
  induction j with
  | zero =>
    intro i k μ s h1 h2 hs ho
    obtain ⟨k, rfl⟩ : ∃ z, k = z + 1 + 1 := ⟨k - 2, by omega⟩
    obtain rfl : i = 6 := by omega
    refine ⟨fun hb => ⟨μ, ?_, hs⟩, fun hb => ?_⟩
    · have hb' : pNm x 29 s = false := hb
      simp only [lp_MD_readNot_2]
      rw [m_is (by omega) hs ho.1 (by decide), kn_bs, hb', if_pos zF0]
      rfl
    · have hb' : pNm x 29 s = true := hb
      obtain ⟨μ1, e1, r1⟩ := m_wrong hs (c := 2) (by decide) (by decide)
      refine ⟨μ1, ?_, r1⟩
      rw [lp_MD_readNot_2]
      unfold jn_MD_readNot_23
      rw [m_is (by omega) hs ho.1 (by decide), kn_bs, hb', if_neg zT0, kl_6, if_pos rfl, kl_2, e1, kn_bs, if_neg r1.ne]
      simp only [lp_MD_readNot_2]
      rw [r1.is (by omega), kn_bs, if_pos rfl]
      rfl
  | succ j ih =>
    intro i k μ s h1 h2 hs ho
    obtain ⟨k, rfl⟩ : ∃ z, k = z + 1 := ⟨k - 1, by omega⟩
    simp only [lp_MD_readNot_2, pNt]
    unfold jn_MD_readNot_23
    rw [m_is (by omega) hs ho.1 (by decide), kn_bs]
    cases hb : pNm x 29 s
    · rw [if_pos zF0, if_neg Bool.false_ne_true]
      refine ⟨fun _ => ⟨μ, rfl, hs⟩, fun h => ?_⟩
      rw [hb] at h
      cases h
    · rw [if_neg zT0, if_pos rfl]
      obtain ⟨μ1, e1, r1⟩ := m_adv hn hs ho.1.1 ho.1.2.1.2.1
      obtain ⟨I1, I2⟩ := ih (i + 1) k μ1 _ (by omega) (by omega) r1 (pAdv_tok1 ho)
      rw [kl_6, if_neg (by rw [nI_eq (by omega) (by decide)]; omega), if_pos hs.2.1, e1, kn_bs, nI_1]
      refine ⟨fun h => ?_, I2⟩
      obtain ⟨μ2, e2, r2⟩ := I1 h
      refine ⟨μ2, ?_, r2⟩
      rw [e2]
      congr 3
      omega
