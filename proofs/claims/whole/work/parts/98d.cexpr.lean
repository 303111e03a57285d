/-! the class reads an expression -/
theorem bnd_s {α : Type} (o : Option α) : (o.bind fun z => some z) = o := by cases o <;> rfl
theorem bnd_p {α β : Type} (o : Option (α × β)) : (o.bind fun z => some (z.1, z.2)) = o := by cases o <;> rfl
theorem c_adv {n : Nat} (hn : 1000 ≤ n) {x : pX} {μ : kbM} {s : pS} (hs : cS μ x s) (hx : xOk x) (he : s.1.2.2 ≤ x.2) : ∃ μ', f_BT_advance n μ = some μ' ∧ cS μ' x (pAdv x s) := by
  obtain ⟨⟨k1, k2, k3, k4, k5, k6, k7⟩, hO⟩ := hs
  obtain ⟨μ', e, sm1, a, b, c⟩ := bt_adv hn hx k1 he k7 k3
  exact ⟨μ', e, ⟨k1.sm (sm1.up (by decide)), by rw [sm1.2 4 (by decide)]; exact k2, by rw [sm1.2 10 (by decide)]; exact k3, by rw [sm1.2 11 (by decide)]; exact k4, a, b, c⟩, hO.sm (sm1.up (by decide))⟩
theorem c_kind {x : pX} {μ : kbM} {s : pS} (hs : cS μ x s) (ho : tOk' x s) {c : Nat} (hc : c < 256) : (μ.1 1 7 = nI c) = (s.1.1 = c) := by
  have := (kOk.lt ho.2.1).1
  rw [hs.1.2.2.2.2.1]
  exact propext (nI_eq (by omega) (by omega))
theorem c_sign {n : Nat} (hn : 1000 ≤ n) (x : pX) {c : Nat} (hc : c < 256) (h4 : c ≠ 4) : cPp x (f_BT_passSign n (nI c)) (pSign x c) := by
  constructor
  · intro μ s hs ho
    unfold f_BT_passSign jn_BT_passSign_14 pSign
    by_cases h : s.1.1 = c
    · obtain ⟨μ', e, r⟩ := c_adv hn hs ho.1 ho.2.1.2.1
      rw [if_pos (by rw [c_kind hs ho hc]; exact h), if_pos h, bnd_s]
      exact ⟨μ', e, r⟩
    · obtain ⟨μ', e, r⟩ := c_fail hs (c := 1) (by decide) (by decide)
      rw [if_neg (by rw [c_kind hs ho hc]; exact h), if_neg h, show (1 : Int32) = nI 1 from rfl, e, kn_bs, bnd_s]
      exact ⟨μ', r.adv, r⟩
  · intro μ f q h
    exact h.sign (by rw [kl_4, nI_eq (by decide) (by omega)]; omega)
theorem c_val {n : Nat} (hn : 100 ≤ n) {x : pX} {μ : kbM} {s : pS} (hs : cS μ x s) (ho : tOk' x s) : f_BT_valueNamed n μ = match pVal x s with | some i => some (kI (-1 - (i : Int)), μ) | none => f_BT_fail 3 μ := by
  have e : pVal x s = if pNm x 7 s = true then some 0 else if pNm x 8 s = true then some 1 else if pNm x 9 s = true then some 2 else if pNm x 10 s = true then some 3 else if pNm x 11 s = true then some 4 else if pNm x 12 s = true then some 5 else none := rfl
  rw [e]
  unfold f_BT_valueNamed jn_BT_valueNamed_78
  simp only [c_named hn hs ho (sid := 7) (by decide), c_named hn hs ho (sid := 8) (by decide), c_named hn hs ho (sid := 9) (by decide), c_named hn hs ho (sid := 10) (by decide), c_named hn hs ho (sid := 11) (by decide), c_named hn hs ho (sid := 12) (by decide), kn_bs]
  generalize pNm x 7 s = b1
  generalize pNm x 8 s = b2
  generalize pNm x 9 s = b3
  generalize pNm x 10 s = b4
  generalize pNm x 11 s = b5
  generalize pNm x 12 s = b6
  first | rw [bnd_p] | rw [bnd_s]
  cases b1
  · cases b2
    · cases b3
      · cases b4
        · cases b5
          · cases b6 <;> rfl
          · rfl
        · rfl
      · rfl
    · rfl
  · rfl
theorem cF.op {n : Nat} {μ : kbM} {f q : Nat} (h : cF μ f q) (re : Int32 → kbM → Option kbM) (a : Int32) : f_BT_operand n re a μ = some μ := by
  unfold f_BT_operand jn_BT_operand_81
  rw [h.2.1, if_neg (by decide), if_neg (by decide), if_neg (by decide), h.fail, kn_bs]
theorem c_op {n : Nat} (hn : 1000 ≤ n) {x : pX} {re : Int32 → kbM → Option kbM} {a : Int32} {pre : pS → pR} {B : Nat} (hre : cPp x (re (a + 1)) pre) (hg : gd x B pre) : cPp x (f_BT_operand n re a) (pOp x pre) := by
  constructor
  · intro μ s hs ho
    have hx6 := ho.1.1
    have c0 := ho.2.2
    have t2 := ho.2.1.2.1
    unfold f_BT_operand jn_BT_operand_81 pOp
    by_cases h2 : s.1.1 = 2
    · rw [kl_2, if_pos (by rw [c_kind hs ho (by decide)]; exact h2), if_pos h2]
      have r := tReal ho (by omega)
      by_cases h4 : s.1.2.2 - s.1.2.1 ≤ 4
      · obtain ⟨μ1, e1, r1⟩ := c_emit hs (by omega) (pNum x s.1.2.1 s.1.2.2 : Nat)
        obtain ⟨μ2, e2, r2⟩ := c_adv hn r1 ho.1 t2
        rw [c_num (by omega) hs ho h2 h4, kn_bs, if_pos h4]
        show ∃ μ', ((f_BT_emit (kI (pNum x s.1.2.1 s.1.2.2 : Nat)) μ).bind _) = some μ' ∧ _
        rw [e1, kn_bs, bnd_s]
        exact ⟨μ2, e2, r2⟩
      · obtain ⟨μ1, e1, r1⟩ := c_fail hs (c := 2) (by decide) (by decide)
        unfold f_BT_numberTold
        rw [hs.1.2.2.2.2.2.1, hs.1.2.2.2.2.2.2, pk_sub ho.2.1.1, kl_4, if_neg (by rw [nI_leI (by omega) (by decide)]; exact h4), bnd_p, if_neg h4, kl_2, e1, kn_bs]
        show ∃ μ', ((f_BT_emit 0 μ1).bind _) = some μ' ∧ _
        rw [r1.emit, kn_bs, bnd_s]
        exact ⟨μ1, r1.adv, r1⟩
    · rw [kl_2, if_neg (by rw [c_kind hs ho (by decide)]; exact h2), if_neg h2]
      by_cases h1 : s.1.1 = 1
      · rw [kn_1, if_pos (by rw [c_kind hs ho (by decide)]; exact h1), if_pos h1, c_val (by omega) hs ho]
        have r := tReal ho (by omega)
        cases hv : pVal x s with
        | some i =>
          obtain ⟨μ1, e1, r1⟩ := c_emit hs (by omega) (-1 - (i : Int))
          obtain ⟨μ2, e2, r2⟩ := c_adv hn r1 ho.1 t2
          show ∃ μ', ((f_BT_emit (kI (-1 - (i : Int))) μ).bind _) = some μ' ∧ _
          rw [e1, kn_bs, bnd_s]
          exact ⟨μ2, e2, r2⟩
        | none =>
          obtain ⟨μ1, e1, r1⟩ := c_fail hs (c := 3) (by decide) (by decide)
          show ∃ μ', ((f_BT_fail (nI 3) μ).bind _) = some μ' ∧ _
          rw [e1, kn_bs]
          show ∃ μ', ((f_BT_emit 0 μ1).bind _) = some μ' ∧ _
          rw [r1.emit, kn_bs, bnd_s]
          exact ⟨μ1, r1.adv, r1⟩
      · rw [kn_1, if_neg (by rw [c_kind hs ho (by decide)]; exact h1), if_neg h1, show (40 : Int32) = nI 40 from rfl]
        by_cases h40 : s.1.1 = 40
        · rw [if_pos (by rw [c_kind hs ho (by decide)]; exact h40), if_pos h40]
          obtain ⟨μ1, e1, r1⟩ := c_adv hn hs ho.1 t2
          obtain ⟨μ2, e2, r2⟩ := (hre.bind hg.tk (c_sign hn x (c := 41) (by decide) (by decide))).1 μ1 _ r1 (pAdv_tok ho).1
          rw [e1, kn_bs]
          refine ⟨μ2, ?_, r2⟩
          rw [← e2]
          simp only [bnd_s]
          rfl
        · obtain ⟨μ1, e1, r1⟩ := c_fail hs (c := 1) (by decide) (by decide)
          rw [if_neg (by rw [c_kind hs ho (by decide)]; exact h40), if_neg h40, e1, kn_bs]
          exact ⟨μ1, rfl, r1⟩
  · intro μ f q h; exact h.op re a
/-- one turn of a loop behind an expression -/
theorem c_step {n : Nat} (hn : 1000 ≤ n) {x : pX} {g : kbM → Option kbM} {q : pS → pR} {B : Nat} (hg : cPp x g q) (hq : gd x B q) {μ : kbM} {s : pS} (hs : cS μ x s) (ho : tOk' x s) (h0 : s.1.1 ≠ 0) (c : Int) : ∃ μ', ((f_BT_advance n μ).bind fun a => (g a).bind fun b => f_BT_emit (kI c) b) = some μ' ∧ cR μ' x (pB (q (pAdv x s)) fun s' => .inr (pEm c s')) ∧ ∀ s', q (pAdv x s) = .inr s' → tOk' x (pEm c s') := by
  obtain ⟨μ1, e1, r1⟩ := c_adv hn hs ho.1 ho.2.1.2.1
  obtain ⟨a1, a2⟩ := pAdv_tok ho
  obtain ⟨μ2, e2, r2⟩ := hg.1 μ1 _ r1 a1
  have r := tReal ho h0
  have hx6 := ho.1.1
  rw [e1, kn_bs, e2, kn_bs]
  cases hp : q (pAdv x s) with
  | inl z =>
    rw [hp] at r2
    exact ⟨μ2, r2.emit _, r2, (fun s' e => by cases e)⟩
  | inr s1 =>
    rw [hp] at r2
    obtain ⟨q1, q2, X, q3, q4, q5, q6⟩ := hq _ _ a1 hp
    have l1 : s1.2.1.length = s.2.1.length + X.length := by rw [q3, List.length_append]; rfl
    have c0 := ho.2.2
    have t1 := q1.1
    have t2 := q1.2.1
    obtain ⟨μ3, e3, r3⟩ := c_emit r2 (by omega) c
    refine ⟨μ3, e3, r3, fun s' e => ?_⟩
    cases e
    refine ⟨ho.1, q1, ?_⟩
    show (s1.2.1 ++ [c]).length ≤ s1.1.2.1
    rw [List.length_append]
    show s1.2.1.length + 1 ≤ _
    omega
theorem c_lp {n : Nat} (hn : 1000 ≤ n) {x : pX} {lp : Nat → Int32 → kbM → Option kbM} {test : pS → Option Int} {g : kbM → Option kbM} {q : pS → pR} {B : Nat} (ht : tst test) (hg : cPp x g q) (hq : gd x B q)
    (hend : ∀ k μ, lp (k + 1) (nI 600) μ = some μ)
    (hf : ∀ k i μ f q, cF μ f q → lp (k + 1) (nI i) μ = some μ)
    (hno : ∀ k i μ s, i < 600 → cS μ x s → tOk' x s → test s = none → lp (k + 1) (nI i) μ = some μ)
    (hst : ∀ k i μ s c, i < 600 → cS μ x s → tOk' x s → test s = some c → lp (k + 1) (nI i) μ = (f_BT_advance n μ).bind fun a => (g a).bind fun b => (f_BT_emit (kI c) b).bind fun d => lp k (nI (i + 1)) d) :
    ∀ j i k, i + j = 600 → j < k → cPp x (lp k (nI i)) (pLp x test q j) := by
  intro j
  induction j with
  | zero =>
    intro i k h1 h2
    obtain ⟨k, rfl⟩ : ∃ z, k = z + 1 := ⟨k - 1, by omega⟩
    obtain rfl : i = 600 := by omega
    exact ⟨fun μ s hs ho => ⟨μ, hend k μ, hs⟩, fun μ f q h => hf k 600 μ f q h⟩
  | succ j ih =>
    intro i k h1 h2
    obtain ⟨k, rfl⟩ : ∃ z, k = z + 1 := ⟨k - 1, by omega⟩
    refine ⟨fun μ s hs ho => ?_, fun μ f q h => hf k i μ f q h⟩
    simp only [pLp]
    cases hc : test s with
    | none => exact ⟨μ, hno k i μ s (by omega) hs ho hc, hs⟩
    | some c =>
      obtain ⟨μ1, e1, r1, o1⟩ := c_step hn hg hq hs ho (ht s c hc).1 c
      have e : lp (k + 1) (nI i) μ = ((f_BT_advance n μ).bind fun a => (g a).bind fun b => f_BT_emit (kI c) b).bind (lp k (nI (i + 1))) := by
        rw [hst k i μ s c (by omega) hs ho hc]
        simp only [Option.bind_assoc]
      rw [e, e1, kn_bs]
      have I := ih (i + 1) k (by omega) (by omega)
      cases hp : q (pAdv x s) with
      | inl z =>
        rw [hp] at r1
        exact ⟨μ1, I.2 μ1 _ _ r1, r1⟩
      | inr s1 =>
        rw [hp] at r1
        exact I.1 μ1 _ r1 (o1 s1 hp)
theorem cF.pl {n : Nat} {μ : kbM} {f q : Nat} (h : cF μ f q) (re : Int32 → kbM → Option kbM) (a v : Int32) (k : Nat) : lp_BT_product_7 n re a (k + 1) v μ = some μ := by
  simp only [lp_BT_product_7]
  rw [h.2.1, if_neg (show ¬ (4 : Int32) = 42 by decide), if_neg (show ¬ (4 : Int32) = 47 by decide)]
  split <;> rfl
theorem cF.sl {n : Nat} {μ : kbM} {f q : Nat} (h : cF μ f q) (re : Int32 → kbM → Option kbM) (a v : Int32) (k : Nat) : lp_BT_sum_7 n re a (k + 1) v μ = some μ := by
  simp only [lp_BT_sum_7]
  rw [h.2.1, if_neg (show ¬ (4 : Int32) = 43 by decide), if_neg (show ¬ (4 : Int32) = 45 by decide)]
  split <;> rfl
theorem cF.jl {n : Nat} {μ : kbM} {f q : Nat} (h : cF μ f q) (re : Int32 → kbM → Option kbM) (a v : Int32) (k : Nat) : lp_BT_conjunction_7 n re a (k + 1) v μ = some μ := by
  simp only [lp_BT_conjunction_7]
  rw [h.named, kn_bs, if_pos rfl]
  split <;> rfl
theorem cF.el {n : Nat} {μ : kbM} {f q : Nat} (h : cF μ f q) (re : Int32 → kbM → Option kbM) (a v : Int32) (k : Nat) : lp_BT_expr_44 n re a (k + 1) v μ = some μ := by
  simp only [lp_BT_expr_44]
  rw [h.named, kn_bs, if_pos rfl]
  split <;> rfl
theorem cF.pr {n : Nat} (hn : 1000 ≤ n) {μ : kbM} {f q : Nat} (h : cF μ f q) (re : Int32 → kbM → Option kbM) (a : Int32) : f_BT_product n re a μ = some μ := by
  obtain ⟨n, rfl⟩ : ∃ z, n = z + 1 := ⟨n - 1, by omega⟩
  unfold f_BT_product jn_BT_product_69
  rw [h.op, kn_bs, h.pl, kn_bs]
theorem cF.su {n : Nat} (hn : 1000 ≤ n) {μ : kbM} {f q : Nat} (h : cF μ f q) (re : Int32 → kbM → Option kbM) (a : Int32) : f_BT_sum n re a μ = some μ := by
  unfold f_BT_sum jn_BT_sum_69
  rw [h.pr hn, kn_bs]
  obtain ⟨n, rfl⟩ : ∃ z, n = z + 1 := ⟨n - 1, by omega⟩
  rw [h.sl, kn_bs]
theorem cF.cm {n : Nat} (hn : 1000 ≤ n) {μ : kbM} {f q : Nat} (h : cF μ f q) (re : Int32 → kbM → Option kbM) (a : Int32) : f_BT_comparison n re a μ = some μ := by
  unfold f_BT_comparison jn_BT_comparison_54
  rw [h.su hn, kn_bs, h.2.1, if_neg (by decide), if_neg (by decide)]
theorem cF.no {n : Nat} (hn : 1000 ≤ n) {μ : kbM} {f q : Nat} (h : cF μ f q) (re : Int32 → kbM → Option kbM) (a : Int32) : f_BT_negation n re a μ = some μ := by
  have h1 : lp_BT_negation_2 n re a n 0 μ = some (0, μ) := by
    have e : ∀ k, lp_BT_negation_2 n re a (k + 1) 0 μ = some (0, μ) := fun k => by
      simp only [lp_BT_negation_2]
      rw [if_neg (by decide), h.named, kn_bs, if_pos rfl]
    obtain ⟨k, hk⟩ : ∃ z, n = z + 1 := ⟨n - 1, by omega⟩
    rw [show lp_BT_negation_2 n re a n 0 μ = lp_BT_negation_2 n re a (k + 1) 0 μ by rw [← hk]]
    exact e k
  have h2 : lp_BT_negation_49 n re 0 n 0 μ = some μ := by
    have e : ∀ k, lp_BT_negation_49 n re 0 (k + 1) 0 μ = some μ := fun k => by
      simp only [lp_BT_negation_49]
      rw [if_pos (by decide)]
    obtain ⟨k, hk⟩ : ∃ z, n = z + 1 := ⟨n - 1, by omega⟩
    rw [show lp_BT_negation_49 n re 0 n 0 μ = lp_BT_negation_49 n re 0 (k + 1) 0 μ by rw [← hk]]
    exact e k
  unfold f_BT_negation jn_BT_negation_27 jn_BT_negation_42
  rw [h1, kn_bs]
  show (f_BT_isNamed n 29 μ).bind _ = _
  rw [h.named, kn_bs, if_pos rfl]
  show (f_BT_comparison n re a μ).bind _ = _
  rw [h.cm hn, kn_bs, h2, kn_bs]
theorem cF.cj {n : Nat} (hn : 1000 ≤ n) {μ : kbM} {f q : Nat} (h : cF μ f q) (re : Int32 → kbM → Option kbM) (a : Int32) : f_BT_conjunction n re a μ = some μ := by
  unfold f_BT_conjunction jn_BT_conjunction_44
  rw [h.no hn, kn_bs]
  obtain ⟨n, rfl⟩ : ∃ z, n = z + 1 := ⟨n - 1, by omega⟩
  rw [h.jl, kn_bs]
theorem cF.e37 {n : Nat} (hn : 1000 ≤ n) {μ : kbM} {f q : Nat} (h : cF μ f q) (re : Int32 → kbM → Option kbM) (a : Int32) : jn_BT_expr_37 n re a μ = some μ := by
  unfold jn_BT_expr_37 jn_BT_expr_81
  rw [h.cj hn, kn_bs]
  obtain ⟨n, rfl⟩ : ∃ z, n = z + 1 := ⟨n - 1, by omega⟩
  rw [h.el, kn_bs]
theorem cF.ex {n : Nat} (hn : 1000 ≤ n) {μ : kbM} {f q : Nat} (h : cF μ f q) (re : Int32 → kbM → Option kbM) (a : Int32) : f_BT_expr n re a μ = some μ := by
  unfold f_BT_expr
  rw [h.2.1, if_neg (show ¬ (4 : Int32) = 2 by decide), if_neg (show ¬ (4 : Int32) = 1 by decide), if_neg (show ¬ (4 : Int32) = 40 by decide), h.e37 hn]
  split <;> rfl
theorem c_pr {n : Nat} (hn : 1000 ≤ n) {x : pX} {re : Int32 → kbM → Option kbM} {a : Int32} {pre : pS → pR} {B : Nat} (hB : B < 64) (hre : cPp x (re (a + 1)) pre) (hg : gd x B pre) : cPp x (f_BT_product n re a) (pPr x pre) := by
  have ho' := c_op hn hre hg
  have L : cPp x (lp_BT_product_7 n re a n (nI 0)) (pLp x pT1 (pOp x pre) 600) := by
    refine c_lp hn tst1 ho' (gd_op hB hg) (fun k μ => ?_) (fun k i μ f q h => h.pl re a _ k) (fun k i μ s hi hs ho h => ?_) (fun k i μ s c hi hs ho h => ?_) 600 0 n (by omega) (by omega)
    · simp only [lp_BT_product_7]; rw [if_pos (by decide)]
    · unfold pT1 at h
      simp only [lp_BT_product_7]
      by_cases h1 : s.1.1 = 42
      · rw [if_pos h1] at h; cases h
      · by_cases h2 : s.1.1 = 47
        · rw [if_neg h1, if_pos h2] at h; cases h
        · rw [show (42 : Int32) = nI 42 from rfl, show (47 : Int32) = nI 47 from rfl, if_neg (show ¬ μ.1 1 7 = nI 42 by rw [c_kind hs ho (by decide)]; exact h1), if_neg (show ¬ μ.1 1 7 = nI 47 by rw [c_kind hs ho (by decide)]; exact h2)]
          split <;> rfl
    · unfold pT1 at h
      simp only [lp_BT_product_7]
      unfold jn_BT_product_32 jn_BT_product_48
      rw [show (600 : Int32) = nI 600 from rfl, if_neg (show ¬ nI 600 ≤ nI i by rw [nI_leI (by decide) (by omega)]; omega), show (42 : Int32) = nI 42 from rfl, show (47 : Int32) = nI 47 from rfl, nI_1]
      by_cases h1 : s.1.1 = 42
      · rw [if_pos h1] at h
        cases h
        rw [if_pos (show μ.1 1 7 = nI 42 by rw [c_kind hs ho (by decide)]; exact h1), if_pos (show μ.1 1 7 = nI 42 by rw [c_kind hs ho (by decide)]; exact h1)]
        rfl
      · rw [if_neg h1] at h
        by_cases h2 : s.1.1 = 47
        · rw [if_pos h2] at h
          cases h
          rw [if_neg (show ¬ μ.1 1 7 = nI 42 by rw [c_kind hs ho (by decide)]; exact h1), if_pos (show μ.1 1 7 = nI 47 by rw [c_kind hs ho (by decide)]; exact h2), if_neg (show ¬ μ.1 1 7 = nI 42 by rw [c_kind hs ho (by decide)]; exact h1)]
          rfl
        · rw [if_neg h2] at h; cases h
  have R := ho'.bind (gd_op hB hg).tk L
  refine ⟨fun μ s hs ho => ?_, fun μ f q h => h.pr hn re a⟩
  obtain ⟨μ', e, r⟩ := R.1 μ s hs ho
  refine ⟨μ', ?_, r⟩
  rw [← e]
  unfold f_BT_product jn_BT_product_69
  simp only [bnd_s]
  rfl
theorem c_su {n : Nat} (hn : 1000 ≤ n) {x : pX} {re : Int32 → kbM → Option kbM} {a : Int32} {pre : pS → pR} {B : Nat} (hB : B + 1 < 64) (hre : cPp x (re (a + 1)) pre) (hg : gd x (B + 1) pre) : cPp x (f_BT_sum n re a) (pSu x pre) := by
  have ho' := c_pr hn hB hre hg
  have G := gd_pr hB hg
  have L : cPp x (lp_BT_sum_7 n re a n (nI 0)) (pLp x pT2 (pPr x pre) 600) := by
    refine c_lp hn tst2 ho' G (fun k μ => ?_) (fun k i μ f q h => h.sl re a _ k) (fun k i μ s hi hs ho h => ?_) (fun k i μ s c hi hs ho h => ?_) 600 0 n (by omega) (by omega)
    · simp only [lp_BT_sum_7]; rw [if_pos (by decide)]
    · unfold pT2 at h
      simp only [lp_BT_sum_7]
      by_cases h1 : s.1.1 = 43
      · rw [if_pos h1] at h; cases h
      · by_cases h2 : s.1.1 = 45
        · rw [if_neg h1, if_pos h2] at h; cases h
        · rw [show (43 : Int32) = nI 43 from rfl, show (45 : Int32) = nI 45 from rfl, if_neg (show ¬ μ.1 1 7 = nI 43 by rw [c_kind hs ho (by decide)]; exact h1), if_neg (show ¬ μ.1 1 7 = nI 45 by rw [c_kind hs ho (by decide)]; exact h2)]
          split <;> rfl
    · unfold pT2 at h
      simp only [lp_BT_sum_7]
      unfold jn_BT_sum_32 jn_BT_sum_48
      rw [show (600 : Int32) = nI 600 from rfl, if_neg (show ¬ nI 600 ≤ nI i by rw [nI_leI (by decide) (by omega)]; omega), show (43 : Int32) = nI 43 from rfl, show (45 : Int32) = nI 45 from rfl, nI_1]
      by_cases h1 : s.1.1 = 43
      · rw [if_pos h1] at h
        cases h
        rw [if_pos (show μ.1 1 7 = nI 43 by rw [c_kind hs ho (by decide)]; exact h1), if_pos (show μ.1 1 7 = nI 43 by rw [c_kind hs ho (by decide)]; exact h1)]
        rfl
      · rw [if_neg h1] at h
        by_cases h2 : s.1.1 = 45
        · rw [if_pos h2] at h
          cases h
          rw [if_neg (show ¬ μ.1 1 7 = nI 43 by rw [c_kind hs ho (by decide)]; exact h1), if_pos (show μ.1 1 7 = nI 45 by rw [c_kind hs ho (by decide)]; exact h2), if_neg (show ¬ μ.1 1 7 = nI 43 by rw [c_kind hs ho (by decide)]; exact h1)]
          rfl
        · rw [if_neg h2] at h; cases h
  have R := ho'.bind G.tk L
  refine ⟨fun μ s hs ho => ?_, fun μ f q h => h.su hn re a⟩
  obtain ⟨μ', e, r⟩ := R.1 μ s hs ho
  refine ⟨μ', ?_, r⟩
  rw [← e]
  unfold f_BT_sum jn_BT_sum_69
  simp only [bnd_s]
  rfl
theorem c_cm {n : Nat} (hn : 1000 ≤ n) {x : pX} {re : Int32 → kbM → Option kbM} {a : Int32} {pre : pS → pR} {B : Nat} (hB : B + 2 < 64) (hre : cPp x (re (a + 1)) pre) (hg : gd x (B + 2) pre) : cPp x (f_BT_comparison n re a) (pCm x pre) := by
  have ho' := c_su hn hB hre hg
  have G := gd_su hB hg
  refine ⟨fun μ s hs ho => ?_, fun μ f q h => h.cm hn re a⟩
  obtain ⟨μ1, e1, r1⟩ := ho'.1 μ s hs ho
  unfold f_BT_comparison pCm jn_BT_comparison_23 jn_BT_comparison_39 jn_BT_comparison_54
  rw [e1, kn_bs]
  cases hp : pSu x pre s with
  | inl z =>
    rw [hp] at r1
    have r1' : cF μ1 z.1 z.2 := r1
    rw [r1'.2.1, if_neg (by decide), if_neg (by decide)]
    exact ⟨μ1, rfl, r1⟩
  | inr s1 =>
    rw [hp] at r1
    have o1 := G.tok ho hp
    show ∃ μ', _ ∧ cR μ' x (pLp x pT3 (pSu x pre) 1 s1)
    simp only [pLp]
    unfold pT3
    rw [show (60 : Int32) = nI 60 from rfl, show (61 : Int32) = nI 61 from rfl]
    by_cases h1 : s1.1.1 = 60
    · obtain ⟨μ2, e2, r2, _⟩ := c_step hn ho' G r1 o1 (by omega) (-10)
      rw [if_pos (show μ1.1 1 7 = nI 60 by rw [c_kind r1 o1 (by decide)]; exact h1), if_pos (show μ1.1 1 7 = nI 60 by rw [c_kind r1 o1 (by decide)]; exact h1), if_pos h1]
      refine ⟨μ2, ?_, r2⟩
      rw [← e2]
      simp only [bnd_s]
      rfl
    · rw [if_neg (show ¬ μ1.1 1 7 = nI 60 by rw [c_kind r1 o1 (by decide)]; exact h1), if_neg h1]
      by_cases h2 : s1.1.1 = 61
      · obtain ⟨μ2, e2, r2, _⟩ := c_step hn ho' G r1 o1 (by omega) (-11)
        rw [if_pos (show μ1.1 1 7 = nI 61 by rw [c_kind r1 o1 (by decide)]; exact h2), if_neg (show ¬ μ1.1 1 7 = nI 60 by rw [c_kind r1 o1 (by decide)]; exact h1), if_pos h2]
        refine ⟨μ2, ?_, r2⟩
        rw [← e2]
        simp only [bnd_s]
        rfl
      · rw [if_neg (show ¬ μ1.1 1 7 = nI 61 by rw [c_kind r1 o1 (by decide)]; exact h2), if_neg h2]
        exact ⟨μ1, rfl, r1⟩
theorem c_nots {n : Nat} (hn : 1000 ≤ n) {x : pX} (re : Int32 → kbM → Option kbM) (a : Int32) : ∀ j i k μ s, i + j = 6 → j < k → cS μ x s → tOk' x s → ∃ μ', lp_BT_negation_2 n re a k (nI i) μ = some (nI (i + (pNt x j s).1), μ') ∧ cS μ' x (pNt x j s).2 := by
  intro j
  induction j with
  | zero =>
    intro i k μ s h1 h2 hs ho
    obtain ⟨k, rfl⟩ : ∃ z, k = z + 1 := ⟨k - 1, by omega⟩
    obtain rfl : i = 6 := by omega
    refine ⟨μ, ?_, hs⟩
    simp only [lp_BT_negation_2]
    rw [if_pos (by decide)]
    rfl
  | succ j ih =>
    intro i k μ s h1 h2 hs ho
    obtain ⟨k, rfl⟩ : ∃ z, k = z + 1 := ⟨k - 1, by omega⟩
    simp only [lp_BT_negation_2, pNt]
    rw [kl_6, if_neg (by rw [nI_leI (by decide) (by omega)]; omega), c_named (by omega) hs ho (by decide), kn_bs]
    cases hb : pNm x 29 s
    · rw [if_pos zF0, if_neg Bool.false_ne_true]
      exact ⟨μ, rfl, hs⟩
    · rw [if_neg zT0, if_pos rfl]
      obtain ⟨μ1, e1, r1⟩ := c_adv hn hs ho.1 ho.2.1.2.1
      obtain ⟨μ2, e2, r2⟩ := ih (i + 1) k μ1 _ (by omega) (by omega) r1 (pAdv_tok ho).1
      rw [e1, kn_bs, nI_1]
      refine ⟨μ2, ?_, r2⟩
      rw [e2]
      congr 3
      omega
theorem c_ems {n : Nat} {x : pX} (re : Int32 → kbM → Option kbM) {m : Nat} (hm : m ≤ 6) : ∀ j i k μ s, i + j = m → j < k → cS μ x s → s.2.1.length + j ≤ 600 → ∃ μ', lp_BT_negation_49 n re (nI m) k (nI i) μ = some μ' ∧ cS μ' x (pEms (-7) j s) := by
  intro j
  induction j with
  | zero =>
    intro i k μ s h1 h2 hs hl
    obtain ⟨k, rfl⟩ : ∃ z, k = z + 1 := ⟨k - 1, by omega⟩
    refine ⟨μ, ?_, hs⟩
    simp only [lp_BT_negation_49]
    rw [if_pos (by rw [nI_leI (by omega) (by omega)]; omega)]
  | succ j ih =>
    intro i k μ s h1 h2 hs hl
    obtain ⟨k, rfl⟩ : ∃ z, k = z + 1 := ⟨k - 1, by omega⟩
    obtain ⟨μ1, e1, r1⟩ := c_emit hs (by omega) (-7)
    obtain ⟨μ2, e2, r2⟩ := ih (i + 1) k μ1 _ (by omega) (by omega) r1 (by show (s.2.1 ++ [-7]).length + j ≤ 600; rw [List.length_append]; show s.2.1.length + 1 + j ≤ 600; omega)
    refine ⟨μ2, ?_, r2⟩
    simp only [lp_BT_negation_49]
    rw [if_neg (by rw [nI_leI (by omega) (by omega)]; omega), show (-7 : Int32) = kI (-7) from rfl, e1, kn_bs, nI_1, e2]
theorem cF.ems {n : Nat} (re : Int32 → kbM → Option kbM) {m : Nat} (hm : m ≤ 6) {μ : kbM} {f q : Nat} (h : cF μ f q) : ∀ j i k, i + j = m → j < k → lp_BT_negation_49 n re (nI m) k (nI i) μ = some μ := by
  intro j
  induction j with
  | zero =>
    intro i k h1 h2
    obtain ⟨k, rfl⟩ : ∃ z, k = z + 1 := ⟨k - 1, by omega⟩
    simp only [lp_BT_negation_49]
    rw [if_pos (by rw [nI_leI (by omega) (by omega)]; omega)]
  | succ j ih =>
    intro i k h1 h2
    obtain ⟨k, rfl⟩ : ∃ z, k = z + 1 := ⟨k - 1, by omega⟩
    simp only [lp_BT_negation_49]
    rw [if_neg (by rw [nI_leI (by omega) (by omega)]; omega), h.emit, kn_bs, nI_1]
    exact ih (i + 1) k (by omega) (by omega)
theorem c_no {n : Nat} (hn : 1000 ≤ n) {x : pX} {re : Int32 → kbM → Option kbM} {a : Int32} {pre : pS → pR} {B : Nat} (hB : B + 3 < 64) (hre : cPp x (re (a + 1)) pre) (hg : gd x (B + 3) pre) : cPp x (f_BT_negation n re a) (pNo x pre) := by
  have ho' := c_cm hn (B := B + 1) hB hre hg
  have G := gd_cm hB hg
  refine ⟨fun μ s hs ho => ?_, fun μ f q h => h.no hn re a⟩
  obtain ⟨μ1, e1, r1⟩ := c_nots hn re a 6 0 n μ s rfl (by omega) hs ho
  obtain ⟨b1, b2, b3, b4⟩ := pNt_ok 6 s ho
  have c0 := ho.2.2
  have hx6 := ho.1.1
  unfold f_BT_negation jn_BT_negation_27 jn_BT_negation_42 pNo
  rw [show lp_BT_negation_2 n re a n 0 μ = some (nI (pNt x 6 s).1, μ1) by rw [← Nat.zero_add (pNt x 6 s).1]; exact e1, kn_bs]
  generalize (pNt x 6 s).1 = m at b3 b4
  generalize (pNt x 6 s).2 = s1 at r1 b1 b2 b3
  show ∃ μ', ((f_BT_isNamed n 29 μ1).bind _) = some μ' ∧ _
  rw [c_named (by omega) r1 b1 (by decide), kn_bs]
  cases hb : pNm x 29 s1
  · rw [if_pos zF0, if_neg Bool.false_ne_true]
    obtain ⟨μ2, e2, r2⟩ := ho'.1 μ1 s1 r1 b1
    show ∃ μ', ((f_BT_comparison n re a μ1).bind _) = some μ' ∧ _
    rw [e2, kn_bs, bnd_s]
    cases hp : pCm x pre s1 with
    | inl z =>
      rw [hp] at r2
      exact ⟨μ2, cF.ems re b4 r2 m 0 n (by omega) (by omega), r2⟩
    | inr s2 =>
      rw [hp] at r2
      obtain ⟨q1, q2, X, q3, q4, q5, q6⟩ := G _ _ b1 hp
      have l1 : s2.2.1.length = s.2.1.length + X.length := by rw [q3, List.length_append, b2]
      have t1 := q1.1
      have t2 := q1.2.1
      exact c_ems re b4 m 0 n μ2 s2 (by omega) (by omega) r2 (by omega)
  · rw [if_neg zT0, if_pos rfl]
    obtain ⟨μ2, e2, r2⟩ := c_fail r1 (c := 2) (by decide) (by decide)
    rw [kl_2, e2, kn_bs]
    show ∃ μ', ((f_BT_comparison n re a μ2).bind _) = some μ' ∧ _
    rw [r2.cm hn, kn_bs, bnd_s]
    exact ⟨μ2, cF.ems re b4 r2 m 0 n (by omega) (by omega), r2⟩
theorem c_cj {n : Nat} (hn : 1000 ≤ n) {x : pX} {re : Int32 → kbM → Option kbM} {a : Int32} {pre : pS → pR} {B : Nat} (hB : B + 3 < 64) (hre : cPp x (re (a + 1)) pre) (hg : gd x (B + 3) pre) : cPp x (f_BT_conjunction n re a) (pCj x pre) := by
  have ho' := c_no hn hB hre hg
  have G := gd_no hB hg
  have L : cPp x (lp_BT_conjunction_7 n re a n (nI 0)) (pLp x (pT4 x) (pNo x pre) 600) := by
    refine c_lp hn (tst4 x) ho' G (fun k μ => ?_) (fun k i μ f q h => h.jl re a _ k) (fun k i μ s hi hs ho h => ?_) (fun k i μ s c hi hs ho h => ?_) 600 0 n (by omega) (by omega)
    · simp only [lp_BT_conjunction_7]; rw [if_pos (by decide)]
    · unfold pT4 at h
      simp only [lp_BT_conjunction_7]
      rw [c_named (by omega) hs ho (by decide), kn_bs]
      cases hb : pNm x 28 s
      · rw [if_pos zF0]; split <;> rfl
      · rw [hb, if_pos rfl] at h; cases h
    · unfold pT4 at h
      simp only [lp_BT_conjunction_7]
      rw [show (600 : Int32) = nI 600 from rfl, if_neg (show ¬ nI 600 ≤ nI i by rw [nI_leI (by decide) (by omega)]; omega), c_named (by omega) hs ho (by decide), kn_bs, nI_1]
      cases hb : pNm x 28 s
      · rw [hb, if_neg Bool.false_ne_true] at h; cases h
      · rw [hb, if_pos rfl] at h
        cases h
        rw [if_neg zT0]
        rfl
  have R := ho'.bind G.tk L
  refine ⟨fun μ s hs ho => ?_, fun μ f q h => h.cj hn re a⟩
  obtain ⟨μ', e, r⟩ := R.1 μ s hs ho
  refine ⟨μ', ?_, r⟩
  rw [← e]
  unfold f_BT_conjunction jn_BT_conjunction_44
  simp only [bnd_s]
  rfl
theorem c_ex {n : Nat} (hn : 1000 ≤ n) {x : pX} {re : Int32 → kbM → Option kbM} {a : Int32} {pre : pS → pR} {B : Nat} (hB : B + 4 < 64) (hre : cPp x (re (a + 1)) pre) (hg : gd x (B + 4) pre) : cPp x (jn_BT_expr_37 n re a) (pEx x pre) := by
  have ho' := c_cj hn (B := B + 1) hB hre hg
  have G := gd_cj hB hg
  have L : cPp x (lp_BT_expr_44 n re a n (nI 0)) (pLp x (pT5 x) (pCj x pre) 600) := by
    refine c_lp hn (tst5 x) ho' G (fun k μ => ?_) (fun k i μ f q h => h.el re a _ k) (fun k i μ s hi hs ho h => ?_) (fun k i μ s c hi hs ho h => ?_) 600 0 n (by omega) (by omega)
    · simp only [lp_BT_expr_44]; rw [if_pos (by decide)]
    · unfold pT5 at h
      simp only [lp_BT_expr_44]
      rw [c_named (by omega) hs ho (by decide), kn_bs]
      cases hb : pNm x 27 s
      · rw [if_pos zF0]; split <;> rfl
      · rw [hb, if_pos rfl] at h; cases h
    · unfold pT5 at h
      simp only [lp_BT_expr_44]
      rw [show (600 : Int32) = nI 600 from rfl, if_neg (show ¬ nI 600 ≤ nI i by rw [nI_leI (by decide) (by omega)]; omega), c_named (by omega) hs ho (by decide), kn_bs, nI_1]
      cases hb : pNm x 27 s
      · rw [hb, if_neg Bool.false_ne_true] at h; cases h
      · rw [hb, if_pos rfl] at h
        cases h
        rw [if_neg zT0]
        rfl
  have R := ho'.bind G.tk L
  refine ⟨fun μ s hs ho => ?_, fun μ f q h => h.e37 hn re a⟩
  obtain ⟨μ', e, r⟩ := R.1 μ s hs ho
  refine ⟨μ', ?_, r⟩
  rw [← e]
  unfold jn_BT_expr_37 jn_BT_expr_81
  simp only [bnd_s]
  rfl
/-- at the innermost bracket nothing is opened -/
theorem c_deep {n : Nat} (hn : 1000 ≤ n) {x : pX} {re : Int32 → kbM → Option kbM} {a : Int32} {μ : kbM} {s : pS} (hs : cS μ x s) (ho : tOk' x s) (h2 : s.1.1 ≠ 2) (h1 : s.1.1 ≠ 1) (h40 : s.1.1 ≠ 40) : ∃ μ', jn_BT_expr_37 n re a μ = some μ' ∧ cF μ' 1 s.1.2.1 := by
  obtain ⟨μ1, e1, r1⟩ := c_fail hs (c := 1) (by decide) (by decide)
  refine ⟨μ1, ?_, r1⟩
  have hnm : ∀ sid, pNm x sid s = false := fun sid => by
    cases hb : pNm x sid s
    · rfl
    · exact absurd (pNm_1 hb) h1
  have eo : f_BT_operand n re a μ = some μ1 := by
    unfold f_BT_operand jn_BT_operand_81
    rw [kl_2, kn_1, show (40 : Int32) = nI 40 from rfl, if_neg (by rw [c_kind hs ho (by decide)]; exact h2), if_neg (by rw [c_kind hs ho (by decide)]; exact h1), if_neg (by rw [c_kind hs ho (by decide)]; exact h40), e1, kn_bs]
  have ep : f_BT_product n re a μ = some μ1 := by
    unfold f_BT_product jn_BT_product_69
    rw [eo, kn_bs, ← (r1.pr hn re a), show f_BT_product n re a μ1 = (f_BT_operand n re a μ1).bind fun x1 => (lp_BT_product_7 n re a n 0 x1).bind fun x5 => jn_BT_product_69 n re x5 from rfl, r1.op, kn_bs]
    rfl
  have es : f_BT_sum n re a μ = some μ1 := by
    unfold f_BT_sum jn_BT_sum_69
    rw [ep, kn_bs, ← (r1.su hn re a), show f_BT_sum n re a μ1 = (f_BT_product n re a μ1).bind fun x1 => (lp_BT_sum_7 n re a n 0 x1).bind fun x5 => jn_BT_sum_69 n re x5 from rfl, r1.pr hn, kn_bs]
    rfl
  have ec : f_BT_comparison n re a μ = some μ1 := by
    unfold f_BT_comparison jn_BT_comparison_54
    rw [es, kn_bs, r1.2.1, if_neg (by decide), if_neg (by decide)]
  obtain ⟨μ2, e2, r2⟩ := c_nots hn re a 6 0 n μ s rfl (by omega) hs ho
  have pn : pNt x 6 s = (0, s) := by simp only [pNt, hnm 29, Bool.false_eq_true, if_false]
  have l2 : lp_BT_negation_2 n re a n 0 μ = some (0, μ) := by
    have e : ∀ k, lp_BT_negation_2 n re a (k + 1) 0 μ = some (0, μ) := fun k => by
      simp only [lp_BT_negation_2]
      rw [if_neg (by decide), c_named (by omega) hs ho (by decide), hnm, kn_bs, if_pos zF0]
    obtain ⟨k, hk⟩ : ∃ z, n = z + 1 := ⟨n - 1, by omega⟩
    rw [show lp_BT_negation_2 n re a n 0 μ = lp_BT_negation_2 n re a (k + 1) 0 μ by rw [← hk]]
    exact e k
  have en : f_BT_negation n re a μ = some μ1 := by
    unfold f_BT_negation jn_BT_negation_27 jn_BT_negation_42
    rw [l2, kn_bs]
    show (f_BT_isNamed n 29 μ).bind _ = _
    rw [c_named (by omega) hs ho (by decide), hnm, kn_bs, if_pos zF0]
    show (f_BT_comparison n re a μ).bind _ = _
    rw [ec, kn_bs, show (0 : Int32) = nI 0 from rfl, cF.ems re (m := 0) (by decide) r1 0 0 n rfl (by omega), kn_bs]
  unfold jn_BT_expr_37 jn_BT_expr_81
  have ej : f_BT_conjunction n re a μ = some μ1 := by
    unfold f_BT_conjunction jn_BT_conjunction_44
    rw [en, kn_bs, ← (r1.cj hn re a), show f_BT_conjunction n re a μ1 = (f_BT_negation n re a μ1).bind fun x1 => (lp_BT_conjunction_7 n re a n 0 x1).bind fun x5 => jn_BT_conjunction_44 n re x5 from rfl, r1.no hn, kn_bs]
    rfl
  rw [ej, kn_bs, ← (r1.e37 hn re a), show jn_BT_expr_37 n re a μ1 = (f_BT_conjunction n re a μ1).bind fun x1 => (lp_BT_expr_44 n re a n 0 x1).bind fun x5 => jn_BT_expr_81 n re x5 from rfl, r1.cj hn, kn_bs]
  rfl
theorem c_e {n : Nat} (hn : 1000 ≤ n) (x : pX) : ∀ k a, a ≤ 6 → 8 ≤ a + k → cPp x (F_BT_expr n k (nI a)) (pE x k a) := by
  intro k
  induction k with
  | zero => intro a h1 h2; omega
  | succ k ih =>
    intro a ha hk
    show cPp x (f_BT_expr n (F_BT_expr n k) (nI a)) (pEa x (pE x k (a + 1)) a)
    refine ⟨fun μ s hs ho => ?_, fun μ f q h => h.ex hn _ _⟩
    unfold f_BT_expr pEa jn_BT_expr_31
    rw [kl_6]
    by_cases h6 : 6 ≤ a
    · rw [if_neg (by rw [nI_ltI (by omega) (by decide)]; omega), if_pos h6, kl_2, kn_1, show (40 : Int32) = nI 40 from rfl]
      have fail2 : ∃ μ', ((f_BT_fail (nI 2) μ).bind fun x7 => jn_BT_expr_37 n (F_BT_expr n k) (nI a) x7.2) = some μ' ∧ cR μ' x (pFail 2 s) := by
        obtain ⟨μ1, e1, r1⟩ := c_fail hs (c := 2) (by decide) (by decide)
        rw [e1, kn_bs]
        exact ⟨μ1, r1.e37 hn _ _, r1⟩
      by_cases h2 : s.1.1 = 2
      · rw [if_pos (by rw [c_kind hs ho (by decide)]; exact h2), if_pos (Or.inl h2)]; exact fail2
      · rw [if_neg (by rw [c_kind hs ho (by decide)]; exact h2)]
        by_cases h1 : s.1.1 = 1
        · rw [if_pos (by rw [c_kind hs ho (by decide)]; exact h1), if_pos (Or.inr (Or.inl h1))]; exact fail2
        · rw [if_neg (by rw [c_kind hs ho (by decide)]; exact h1)]
          by_cases h40 : s.1.1 = 40
          · rw [if_pos (by rw [c_kind hs ho (by decide)]; exact h40), if_pos (Or.inr (Or.inr h40))]; exact fail2
          · rw [if_neg (by rw [c_kind hs ho (by decide)]; exact h40), if_neg (by omega)]
            exact c_deep hn hs ho h2 h1 h40
    · rw [if_pos (by rw [nI_ltI (by omega) (by decide)]; omega), if_neg h6]
      have I := ih (a + 1) (by omega) (by omega)
      rw [← nI_1] at I
      exact (c_ex hn (B := 5 * a) (by omega) I ((gd_e x k (a + 1) (by omega)).le (by omega))).1 μ s hs ho
