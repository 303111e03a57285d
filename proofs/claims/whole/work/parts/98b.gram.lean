/-! the rule's grammar, without the machine -/
def pEm (c : Int) (s : pS) : pS := (s.1, s.2.1 ++ [c], s.2.2)
def pEms (c : Int) : Nat → pS → pS
  | 0, s => s
  | k + 1, s => pEms c k (pEm c s)
def pFail (c : Nat) (s : pS) : pR := .inl (c, s.1.2.1)
def pB (r : pR) (k : pS → pR) : pR := match r with | .inl z => .inl z | .inr s => k s
def pSign (x : pX) (c : Nat) (s : pS) : pR := if s.1.1 = c then .inr (pAdv x s) else pFail 1 s
def pLen (sid : Nat) : Nat := (kbTx.getD sid []).length
def pChr (sid j : Nat) : Nat := ((kbTx.getD sid []).getD j 0).toNatClampNeg
def pNm (x : pX) (sid : Nat) (s : pS) : Bool := s.1.1 == 1 && (s.1.2.2 - s.1.2.1 == pLen sid && zAll (fun j => x.1 (s.1.2.1 + j) == pChr sid j) (pLen sid))
def pVal (x : pX) (s : pS) : Option Nat := zFind (fun i => pNm x (7 + i) s) 6 6 0
def pNum (x : pX) (f e : Nat) : Nat := zFold (fun j v => 10 * v + (x.1 (f + j) - 48)) 0 (e - f)
def pLp (x : pX) (test : pS → Option Int) (q : pS → pR) : Nat → pS → pR
  | 0, s => .inr s
  | k + 1, s => match test s with | none => .inr s | some c => pB (q (pAdv x s)) fun s' => pLp x test q k (pEm c s')
def pOp (x : pX) (re : pS → pR) (s : pS) : pR := if s.1.1 = 2 then (if s.1.2.2 - s.1.2.1 ≤ 4 then .inr (pAdv x (pEm (pNum x s.1.2.1 s.1.2.2 : Nat) s)) else pFail 2 s) else if s.1.1 = 1 then (match pVal x s with | some i => .inr (pAdv x (pEm (-1 - (i : Int)) s)) | none => pFail 3 s) else if s.1.1 = 40 then pB (re (pAdv x s)) (pSign x 41) else pFail 1 s
def pT1 (s : pS) : Option Int := if s.1.1 = 42 then some (-14) else if s.1.1 = 47 then some (-15) else none
def pT2 (s : pS) : Option Int := if s.1.1 = 43 then some (-12) else if s.1.1 = 45 then some (-13) else none
def pT3 (s : pS) : Option Int := if s.1.1 = 60 then some (-10) else if s.1.1 = 61 then some (-11) else none
def pT4 (x : pX) (s : pS) : Option Int := if pNm x 28 s = true then some (-9) else none
def pT5 (x : pX) (s : pS) : Option Int := if pNm x 27 s = true then some (-8) else none
def pPr (x : pX) (re : pS → pR) (s : pS) : pR := pB (pOp x re s) (pLp x pT1 (pOp x re) 600)
def pSu (x : pX) (re : pS → pR) (s : pS) : pR := pB (pPr x re s) (pLp x pT2 (pPr x re) 600)
def pCm (x : pX) (re : pS → pR) (s : pS) : pR := pB (pSu x re s) (pLp x pT3 (pSu x re) 1)
def pNt (x : pX) : Nat → pS → Nat × pS
  | 0, s => (0, s)
  | k + 1, s => if pNm x 29 s = true then ((pNt x k (pAdv x s)).1 + 1, (pNt x k (pAdv x s)).2) else (0, s)
def pNo (x : pX) (re : pS → pR) (s : pS) : pR := if pNm x 29 (pNt x 6 s).2 = true then pFail 2 (pNt x 6 s).2 else pB (pCm x re (pNt x 6 s).2) fun s' => .inr (pEms (-7) (pNt x 6 s).1 s')
def pCj (x : pX) (re : pS → pR) (s : pS) : pR := pB (pNo x re s) (pLp x (pT4 x) (pNo x re) 600)
def pEx (x : pX) (re : pS → pR) (s : pS) : pR := pB (pCj x re s) (pLp x (pT5 x) (pCj x re) 600)
def pEa (x : pX) (re : pS → pR) (a : Nat) (s : pS) : pR := if 6 ≤ a then (if s.1.1 = 2 ∨ s.1.1 = 1 ∨ s.1.1 = 40 then pFail 2 s else pFail 1 s) else pEx x re s
def pE (x : pX) : Nat → Nat → pS → pR
  | 0, _, s => pFail 1 s
  | k + 1, a, s => pEa x (pE x k (a + 1)) a s
def tOk' (x : pX) (s : pS) : Prop := xOk x ∧ kOk x s.1 ∧ s.2.1.length ≤ s.1.2.1
theorem zDep_app : ∀ (X Y : List Int) (d : Nat), zDep (X ++ Y) d = (zDep X d).bind (zDep Y) := by
  intro X
  induction X with
  | nil => intro Y d; rfl
  | cons c X ih =>
    intro Y d
    simp only [List.cons_append, zDep]
    repeat' split
    all_goals first | exact ih _ _ | rfl
/-- what an expression adds -/
def gd (x : pX) (B : Nat) (p : pS → pR) : Prop := ∀ s s', tOk' x s → p s = .inr s' → kOk x s'.1 ∧ s'.2.2 = s.2.2 ∧ ∃ X, s'.2.1 = s.2.1 ++ X ∧ X.length + s.1.2.1 ≤ s'.1.2.1 ∧ (∀ c ∈ X, -15 ≤ c ∧ c ≤ 9999) ∧ ∀ d, d ≤ B → zDep X d = some (d + 1)
/-- what a loop behind it adds -/
def gl (x : pX) (B : Nat) (p : pS → pR) : Prop := ∀ s s', tOk' x s → p s = .inr s' → kOk x s'.1 ∧ s'.2.2 = s.2.2 ∧ ∃ X, s'.2.1 = s.2.1 ++ X ∧ X.length + s.1.2.1 ≤ s'.1.2.1 ∧ (∀ c ∈ X, -15 ≤ c ∧ c ≤ 9999) ∧ ∀ d, d ≤ B → zDep X (d + 1) = some (d + 1)
theorem gd.tok {x : pX} {B : Nat} {p : pS → pR} (h : gd x B p) {s s' : pS} (hs : tOk' x s) (e : p s = .inr s') : tOk' x s' := by
  obtain ⟨h1, h2, X, h3, h4, h5, h6⟩ := h s s' hs e
  refine ⟨hs.1, h1, ?_⟩
  rw [h3, List.length_append]
  have := hs.2.2
  omega
theorem pAdv_tok {x : pX} {s : pS} (h : tOk' x s) : tOk' x (pAdv x s) ∧ s.1.2.2 ≤ (pAdv x s).1.2.1 := by
  have q := pTok_ok (x := x) (e := s.1.2.2) h.2.1.2.1
  have k := h.2.1.1
  have c := h.2.2
  exact ⟨⟨h.1, q.1, by show s.2.1.length ≤ (pTok x s.1.2.2).2.1; omega⟩, q.2⟩
theorem tReal {x : pX} {s : pS} (h : tOk' x s) (h0 : s.1.1 ≠ 0) : s.1.2.1 < s.1.2.2 := h.2.1.2.2.1.resolve_left h0
def tst (test : pS → Option Int) : Prop := ∀ s c, test s = some c → s.1.1 ≠ 0 ∧ -15 ≤ c ∧ c ≤ -8
theorem tst1 : tst pT1 := by
  intro s c h
  unfold pT1 at h
  split at h
  · cases h; omega
  · split at h
    · cases h; omega
    · cases h
theorem tst2 : tst pT2 := by
  intro s c h
  unfold pT2 at h
  split at h
  · cases h; omega
  · split at h
    · cases h; omega
    · cases h
theorem tst3 : tst pT3 := by
  intro s c h
  unfold pT3 at h
  split at h
  · cases h; omega
  · split at h
    · cases h; omega
    · cases h
theorem pNm_1 {x : pX} {sid : Nat} {s : pS} (h : pNm x sid s = true) : s.1.1 = 1 := by
  unfold pNm at h
  simp only [Bool.and_eq_true, beq_iff_eq] at h
  exact h.1
theorem tst4 (x : pX) : tst (pT4 x) := by
  intro s c h
  unfold pT4 at h
  split at h
  · rename_i q; cases h; have := pNm_1 q; omega
  · cases h
theorem tst5 (x : pX) : tst (pT5 x) := by
  intro s c h
  unfold pT5 at h
  split at h
  · rename_i q; cases h; have := pNm_1 q; omega
  · cases h
theorem pB_inr {r : pR} {k : pS → pR} {s : pS} (h : pB r k = .inr s) : ∃ s1, r = .inr s1 ∧ k s1 = .inr s := by
  cases r with
  | inl z => cases h
  | inr s1 => exact ⟨s1, rfl, h⟩
theorem gl_lp {x : pX} {B : Nat} {test : pS → Option Int} {q : pS → pR} (ht : tst test) (hq : gd x (B + 1) q) : ∀ k, gl x B (pLp x test q k) := by
  intro k
  induction k with
  | zero =>
    intro s s' hs e
    cases e
    exact ⟨hs.2.1, rfl, [], by simp, by simp, (fun c h => by cases h), fun d _ => rfl⟩
  | succ k ih =>
    intro s s' hs e
    simp only [pLp] at e
    cases ht' : test s with
    | none =>
      rw [ht'] at e
      cases e
      exact ⟨hs.2.1, rfl, [], by simp, by simp, (fun c h => by cases h), fun d _ => rfl⟩
    | some c =>
      rw [ht'] at e
      obtain ⟨s1, e1, e2⟩ := pB_inr e
      obtain ⟨t0, t1, t2⟩ := ht s c ht'
      have r := tReal hs t0
      obtain ⟨a1, a2⟩ := pAdv_tok hs
      have a3 : tOk' x s1 := hq.tok a1 e1
      obtain ⟨q1, q2, X, q3, q4, q5, q6⟩ := hq _ _ a1 e1
      have a4 : tOk' x (pEm c s1) := by
        refine ⟨hs.1, q1, ?_⟩
        show (s1.2.1 ++ [c]).length ≤ s1.1.2.1
        rw [q3, List.length_append, List.length_append]
        show s.2.1.length + X.length + 1 ≤ _
        have := hs.2.2
        omega
      obtain ⟨w1, w2, Y, w3, w4, w5, w6⟩ := ih _ _ a4 e2
      refine ⟨w1, w2.trans q2, X ++ [c] ++ Y, ?_, ?_, ?_, fun d hd => ?_⟩
      · rw [w3]
        show s1.2.1 ++ [c] ++ Y = _
        rw [q3]
        show s.2.1 ++ X ++ [c] ++ Y = _
        simp [List.append_assoc]
      · have e1' : (pEm c s1).1.2.1 = s1.1.2.1 := rfl
        rw [e1'] at w4
        simp only [List.length_append, List.length_cons, List.length_nil]
        omega
      · intro c' hc
        simp only [List.mem_append, List.mem_singleton] at hc
        rcases hc with (hc | hc) | hc
        · exact q5 c' hc
        · rw [hc]; omega
        · exact w5 c' hc
      · rw [zDep_app, zDep_app, q6 (d + 1) (by omega)]
        have : zDep [c] (d + 1 + 1) = some (d + 1) := by
          simp only [zDep]
          rw [if_neg (by omega), if_neg (by omega), if_pos (by omega)]
          rfl
        show ((zDep [c] (d + 1 + 1)).bind (zDep Y)) = _
        rw [this]
        exact w6 d hd
theorem gd_gl {x : pX} {B : Nat} {p l : pS → pR} (hp : gd x B p) (hl : gl x B l) : gd x B fun s => pB (p s) l := by
  intro s s' hs e
  obtain ⟨s1, e1, e2⟩ := pB_inr e
  have a1 := hp.tok hs e1
  obtain ⟨q1, q2, X, q3, q4, q5, q6⟩ := hp _ _ hs e1
  obtain ⟨w1, w2, Y, w3, w4, w5, w6⟩ := hl _ _ a1 e2
  refine ⟨w1, w2.trans q2, X ++ Y, by rw [w3, q3, List.append_assoc], by rw [List.length_append]; omega, fun c hc => ?_, fun d hd => ?_⟩
  · rcases List.mem_append.mp hc with h | h
    · exact q5 c h
    · exact w5 c h
  · rw [zDep_app, q6 d hd]; exact w6 d hd
theorem gd.le {x : pX} {B B' : Nat} {p : pS → pR} (h : gd x B p) (hb : B' ≤ B) : gd x B' p := fun s s' hs e => by
  obtain ⟨q1, q2, X, q3, q4, q5, q6⟩ := h s s' hs e
  exact ⟨q1, q2, X, q3, q4, q5, fun d hd => q6 d (by omega)⟩
theorem pNum_le {x : pX} {f e : Nat} (h4 : e - f ≤ 4) (hd : ∀ j, f ≤ j → j < e → isDi (x.1 j) = true) : pNum x f e ≤ 9999 := by
  have key : ∀ m, m ≤ e - f → zFold (fun j v => 10 * v + (x.1 (f + j) - 48)) 0 m < 10 ^ m := by
    intro m
    induction m with
    | zero => intro _; exact Nat.one_pos
    | succ m ih =>
      intro hm
      have h1 := ih (by omega)
      have h2 := hd (f + m) (by omega) (by omega)
      unfold isDi at h2
      simp only [Bool.and_eq_true, decide_eq_true_eq] at h2
      show 10 * zFold (fun j v => 10 * v + (x.1 (f + j) - 48)) 0 m + (x.1 (f + m) - 48) < 10 ^ (m + 1)
      rw [Nat.pow_succ]
      omega
  have h1 := key (e - f) (Nat.le_refl _)
  have h2 : (10 : Nat) ^ (e - f) ≤ 10 ^ 4 := Nat.pow_le_pow_right (by decide) h4
  unfold pNum
  omega
theorem gd_em {x : pX} {s : pS} {c : Int} (hs : tOk' x s) (h0 : s.1.1 ≠ 0) : tOk' x (pAdv x (pEm c s)) ∧ 1 + s.1.2.1 ≤ (pAdv x (pEm c s)).1.2.1 := by
  have q := pTok_ok (x := x) (e := s.1.2.2) hs.2.1.2.1
  have r := tReal hs h0
  have c0 := hs.2.2
  refine ⟨⟨hs.1, q.1, ?_⟩, ?_⟩
  · show (s.2.1 ++ [c]).length ≤ (pTok x s.1.2.2).2.1
    rw [List.length_append]
    show s.2.1.length + 1 ≤ _
    omega
  · show 1 + s.1.2.1 ≤ (pTok x s.1.2.2).2.1
    omega
theorem zDep_push {c : Int} (h : -6 ≤ c) {d : Nat} (hd : d < 64) : zDep [c] d = some (d + 1) := by
  simp only [zDep]
  rw [if_pos h, if_pos hd]
theorem gd_op {x : pX} {B : Nat} {re : pS → pR} (hB : B < 64) (hre : gd x B re) : gd x B (pOp x re) := by
  intro s s' hs e
  unfold pOp at e
  split at e
  · rename_i k2
    split at e
    · rename_i h4
      cases e
      have g := gd_em (c := (pNum x s.1.2.1 s.1.2.2 : Nat)) hs (by omega)
      have nl := pNum_le h4 (hs.2.1.2.2.2.2 k2)
      refine ⟨g.1.2.1, rfl, [(pNum x s.1.2.1 s.1.2.2 : Nat)], rfl, g.2, fun c hc => ?_, fun d hd => zDep_push (by omega) (by omega)⟩
      simp only [List.mem_singleton] at hc
      omega
    · cases e
  · split at e
    · rename_i k1
      split at e
      · rename_i i hi
        cases e
        have il := zFind_lt _ _ _ _ _ hi
        have g := gd_em (c := -1 - (i : Int)) hs (by omega)
        refine ⟨g.1.2.1, rfl, [-1 - (i : Int)], rfl, g.2, fun c hc => ?_, fun d hd => zDep_push (by omega) (by omega)⟩
        simp only [List.mem_singleton] at hc
        omega
      · cases e
    · split at e
      · rename_i k40
        obtain ⟨s1, e1, e2⟩ := pB_inr e
        obtain ⟨a1, a2⟩ := pAdv_tok hs
        have a3 := hre.tok a1 e1
        obtain ⟨q1, q2, X, q3, q4, q5, q6⟩ := hre _ _ a1 e1
        unfold pSign at e2
        split at e2
        · cases e2
          obtain ⟨b1, b2⟩ := pAdv_tok a3
          have k := hs.2.1.1
          have k3 := a3.2.1.1
          refine ⟨b1.2.1, q2, X, q3, ?_, q5, q6⟩
          omega
        · cases e2
      · cases e
theorem gd_pr {x : pX} {B : Nat} {re : pS → pR} (hB : B + 1 < 64) (hre : gd x (B + 1) re) : gd x B (pPr x re) := gd_gl ((gd_op hB hre).le (by omega)) (gl_lp tst1 (gd_op hB hre) 600)
theorem gd_su {x : pX} {B : Nat} {re : pS → pR} (hB : B + 2 < 64) (hre : gd x (B + 2) re) : gd x B (pSu x re) := gd_gl ((gd_pr (B := B + 1) hB hre).le (by omega)) (gl_lp tst2 (gd_pr (B := B + 1) hB hre) 600)
theorem gd_cm {x : pX} {B : Nat} {re : pS → pR} (hB : B + 3 < 64) (hre : gd x (B + 3) re) : gd x B (pCm x re) := gd_gl ((gd_su (B := B + 1) hB hre).le (by omega)) (gl_lp tst3 (gd_su (B := B + 1) hB hre) 1)
theorem pNt_ok {x : pX} : ∀ k s, tOk' x s → tOk' x (pNt x k s).2 ∧ (pNt x k s).2.2 = s.2 ∧ (pNt x k s).1 + s.1.2.1 ≤ (pNt x k s).2.1.2.1 ∧ (pNt x k s).1 ≤ k := by
  intro k
  induction k with
  | zero => intro s hs; exact ⟨hs, rfl, by show 0 + s.1.2.1 ≤ s.1.2.1; omega, Nat.le_refl _⟩
  | succ k ih =>
    intro s hs
    simp only [pNt]
    split
    · rename_i h
      have := pNm_1 h
      obtain ⟨a1, a2⟩ := pAdv_tok hs
      have r := tReal hs (by omega)
      obtain ⟨b1, b2, b3, b4⟩ := ih (pAdv x s) a1
      exact ⟨b1, b2, by simp only; omega, by simp only; omega⟩
    · exact ⟨hs, rfl, by simp only; omega, by simp only; omega⟩
theorem pEms_eq : ∀ k s, pEms (-7) k s = (s.1, s.2.1 ++ List.replicate k (-7), s.2.2) := by
  intro k
  induction k with
  | zero => intro s; simp [pEms]
  | succ k ih =>
    intro s
    simp only [pEms]
    rw [ih]
    simp only [pEm, List.replicate_succ, List.append_assoc, List.singleton_append]
theorem zDep_nots : ∀ k d, zDep (List.replicate k (-7)) (d + 1) = some (d + 1) := by
  intro k
  induction k with
  | zero => intro d; rfl
  | succ k ih =>
    intro d
    simp only [List.replicate_succ, zDep]
    rw [if_neg (by decide), if_pos trivial, if_pos (by omega)]
    exact ih d
theorem gd_no {x : pX} {B : Nat} {re : pS → pR} (hB : B + 3 < 64) (hre : gd x (B + 3) re) : gd x B (pNo x re) := by
  intro s s' hs e
  unfold pNo at e
  split at e
  · cases e
  · obtain ⟨s1, e1, e2⟩ := pB_inr e
    obtain ⟨b1, b2, b3, b4⟩ := pNt_ok 6 s hs
    obtain ⟨q1, q2, X, q3, q4, q5, q6⟩ := gd_cm hB hre _ _ b1 e1
    cases e2
    rw [pEms_eq]
    refine ⟨q1, ?_, X ++ List.replicate (pNt x 6 s).1 (-7), ?_, ?_, fun c hc => ?_, fun d hd => ?_⟩
    · show s1.2.2 = _
      rw [q2, b2]
    · show s1.2.1 ++ _ = _
      rw [q3, b2, List.append_assoc]
    · rw [List.length_append, List.length_replicate]
      show _ ≤ s1.1.2.1
      omega
    · rcases List.mem_append.mp hc with h | h
      · exact q5 c h
      · have := List.eq_of_mem_replicate h
        omega
    · rw [zDep_app, q6 d hd]
      exact zDep_nots _ d
theorem gd_cj {x : pX} {B : Nat} {re : pS → pR} (hB : B + 4 < 64) (hre : gd x (B + 4) re) : gd x B (pCj x re) := gd_gl ((gd_no (B := B + 1) hB hre).le (by omega)) (gl_lp (tst4 x) (gd_no (B := B + 1) hB hre) 600)
theorem gd_ex {x : pX} {B : Nat} {re : pS → pR} (hB : B + 5 < 64) (hre : gd x (B + 5) re) : gd x B (pEx x re) := gd_gl ((gd_cj (B := B + 1) hB hre).le (by omega)) (gl_lp (tst5 x) (gd_cj (B := B + 1) hB hre) 600)
theorem gd_e (x : pX) : ∀ k a, a ≤ 6 → gd x (5 * a) (pE x k a) := by
  intro k
  induction k with
  | zero => intro a _ s s' _ e; cases e
  | succ k ih =>
    intro a ha
    show gd x (5 * a) (pEa x (pE x k (a + 1)) a)
    by_cases h : 6 ≤ a
    · intro s s' _ e
      unfold pEa at e
      rw [if_pos h] at e
      split at e <;> cases e
    · have := gd_ex (B := 5 * a) (by omega) (ih (a + 1) (by omega))
      intro s s' hs e
      unfold pEa at e
      rw [if_neg h] at e
      exact this s s' hs e
