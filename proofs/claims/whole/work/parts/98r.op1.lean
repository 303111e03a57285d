theorem op_1 {n : Nat} (hn : 5000 ≤ n) {μ : kbM} (hI : kbInv μ) (u1 : Int32) : ∃ μ', c_law_1 n u1 μ = some μ' ∧ kbInv μ' := by
  obtain ⟨A, hA, hC, hM⟩ := hI
  have ht := hA.2.2.2.2.1
  by_cases hr : u1 < 0 ∨ ¬ u1 ≤ nI A.2.2.2.2.1.1
  · have h1 : f_L_book n u1 μ = some (1, μ) := by
      unfold f_L_book f_KB_book jn_KB_book_15
      rw [hC.2.2.2.2.2.2.1.1]
      rcases hr with q | q
      · rw [if_pos q]; rfl
      · rw [if_neg q, ite_self]; rfl
    have h2 : f_MD_book n u1 μ = some (0, kbW (kbW μ 57 3 0) 57 3 1) := by
      unfold f_MD_book jn_MD_book_17 f_MD_fail
      rw [kW_no (show (13 : Nat) ≠ 3 by decide), hM.2.2.2.2.2.1.1]
      rcases hr with q | q
      · rw [if_pos q]; rfl
      · rw [if_neg q, ite_self]; rfl
    have f2 := fr_f_MD_book h2
    refine ⟨_, law_int h1 h2 kW_at (fun q => absurd q (by decide)), A, hA, hC.fr f2 (by decide) (by decide), ?_⟩
    refine hM.congr (fun a ha => ?_) (fun k hk => ?_)
    · have : a ≠ 57 := by revert a; decide
      show (kbW (kbW μ 57 3 0) 57 3 1).1 a = μ.1 a
      rw [kW_ne this, kW_ne this]
    · have : k ≠ 3 := by revert k; decide
      show (kbW (kbW μ 57 3 0) 57 3 1).1 57 k = μ.1 57 k
      rw [kW_no this, kW_no this]
  · have n0 : ¬ u1 < 0 := fun q => hr (Or.inl q)
    obtain ⟨m, hm, rfl⟩ := kn_of n0
    have hml : m ≤ A.2.2.2.2.1.1 := by
      have : nI m ≤ nI A.2.2.2.2.1.1 := Decidable.byContradiction fun q => hr (Or.inr q)
      rwa [nI_leI hm (by omega)] at this
    obtain ⟨hx, hb⟩ := xT_ok hC.2.2.2.2.2.2.1 ht hml
    obtain ⟨v, μ1, e1, c1, c2⟩ := c_book hn hA hC hml
    have h1 : f_L_book n (nI m) μ = some (0, kbX μ1 97 0 v.toInt64) := by
      unfold f_L_book
      rw [e1, kn_or_r]
    have f1 := fr_f_L_book h1
    have hM1 := hM.fr f1 (by decide) (by decide)
    obtain ⟨w, μ2, e2, t3, d1, d2⟩ := m_book hn hA hM1 (x := xT A.2.2.2.2.1 m) hx hml (fun i hi => (hb i hi).1)
    have e2' : f_MD_book n (nI m) (kbX μ1 97 0 v.toInt64) = some (w, μ2) := e2
    have f2 := fr_f_MD_book e2'
    have hv : (kbX μ1 97 0 v.toInt64).2 97 0 = v.toInt64 := by simp [kbX, kbB, vp_updL]
    have X : ∀ {B : zA}, rC μ1 B → rC μ2 B := fun {B} q => by
      have q1 : rC (kbX μ1 97 0 v.toInt64) B := q
      exact q1.fr f2 (by decide) (by decide)
    cases hp : pBook (xT A.2.2.2.2.1 m) with
    | inl z =>
      obtain ⟨a1, a2⟩ := c1 z hp
      obtain ⟨b1, b2, b3, b4⟩ := d1 z hp
      refine ⟨μ2, law_int h1 e2' t3 (fun _ => ?_), aBad A z.2, ok_bad hA z.2, X a2, b4⟩
      rw [fr_at2 f2 (by decide) (by decide), hv, a1, b1]
    | inr s =>
      obtain ⟨a1, a2⟩ := c2 s hp
      obtain ⟨b1, b2⟩ := d2 s hp
      obtain ⟨p1, p2⟩ := pS0_ok hx
      obtain ⟨q1, q2⟩ := pLines_ok 600 _ _ p1 p2 hp
      refine ⟨μ2, law_int h1 e2' t3 (fun _ => ?_), aGood A s.2, ok_good q2, X a2, b2⟩
      rw [fr_at2 f2 (by decide) (by decide), hv, a1, b1]
