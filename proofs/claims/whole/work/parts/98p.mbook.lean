def aBad (A : zA) (q : Nat) : zA := ((A.1.1, A.1.2.1, A.1.2.2.1, fun i => if i = 0 then A.1.2.2.2 0 + 1 else A.1.2.2.2 i), A.2.1, A.2.2.1, A.2.2.2.1, (0, A.2.2.2.2.1.2), nI q)
def aGood (A : zA) (o : List Int × zW × List (Nat × Nat)) : zA := (((o.2.1, 0), [], [], A.1.2.2.2), none, o.2.2, o.1, (0, A.2.2.2.2.1.2), -1)
theorem ok_bad {A : zA} (h : zOk A) (q : Nat) : zOk (aBad A q) := ⟨h.1, h.2.1, h.2.2.1, h.2.2.2.1, Nat.zero_le _, rfl⟩
theorem ok_good {A : zA} {o : List Int × zW × List (Nat × Nat)} (h : bOk o) : zOk (aGood A o) := by
  refine ⟨⟨⟨h.2.1, (show 0 < 64 by decide)⟩, Nat.zero_le _, (fun q hq => by cases hq), trivial, Nat.zero_le _, (fun q hq => by cases hq)⟩, (fun e he => by cases he), h.2.2, h.1, Nat.zero_le _, rfl⟩
theorem lp_book50 {n : Nat} (hn : 1000 ≤ n) (μ : kbM) : lp_MD_book_50 n n 0 μ = some (kbW (kbW (kbW μ 61 3 0) 61 4 0) 61 5 0) := by
  obtain ⟨k, hk⟩ : ∃ z, n = z + 4 := ⟨n - 4, by omega⟩
  rw [show lp_MD_book_50 n n 0 μ = lp_MD_book_50 n (k + 4) 0 μ by rw [← hk]]
  rw [show (0 : Int32) = nI 0 from rfl]
  simp only [lp_MD_book_50]
  rw [if_neg (by decide), if_neg (by decide), if_neg (by decide), if_pos (by decide)]
  rfl
theorem m_book {n : Nat} (hn : 5000 ≤ n) {μ : kbM} {A : zA} (hA : zOk A) (h : rM μ A) {x : pX} (hx : xOk x) (hl : x.2 ≤ A.2.2.2.2.1.1) (hby : ∀ i, i < x.2 → A.2.2.2.2.1.2 i = nI (x.1 i)) : ∃ v μ', f_MD_book n (nI x.2) μ = some (v, μ') ∧ μ'.1 57 3 = 0 ∧ (∀ z, pBook x = .inl z → v = nI z.1 ∧ 0 < z.1 ∧ z.1 ≤ 5 ∧ rM μ' (aBad A z.2)) ∧ (∀ s, pBook x = .inr s → v = 0 ∧ rM μ' (aGood A s.2)) := by
  have hx6 := hx.1
  have ht := hA.2.2.2.2.1
  obtain ⟨h1, h2, h3, h4, h5, h6, h7⟩ := h
  unfold f_MD_book
  rw [if_neg (nI_pos (by omega)), kW_no (show (13 : Nat) ≠ 3 by decide), h6.1, if_pos (by rw [nI_leI (by omega) (by omega)]; exact hl), lp_book50 (by omega), kn_bs]
  have B : ∀ a, a ≠ 57 → a ≠ 61 → (kbW (kbW (kbW (kbW (kbW (kbW (kbW (kbW (kbW μ 57 3 0) 57 13 0) 57 15 (nI x.2)) 57 14 0) 57 20 0) 57 22 (-1)) 61 3 0) 61 4 0) 61 5 0).1 a = μ.1 a := fun a q1 q2 => by rw [kW_ne q2, kW_ne q2, kW_ne q2, kW_ne q1, kW_ne q1, kW_ne q1, kW_ne q1, kW_ne q1, kW_ne q1]
  have B6 : ∀ k, k ≠ 3 → k ≠ 4 → k ≠ 5 → (kbW (kbW (kbW (kbW (kbW (kbW (kbW (kbW (kbW μ 57 3 0) 57 13 0) 57 15 (nI x.2)) 57 14 0) 57 20 0) 57 22 (-1)) 61 3 0) 61 4 0) 61 5 0).1 61 k = μ.1 61 k := fun k q1 q2 q3 => by rw [kW_no q3, kW_no q2, kW_no q1, kW_ne (by decide), kW_ne (by decide), kW_ne (by decide), kW_ne (by decide), kW_ne (by decide), kW_ne (by decide)]
  have B7 : ∀ k, k ≠ 3 → k ≠ 13 → k ≠ 15 → k ≠ 14 → k ≠ 20 → k ≠ 22 → (kbW (kbW (kbW (kbW (kbW (kbW (kbW (kbW (kbW μ 57 3 0) 57 13 0) 57 15 (nI x.2)) 57 14 0) 57 20 0) 57 22 (-1)) 61 3 0) 61 4 0) 61 5 0).1 57 k = μ.1 57 k := fun k q1 q2 q3 q4 q5 q6 => by rw [kW_ne (by decide), kW_ne (by decide), kW_ne (by decide), kW_no q6, kW_no q5, kW_no q4, kW_no q3, kW_no q2, kW_no q1]
  have b3 : (kbW (kbW (kbW (kbW (kbW (kbW (kbW (kbW (kbW μ 57 3 0) 57 13 0) 57 15 (nI x.2)) 57 14 0) 57 20 0) 57 22 (-1)) 61 3 0) 61 4 0) 61 5 0).1 57 3 = 0 := by rw [kW_ne (by decide), kW_ne (by decide), kW_ne (by decide), kW_no (by decide), kW_no (by decide), kW_no (by decide), kW_no (by decide), kW_no (by decide), kW_at]
  have b13 : (kbW (kbW (kbW (kbW (kbW (kbW (kbW (kbW (kbW μ 57 3 0) 57 13 0) 57 15 (nI x.2)) 57 14 0) 57 20 0) 57 22 (-1)) 61 3 0) 61 4 0) 61 5 0).1 57 13 = 0 := by rw [kW_ne (by decide), kW_ne (by decide), kW_ne (by decide), kW_no (by decide), kW_no (by decide), kW_no (by decide), kW_no (by decide), kW_at]
  have b15 : (kbW (kbW (kbW (kbW (kbW (kbW (kbW (kbW (kbW μ 57 3 0) 57 13 0) 57 15 (nI x.2)) 57 14 0) 57 20 0) 57 22 (-1)) 61 3 0) 61 4 0) 61 5 0).1 57 15 = nI x.2 := by rw [kW_ne (by decide), kW_ne (by decide), kW_ne (by decide), kW_no (by decide), kW_no (by decide), kW_no (by decide), kW_at]
  have b14 : (kbW (kbW (kbW (kbW (kbW (kbW (kbW (kbW (kbW μ 57 3 0) 57 13 0) 57 15 (nI x.2)) 57 14 0) 57 20 0) 57 22 (-1)) 61 3 0) 61 4 0) 61 5 0).1 57 14 = nI 0 := by rw [kW_ne (by decide), kW_ne (by decide), kW_ne (by decide), kW_no (by decide), kW_no (by decide), kW_at]; rfl
  have b20 : (kbW (kbW (kbW (kbW (kbW (kbW (kbW (kbW (kbW μ 57 3 0) 57 13 0) 57 15 (nI x.2)) 57 14 0) 57 20 0) 57 22 (-1)) 61 3 0) 61 4 0) 61 5 0).1 57 20 = 0 := by rw [kW_ne (by decide), kW_ne (by decide), kW_ne (by decide), kW_no (by decide), kW_at]
  have b22 : (kbW (kbW (kbW (kbW (kbW (kbW (kbW (kbW (kbW μ 57 3 0) 57 13 0) 57 15 (nI x.2)) 57 14 0) 57 20 0) 57 22 (-1)) 61 3 0) 61 4 0) 61 5 0).1 57 22 = -1 := by rw [kW_ne (by decide), kW_ne (by decide), kW_ne (by decide), kW_at]
  have b613 : (kbW (kbW (kbW (kbW (kbW (kbW (kbW (kbW (kbW μ 57 3 0) 57 13 0) 57 15 (nI x.2)) 57 14 0) 57 20 0) 57 22 (-1)) 61 3 0) 61 4 0) 61 5 0).1 61 3 = 0 := by rw [kW_no (by decide), kW_no (by decide), kW_at]
  have b614 : (kbW (kbW (kbW (kbW (kbW (kbW (kbW (kbW (kbW μ 57 3 0) 57 13 0) 57 15 (nI x.2)) 57 14 0) 57 20 0) 57 22 (-1)) 61 3 0) 61 4 0) 61 5 0).1 61 4 = 0 := by rw [kW_no (by decide), kW_at]
  have b615 : (kbW (kbW (kbW (kbW (kbW (kbW (kbW (kbW (kbW μ 57 3 0) 57 13 0) 57 15 (nI x.2)) 57 14 0) 57 20 0) 57 22 (-1)) 61 3 0) 61 4 0) 61 5 0).1 61 5 = 0 := kW_at
  generalize kbW (kbW (kbW (kbW (kbW (kbW (kbW (kbW (kbW μ 57 3 0) 57 13 0) 57 15 (nI x.2)) 57 14 0) 57 20 0) 57 22 (-1)) 61 3 0) 61 4 0) 61 5 0 = κ at B B6 B7 b3 b13 b15 b14 b20 b22 b613 b614 b615
  have T : mTx κ x := ⟨b15, fun i hi => by rw [B 69 (by decide) (by decide), h6.2 i (by omega)]; exact hby i hi⟩
  obtain ⟨μ1, e1, s1, t1⟩ := m_step (n := n) (by omega) hx T (Nat.zero_le _) b14
  have O : mOo κ ([], [], []) := ⟨⟨b615, (fun i hi => absurd hi (Nat.not_lt_zero i))⟩, ⟨b613, (fun i hi => absurd hi (Nat.not_lt_zero i))⟩, b614, (fun i hi => absurd hi (Nat.not_lt_zero i))⟩
  have LW : lw κ κ := ⟨fun _ _ => rfl, fun _ _ => ⟨rfl, rfl⟩, fun _ _ => rfl⟩
  have hs : mSs κ μ1 x (pS0 x) := ⟨T.sm (s1.up (by decide)), by rw [s1.2 20 (by decide)]; exact b20, t1, O.sm s1, LW.sm s1⟩
  obtain ⟨p1, p2⟩ := pS0_ok hx
  obtain ⟨μ2, e2, r2⟩ := m_lines (n := n) (by omega) 600 n μ1 _ (by omega) (by omega) hs p1 p2
  have e2' : lp_MD_book_76 n n 0 μ1 = some μ2 := e2
  have F := fr_lp_MD_book_76 e2'
  have D : ∀ a, a ≠ 57 → a ≠ 61 → a ∉ [61, 62, 63, 64, 65, 66, 67] → μ2.1 a = μ.1 a := fun a q1 q2 q3 => by rw [fr_at F q3 q1, s1.1 a q1]; exact B a q1 q2
  have D7 : ∀ k, k ∉ [14, 16, 17, 18, 19, 20, 21] → μ2.1 57 k = κ.1 57 k := fun k q => by rw [fr_57 F (by decide) q]; exact s1.2 k (fun z => q (by revert z; simp only [List.mem_cons, List.not_mem_nil, or_false]; omega))
  have D8 : ∀ k, k ∉ [14, 16, 17, 18, 19, 20, 21, 3, 13, 15, 22] → μ2.1 57 k = μ.1 57 k := fun k q => by
    simp only [List.mem_cons, List.not_mem_nil, or_false, not_or] at q
    rw [D7 k (by simp only [List.mem_cons, List.not_mem_nil, or_false, not_or]; omega), B7 k (by omega) (by omega) (by omega) (by omega) (by omega) (by omega)]
  rw [e1, kn_bs, e2', kn_bs]
  unfold jn_MD_book_99
  have r2' : mRr κ μ2 x (pBook x) := r2
  cases hp : pBook x with
  | inl z =>
    rw [hp] at r2'
    obtain ⟨f1, f2, f3, f4, l1, l2, l3⟩ := r2'
    rw [if_neg (mFf.ne ⟨f1, f2, f3, f4, l1, l2, l3⟩)]
    have W : ∀ a, a ≠ 57 → a ≠ 68 → (kbW (kbW μ2 57 22 (μ2.1 57 21)) 68 0 (((kbW μ2 57 22 (μ2.1 57 21)).1 68 0) + 1)).1 a = μ2.1 a := fun a q1 q2 => by rw [kW_ne q2, kW_ne q1]
    have W7 : ∀ k, k ≠ 22 → (kbW (kbW μ2 57 22 (μ2.1 57 21)) 68 0 (((kbW μ2 57 22 (μ2.1 57 21)).1 68 0) + 1)).1 57 k = μ2.1 57 k := fun k q => by rw [kW_ne (by decide), kW_no q]
    have W22 : (kbW (kbW μ2 57 22 (μ2.1 57 21)) 68 0 (((kbW μ2 57 22 (μ2.1 57 21)).1 68 0) + 1)).1 57 22 = nI z.2 := by rw [kW_ne (by decide), kW_at]; exact f2
    have W68 : (kbW (kbW μ2 57 22 (μ2.1 57 21)) 68 0 (((kbW μ2 57 22 (μ2.1 57 21)).1 68 0) + 1)).1 68 0 = μ.1 68 0 + 1 := by rw [kW_at, kW_ne (by decide), D 68 (by decide) (by decide) (by decide)]
    have W68' : ∀ k, k ≠ 0 → (kbW (kbW μ2 57 22 (μ2.1 57 21)) 68 0 (((kbW μ2 57 22 (μ2.1 57 21)).1 68 0) + 1)).1 68 k = μ.1 68 k := fun k q => by rw [kW_no q, kW_ne (by decide), D 68 (by decide) (by decide) (by decide)]
    have W20 : (kbW (kbW μ2 57 22 (μ2.1 57 21)) 68 0 (((kbW μ2 57 22 (μ2.1 57 21)).1 68 0) + 1)).1 57 20 = nI z.1 := by rw [W7 20 (by decide)]; exact f1
    generalize kbW (kbW μ2 57 22 (μ2.1 57 21)) 68 0 (((kbW μ2 57 22 (μ2.1 57 21)).1 68 0) + 1) = ν at W W7 W22 W68 W68' W20
    have G : ∀ a, a ≠ 57 → a ≠ 68 → a ∉ [61, 62, 63, 64, 65, 66, 67] → ν.1 a = μ.1 a := fun a q1 q2 q3 => (W a q1 q2).trans (D a q1 (fun e => q3 (by rw [e]; decide)) q3)
    have G7 : ∀ k, k ∉ [14, 16, 17, 18, 19, 20, 21, 3, 13, 15, 22] → ν.1 57 k = μ.1 57 k := fun k q => (W7 k (fun e => q (by rw [e]; decide))).trans (D8 k q)
    refine ⟨_, ν, rfl, ?_, (fun z' e => ?_), (fun s' e => by cases e)⟩
    · rw [W7 3 (by decide), D7 3 (by decide)]; exact b3
    · cases e
      refine ⟨W20, f3, f4, ⟨?_, ?_, ?_, ?_, ?_, ?_, ?_⟩, ?_, fun e he => ?_, ⟨?_, fun i hi => ?_⟩, ⟨?_, fun i hi => ?_⟩, ⟨?_, (fun i hi => absurd hi (Nat.not_lt_zero i))⟩, W22⟩
      · have q := h1.1
        unfold mWords at q ⊢
        rw [G7 27 (by decide), G 70 (by decide) (by decide) (by decide), G 71 (by decide) (by decide) (by decide), G 72 (by decide) (by decide) (by decide)]
        exact q
      · rw [G7 28 (by decide)]; exact h1.2.1
      · rw [G7 29 (by decide)]; exact h1.2.2.1
      · rw [G7 30 (by decide)]; exact h1.2.2.2.1
      · have q := h1.2.2.2.2.1
        unfold mPast mPack at q ⊢
        rw [G 73 (by decide) (by decide) (by decide)]
        exact q
      · have q := h1.2.2.2.2.2.1
        unfold cHeard at q ⊢
        rw [G 89 (by decide) (by decide) (by decide), G 90 (by decide) (by decide) (by decide)]
        exact q
      · intro i hi
        have q := h1.2.2.2.2.2.2
        show ν.1 68 i = if i = 0 then A.1.2.2.2 0 + 1 else A.1.2.2.2 i
        by_cases e0 : i = 0
        · rw [if_pos e0, e0, W68, q 0 (by decide)]
        · rw [if_neg e0, W68' i e0, q i hi]
      · rw [G7 52 (by decide)]; exact h2
      · have q := h3 e he
        unfold mImg mPast mPack cHeard at q ⊢
        rw [G7 53 (by decide), G7 54 (by decide), G 92 (by decide) (by decide) (by decide), G 93 (by decide) (by decide) (by decide), G 94 (by decide) (by decide) (by decide), G 95 (by decide) (by decide) (by decide), G 96 (by decide) (by decide) (by decide)]
        exact q
      · rw [W 61 (by decide) (by decide), l1 1 (by decide), B6 1 (by decide) (by decide) (by decide)]; exact h4.1
      · have d6 := hA.doors.1
        have hi' : i < A.2.2.1.length := hi
        rw [W 65 (by decide) (by decide), W 66 (by decide) (by decide), (l2 i (by omega)).1, (l2 i (by omega)).2, B 65 (by decide) (by decide), B 66 (by decide) (by decide)]
        exact h4.2 i hi
      · rw [W 61 (by decide) (by decide), l1 2 (by decide), B6 2 (by decide) (by decide) (by decide)]; exact h5.1
      · have c6 := hA.2.2.2.1.2.1
        have hi' : i < A.2.2.2.1.length := hi
        rw [W 67 (by decide) (by decide), l3 i (by omega), B 67 (by decide) (by decide)]
        exact h5.2 i hi
      · rw [W7 13 (by decide), D7 13 (by decide)]; exact b13
  | inr s =>
    rw [hp] at r2'
    obtain ⟨k1, k2, k3, k4, k5⟩ := r2'
    obtain ⟨q1, q2⟩ := pLines_ok 600 _ _ p1 p2 hp
    obtain ⟨ν, e3, w1, w2, w3, w4, w5, w6, w7⟩ := m_take (n := n) (by omega) k4 q2
    have F3 := fr_f_MD_takeOver e3
    rw [if_pos k2, e3, kn_bs]
    refine ⟨0, ν, rfl, ?_, (fun z' e => by cases e), (fun s' e => ?_)⟩
    · rw [fr_57 F3 (by decide) (by decide), D7 3 (by decide)]; exact b3
    · cases e
      refine ⟨rfl, ⟨w1, w4, w5, w6, (fun i hi => absurd hi (Nat.not_lt_zero i)), (fun i hi => absurd hi (Nat.not_lt_zero i)), fun i hi => ?_⟩, w7, (fun e he => by cases he), w2, w3, ⟨?_, (fun i hi => absurd hi (Nat.not_lt_zero i))⟩, ?_⟩
      · rw [fr_at F3 (by decide) (by decide), D 68 (by decide) (by decide) (by decide)]
        exact h1.2.2.2.2.2.2 i hi
      · rw [fr_57 F3 (by decide) (by decide), D7 13 (by decide)]; exact b13
      · rw [fr_57 F3 (by decide) (by decide), D7 22 (by decide)]; exact b22
