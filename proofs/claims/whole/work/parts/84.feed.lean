/-! restore, feed -/
theorem op_34 {n : Nat} (hn : 5000 ≤ n) {μ : kbM} (hI : kbInv μ) : ∃ μ', c_law_34 n μ = some μ' ∧ kbInv μ' := by
  obtain ⟨A, hA, hC, hM⟩ := hI
  cases hi : A.2.1 with
  | none =>
    have r2 := hC.2.1
    rw [hi] at r2
    have m2 := (hM.c0 0).2.1
    rw [hi] at m2
    refine ⟨kbW μ 57 3 0, ?_, A, hA, hC.c0 0, hM.c0 0⟩
    unfold c_law_34 f_KB_restore f_MD_restore
    rw [r2]
    simp only [Option.isSome_none, zBf, if_true, kn_bs]
    rw [m2]
    simp only [Option.isSome_none, zBf, if_true, kn_bs]
  | some e =>
    have hs := hA.2.1 e hi
    obtain ⟨x, ex, c1, c2, c3, c4, c5, c6, c7, c8, c9⟩ := st_copy_12 μ
    have h1 : f_KB_restore μ = some (1, kbRn x) := by
      have r2 := hC.2.1
      rw [hi] at r2
      unfold f_KB_restore
      rw [r2, if_neg (show ¬ zB (some e).isSome = 0 by decide), ex, kn_bs, jo_renew, kn_bs]
    have f1 := fr_f_KB_restore h1
    have hM0 := hM.fr f1 (by decide) (by decide)
    have hC1 : rC (kbRn x) (e, A.2) := by
      refine hC.ses (fun c hc => ?_) ?_ (kRn_known x hs.1.1.1 _)
      · rw [kRn_ne (by revert c; decide), c9 c (by revert c; decide)]
      · refine cSes.copy (o := 22) (μ := μ) hs.1.1.1 hs.2.1 hs.2.2.2.2.1 ?_ ?_ ?_ ?_ ?_ ?_ ?_ ?_ (hC.2.2.1 e hi)
        · rw [kRn_ne (by decide)]; exact c1
        · intro i hi; rw [kRn_ne (by decide), kRn_ne (by decide), kRn_ne (by decide), kRn_ne (by decide)]; exact c2 i hi
        · intro i hi; rw [kRn_ne (by decide)]; exact c3 i hi
        · intro i hi; rw [kRn_ne (by decide), kRn_ne (by decide)]; exact c4 i hi
        · intro i hi; rw [kRn_ne (by decide)]; exact c5 i hi
        · rw [kRn_ne (by decide)]; exact c6
        · rw [kRn_ne (by decide)]; exact c7
        · rw [kRn_ne (by decide)]; exact c8
    obtain ⟨s1, s2, s3, s4, s5, s6⟩ := hM0.2.2.1 e hi
    have m2 := (hM0.c0 0).2.1
    rw [hi] at m2
    obtain ⟨y1, e1, w1, w28, q1, q1'⟩ := m_unpack_92 (n := n) (by omega) (μ := kbW (kbW (kbW (kbRn x) 57 3 0) 57 29 (nI e.2.1.length)) 57 30 (nI e.2.2.1.length)) (s := e.1) (o := 0) (s1.congr hs.1.1.1 (fun j hj => by rw [kW_ne (by decide), kW_ne (by decide), kW_ne (by decide)])) hs.1.1.1 (by decide)
    obtain ⟨y2, e2, p2, q2⟩ := m_be_73 (n := n) (by omega) y1
    obtain ⟨y3, e3, p3, q3⟩ := m_be_89 (n := n) (by omega) y2
    obtain ⟨y4, e4, p4, q4⟩ := m_be_90 (n := n) (by omega) y3
    obtain ⟨y5, e5, p5, q5⟩ := m_be_68 (n := n) (by omega) y4
    have h2 : f_MD_restore n (kbRn x) = some (1, y5) := by
      have s3' : (kbW (kbRn x) 57 3 0).1 57 53 = nI e.2.1.length := by simp (disch := omega) only [kn_if_t, kn_bs, kn_or_l, kn_or_r, kn_inT, nI_clamp, nI_leI, nI_ltI, nI_eq, nI_add, pk_mul, nI_1, kn_eq0, kn_lt0, kn_le0, kn_0le, kn_div, kn_rem, kn_or, kn_and, kn_or0, kn_ad0, kn_shl1, kn_bitB, zBt, zBf, zB1t, zB1f, zB_01, zB_10, kl_2, kl_3, kl_4, kl_5, kl_6, kl_7, kl_8, kl_10, kl_12, kl_13, if_pos, if_neg, ↓reduceIte, eq_self, not_true_eq_false, not_false_eq_true, Nat.add_zero, Nat.or_zero, reduceCtorEq, or_true, true_or, or_false, false_or, decide_true, decide_false, kn_sub1, sb_m1, pk_sub, kW_ne, kW_at, kW_no, kA_ne, kA_eq, ite_self, and_self, true_and, and_true]; exact s2
      have s4' : (kbW (kbW (kbRn x) 57 3 0) 57 29 (nI e.2.1.length)).1 57 54 = nI e.2.2.1.length := by simp (disch := omega) only [kn_if_t, kn_bs, kn_or_l, kn_or_r, kn_inT, nI_clamp, nI_leI, nI_ltI, nI_eq, nI_add, pk_mul, nI_1, kn_eq0, kn_lt0, kn_le0, kn_0le, kn_div, kn_rem, kn_or, kn_and, kn_or0, kn_ad0, kn_shl1, kn_bitB, zBt, zBf, zB1t, zB1f, zB_01, zB_10, kl_2, kl_3, kl_4, kl_5, kl_6, kl_7, kl_8, kl_10, kl_12, kl_13, if_pos, if_neg, ↓reduceIte, eq_self, not_true_eq_false, not_false_eq_true, Nat.add_zero, Nat.or_zero, reduceCtorEq, or_true, true_or, or_false, false_or, decide_true, decide_false, kn_sub1, sb_m1, pk_sub, kW_ne, kW_at, kW_no, kA_ne, kA_eq, ite_self, and_self, true_and, and_true]; exact s3
      have e1' : f_MD_unpack_92 n 0 (kbW (kbW (kbW (kbRn x) 57 3 0) 57 29 (nI e.2.1.length)) 57 30 (nI e.2.2.1.length)) = some y1 := e1
      unfold f_MD_restore
      rw [m2, if_neg (show ¬ zB (some e).isSome = 0 by decide), s3', s4', e1', kn_bs, e2, kn_bs, e3, kn_bs, e4, kn_bs, e5, kn_bs]
    have f2 := fr_f_MD_restore h2
    refine ⟨y5, ?_, (e, A.2), hA.ses hs, hC1.fr f2 (by decide) (by decide), ?_⟩
    · unfold c_law_34
      rw [h1, kn_bs, h2, kn_bs, if_pos rfl]
    · have g : ∀ c, c ≠ 57 → c ≠ 70 → c ≠ 71 → c ≠ 72 → c ≠ 73 → c ≠ 89 → c ≠ 90 → c ≠ 68 → y5.1 c = (kbRn x).1 c := fun c a1 a2 a3 a4 a5 a6 a7 a8 => by
        rw [q5 c a8, q4 c a7, q3 c a6, q2 c a5, q1 c a1 a2 a3 a4, kW_ne a1, kW_ne a1, kW_ne a1]
      have g7 : ∀ k, y5.1 57 k = y1.1 57 k := fun k => by
        rw [q5 57 (by decide), q4 57 (by decide), q3 57 (by decide), q2 57 (by decide)]
      have g8 : ∀ c, c ≠ 73 → c ≠ 89 → c ≠ 90 → c ≠ 68 → y5.1 c = y1.1 c := fun c a5 a6 a7 a8 => by
        rw [q5 c a8, q4 c a7, q3 c a6, q2 c a5]
      have g9 : ∀ k, k ≠ 3 → k ≠ 27 → k ≠ 28 → k ≠ 29 → k ≠ 30 → y5.1 57 k = (kbRn x).1 57 k := fun k a1 a2 a3 a4 a5 => by
        rw [g7, q1' k a2 a3, kW_no a5, kW_no a4, kW_no a1]
      refine hM0.ses (fun c hc => ?_) (fun k hk => ?_) ⟨?_, ?_, ?_, ?_, ?_, ?_, ?_⟩
      · exact g c (by revert c; decide) (by revert c; decide) (by revert c; decide) (by revert c; decide) (by revert c; decide) (by revert c; decide) (by revert c; decide) (by revert c; decide)
      · exact g9 k (by revert k; decide) (by revert k; decide) (by revert k; decide) (by revert k; decide) (by revert k; decide)
      · exact w1.cg (g7 27) (fun c hc => g8 c (by revert c; decide) (by revert c; decide) (by revert c; decide) (by revert c; decide))
      · rw [g7]; exact w28
      · rw [g7, q1' 29 (by decide) (by decide), kW_no (by decide), kW_at]
      · rw [g7, q1' 30 (by decide) (by decide), kW_at]
      · refine s4.copy hs.2.1 hs.past (fun q hq => ?_)
        rw [q5 73 (by decide), q4 73 (by decide), q3 73 (by decide), p2 q hq, q1 93 (by decide) (by decide) (by decide) (by decide), kW_ne (by decide), kW_ne (by decide), kW_ne (by decide)]
      · refine s5.copy hs.2.2.2.2.1 (fun q hq => ?_) (fun q hq => ?_)
        · rw [q5 89 (by decide), q4 89 (by decide), p3 q hq, q2 94 (by decide), q1 94 (by decide) (by decide) (by decide) (by decide), kW_ne (by decide), kW_ne (by decide), kW_ne (by decide)]
        · rw [q5 90 (by decide), p4 q hq, q3 95 (by decide), q2 95 (by decide), q1 95 (by decide) (by decide) (by decide) (by decide), kW_ne (by decide), kW_ne (by decide), kW_ne (by decide)]
      · intro i hi'
        rw [p5 i hi', q4 96 (by decide), q3 96 (by decide), q2 96 (by decide), q1 96 (by decide) (by decide) (by decide) (by decide), kW_ne (by decide), kW_ne (by decide), kW_ne (by decide)]
        exact s6 i hi'
/-! feed -/
def zB4 (x : Int32) (r : Nat) : Int32 := kbUsh x (24 - nI r * 8) &&& 255
theorem zB4_shr (x : Int32) : ∀ r, r < 4 → kbShr x (24 - 8 * nI r) &&& 255 = zB4 x r := by
  intro r hr
  unfold zB4 kbShr kbUsh
  rcases (show r = 0 ∨ r = 1 ∨ r = 2 ∨ r = 3 by omega) with rfl | rfl | rfl | rfl
  all_goals
    apply Int32.toBitVec_inj.mp
    apply BitVec.eq_of_getLsbD_eq
    intro i hi
  · sorry
  · sorry
  · sorry
  · sorry
def zU5 (u1 u2 u3 u4 u5 : Int32) (k : Nat) : Int32 := if k < 4 then (if k < 0 then u1 else u1) else if k < 8 then u2 else if k < 12 then u3 else if k < 16 then u4 else u5
