/-! restore, feed -/
theorem op_34 {n : Nat} (hn : 5000 ≤ n) {μ : kbM} (hI : kbInv μ) : ∃ μ', c_law_34 n μ = some μ' ∧ kbInv μ' := by
  obtain ⟨A, hA, hC, hM⟩ := hI
  cases hi : A.2.1 with
  | none =>
    have r2 := hC.2.1
    rw [hi] at r2
    have m2 := (hM.c0 0).2.1
    rw [hi] at m2
    refine ⟨kbW μ 57 3 0, ?_, A, hA, hC.c0 0, hM.c0 0⟩
    unfold c_law_34 f_KB_restore f_MD_restore
    rw [r2]
    simp only [Option.isSome_none, zBf, if_true, kn_bs]
    rw [m2]
    simp only [Option.isSome_none, zBf, if_true, kn_bs]
  | some e =>
    have hs := hA.2.1 e hi
    obtain ⟨x, ex, c1, c2, c3, c4, c5, c6, c7, c8, c9⟩ := st_copy_12 μ
    have h1 : f_KB_restore μ = some (1, kbRn x) := by
      have r2 := hC.2.1
      rw [hi] at r2
      unfold f_KB_restore
      rw [r2, Option.isSome_some, if_neg (show ¬ zB true = 0 by decide), ex, kn_bs, jo_renew, kn_bs]
    have f1 := fr_f_KB_restore h1
    have hM0 := hM.fr f1 (by decide) (by decide)
    have hC1 : rC (kbRn x) (e, A.2) := by
      refine hC.ses (fun c hc => ?_) ?_ (kRn_known x hs.1.1.1 _)
      · rw [kRn_ne (by revert c; decide), c9 c (by revert c; decide)]
      · refine cSes.copy (o := 22) (μ := μ) hs.1.1.1 hs.2.1 hs.2.2.2.2.1 ?_ ?_ ?_ ?_ ?_ ?_ ?_ ?_ (hC.2.2.1 e hi)
        · rw [kRn_ne (by decide)]; exact c1
        · intro i hi; rw [kRn_ne (by decide), kRn_ne (by decide), kRn_ne (by decide), kRn_ne (by decide)]; exact c2 i hi
        · intro i hi; rw [kRn_ne (by decide)]; exact c3 i hi
        · intro i hi; rw [kRn_ne (by decide), kRn_ne (by decide)]; exact c4 i hi
        · intro i hi; rw [kRn_ne (by decide)]; exact c5 i hi
        · rw [kRn_ne (by decide)]; exact c6
        · rw [kRn_ne (by decide)]; exact c7
        · rw [kRn_ne (by decide)]; exact c8
    obtain ⟨s1, s2, s3, s4, s5, s6⟩ := hM0.2.2.1 e hi
    have m2 := (hM0.c0 0).2.1
    rw [hi] at m2
    obtain ⟨y1, e1, w1, w28, q1, q1'⟩ := m_unpack_92 (n := n) (by omega) (μ := kbW (kbW (kbW (kbRn x) 57 3 0) 57 29 (nI e.2.1.length)) 57 30 (nI e.2.2.1.length)) (s := e.1) (o := 0) (s1.congr hs.1.1.1 (fun j hj => by rw [kW_ne (by decide), kW_ne (by decide), kW_ne (by decide)])) hs.1.1.1 (by decide)
    obtain ⟨y2, e2, p2, q2⟩ := m_be_73 (n := n) (by omega) y1
    obtain ⟨y3, e3, p3, q3⟩ := m_be_89 (n := n) (by omega) y2
    obtain ⟨y4, e4, p4, q4⟩ := m_be_90 (n := n) (by omega) y3
    obtain ⟨y5, e5, p5, q5⟩ := m_be_68 (n := n) (by omega) y4
    have h2 : f_MD_restore n (kbRn x) = some (1, y5) := by
      have s3' : (kbW (kbRn x) 57 3 0).1 57 53 = nI e.2.1.length := by simp (disch := omega) only [kn_if_t, kn_bs, kn_or_l, kn_or_r, kn_inT, nI_clamp, nI_leI, nI_ltI, nI_eq, nI_add, pk_mul, nI_1, kn_eq0, kn_lt0, kn_le0, kn_0le, kn_div, kn_rem, kn_or, kn_and, kn_or0, kn_ad0, kn_shl1, kn_bitB, zBt, zBf, zB1t, zB1f, zB_01, zB_10, kl_2, kl_3, kl_4, kl_5, kl_6, kl_7, kl_8, kl_10, kl_12, kl_13, if_pos, if_neg, ↓reduceIte, eq_self, not_true_eq_false, not_false_eq_true, Nat.add_zero, Nat.or_zero, reduceCtorEq, or_true, true_or, or_false, false_or, decide_true, decide_false, kn_sub1, sb_m1, pk_sub, kW_ne, kW_at, kW_no, kA_ne, kA_eq, ite_self, and_self, true_and, and_true]; exact s2
      have s4' : (kbW (kbW (kbRn x) 57 3 0) 57 29 (nI e.2.1.length)).1 57 54 = nI e.2.2.1.length := by simp (disch := omega) only [kn_if_t, kn_bs, kn_or_l, kn_or_r, kn_inT, nI_clamp, nI_leI, nI_ltI, nI_eq, nI_add, pk_mul, nI_1, kn_eq0, kn_lt0, kn_le0, kn_0le, kn_div, kn_rem, kn_or, kn_and, kn_or0, kn_ad0, kn_shl1, kn_bitB, zBt, zBf, zB1t, zB1f, zB_01, zB_10, kl_2, kl_3, kl_4, kl_5, kl_6, kl_7, kl_8, kl_10, kl_12, kl_13, if_pos, if_neg, ↓reduceIte, eq_self, not_true_eq_false, not_false_eq_true, Nat.add_zero, Nat.or_zero, reduceCtorEq, or_true, true_or, or_false, false_or, decide_true, decide_false, kn_sub1, sb_m1, pk_sub, kW_ne, kW_at, kW_no, kA_ne, kA_eq, ite_self, and_self, true_and, and_true]; exact s3
      have e1' : f_MD_unpack_92 n 0 (kbW (kbW (kbW (kbRn x) 57 3 0) 57 29 (nI e.2.1.length)) 57 30 (nI e.2.2.1.length)) = some y1 := e1
      unfold f_MD_restore
      rw [m2, Option.isSome_some, if_neg (show ¬ zB true = 0 by decide), s3', s4', e1', kn_bs, e2, kn_bs, e3, kn_bs, e4, kn_bs, e5, kn_bs]
    have f2 := fr_f_MD_restore h2
    refine ⟨y5, ?_, (e, A.2), hA.ses hs, hC1.fr f2 (by decide) (by decide), ?_⟩
    · unfold c_law_34
      rw [h1, kn_bs, h2, kn_bs, if_pos rfl]
    · have g : ∀ c, c ≠ 57 → c ≠ 70 → c ≠ 71 → c ≠ 72 → c ≠ 73 → c ≠ 89 → c ≠ 90 → c ≠ 68 → y5.1 c = (kbRn x).1 c := fun c a1 a2 a3 a4 a5 a6 a7 a8 => by
        rw [q5 c a8, q4 c a7, q3 c a6, q2 c a5, q1 c a1 a2 a3 a4, kW_ne a1, kW_ne a1, kW_ne a1]
      have g7 : ∀ k, y5.1 57 k = y1.1 57 k := fun k => by
        rw [q5 57 (by decide), q4 57 (by decide), q3 57 (by decide), q2 57 (by decide)]
      have g8 : ∀ c, c ≠ 73 → c ≠ 89 → c ≠ 90 → c ≠ 68 → y5.1 c = y1.1 c := fun c a5 a6 a7 a8 => by
        rw [q5 c a8, q4 c a7, q3 c a6, q2 c a5]
      have g9 : ∀ k, k ≠ 3 → k ≠ 27 → k ≠ 28 → k ≠ 29 → k ≠ 30 → y5.1 57 k = (kbRn x).1 57 k := fun k a1 a2 a3 a4 a5 => by
        rw [g7, q1' k a2 a3, kW_no a5, kW_no a4, kW_no a1]
      refine hM0.ses (fun c hc => ?_) (fun k hk => ?_) ⟨?_, ?_, ?_, ?_, ?_, ?_, ?_⟩
      · exact g c (by revert c; decide) (by revert c; decide) (by revert c; decide) (by revert c; decide) (by revert c; decide) (by revert c; decide) (by revert c; decide) (by revert c; decide)
      · exact g9 k (by revert k; decide) (by revert k; decide) (by revert k; decide) (by revert k; decide) (by revert k; decide)
      · exact w1.cg (g7 27) (fun c hc => g8 c (by revert c; decide) (by revert c; decide) (by revert c; decide) (by revert c; decide))
      · rw [g7]; exact w28
      · rw [g7, q1' 29 (by decide) (by decide), kW_no (by decide), kW_at]
      · rw [g7, q1' 30 (by decide) (by decide), kW_at]
      · refine s4.copy hs.2.1 hs.past (fun q hq => ?_)
        rw [q5 73 (by decide), q4 73 (by decide), q3 73 (by decide), p2 q hq, q1 93 (by decide) (by decide) (by decide) (by decide), kW_ne (by decide), kW_ne (by decide), kW_ne (by decide)]
      · refine s5.copy hs.2.2.2.2.1 (fun q hq => ?_) (fun q hq => ?_)
        · rw [q5 89 (by decide), q4 89 (by decide), p3 q hq, q2 94 (by decide), q1 94 (by decide) (by decide) (by decide) (by decide), kW_ne (by decide), kW_ne (by decide), kW_ne (by decide)]
        · rw [q5 90 (by decide), p4 q hq, q3 95 (by decide), q2 95 (by decide), q1 95 (by decide) (by decide) (by decide) (by decide), kW_ne (by decide), kW_ne (by decide), kW_ne (by decide)]
      · intro i hi'
        rw [p5 i hi', q4 96 (by decide), q3 96 (by decide), q2 96 (by decide), q1 96 (by decide) (by decide) (by decide) (by decide), kW_ne (by decide), kW_ne (by decide), kW_ne (by decide)]
        exact s6 i hi'
/-! bits (begun from the kit's BITS.to-paste) -/
def bt (x : Int32) (i : Nat) : Bool := x.toBitVec.getLsbD i
theorem b_ext {x y : Int32} (h : ∀ i, i < 32 → bt x i = bt y i) : x = y := Int32.toBitVec_inj.mp (BitVec.eq_of_getLsbD_eq (fun i hi => h i hi))
theorem b_or (x y : Int32) (i : Nat) : bt (x ||| y) i = (bt x i || bt y i) := by unfold bt; rw [Int32.toBitVec_or, BitVec.getLsbD_or]
theorem b_and (x y : Int32) (i : Nat) : bt (x &&& y) i = (bt x i && bt y i) := by unfold bt; rw [Int32.toBitVec_and, BitVec.getLsbD_and]
theorem b_xor (x y : Int32) (i : Nat) : bt (x ^^^ y) i = (bt x i ^^ bt y i) := by unfold bt; rw [Int32.toBitVec_xor, BitVec.getLsbD_xor]
theorem b_big {x : Int32} {i : Nat} (h : 32 ≤ i) : bt x i = false := BitVec.getLsbD_of_ge _ _ h
theorem b_255 (i : Nat) : bt 255 i = decide (i < 8) := by
  rcases Nat.lt_or_ge i 32 with h | h
  · exact (by decide +kernel : ∀ i, i < 32 → bt 255 i = decide (i < 8)) i h
  · rw [b_big h, decide_eq_false (by omega)]
theorem b_65535 (i : Nat) : bt 65535 i = decide (i < 16) := by
  rcases Nat.lt_or_ge i 32 with h | h
  · exact (by decide +kernel : ∀ i, i < 32 → bt 65535 i = decide (i < 16)) i h
  · rw [b_big h, decide_eq_false (by omega)]
theorem b_m1 : ∀ i, i < 32 → bt (-1) i = true := by decide +kernel
theorem b_0 (i : Nat) : bt 0 i = false := BitVec.getLsbD_zero
theorem s_l : ∀ n, n < 32 → ((nI n &&& 31).toBitVec.smod 32).toNat = n := by decide +kernel
theorem s_u : ∀ n, n < 32 → (((nI n).toUInt32 &&& Int32.toUInt32 31).toBitVec % 32).toNat = n := by decide +kernel
theorem b_shl (n : Nat) (hn : n < 32) (x : Int32) {i : Nat} (hi : i < 32) : bt (x <<< (nI n &&& 31)) i = (decide (n ≤ i) && bt x (i - n)) := by
  unfold bt
  rw [Int32.toBitVec_shiftLeft]
  show (x.toBitVec <<< ((nI n &&& 31).toBitVec.smod 32).toNat).getLsbD i = _
  rw [s_l n hn, BitVec.getLsbD_shiftLeft]
  rcases Nat.lt_or_ge i n with h | h
  · simp [h, Nat.not_le.mpr h]
  · simp [hi, h, Nat.not_lt.mpr h]
theorem b_ushr (n : Nat) (hn : n < 32) (x : Int32) (i : Nat) : bt ((x.toUInt32 >>> ((nI n).toUInt32 &&& Int32.toUInt32 31)).toInt32) i = bt x (n + i) := by
  show (x.toUInt32 >>> ((nI n).toUInt32 &&& Int32.toUInt32 31)).toBitVec.getLsbD i = x.toUInt32.toBitVec.getLsbD (n + i)
  rw [UInt32.toBitVec_shiftRight]
  show (x.toUInt32.toBitVec >>> (((nI n).toUInt32 &&& Int32.toUInt32 31).toBitVec % 32).toNat).getLsbD i = _
  rw [s_u n hn, BitVec.getLsbD_ushiftRight]
theorem b_sshr (n : Nat) (hn : n < 32) (x : Int32) {i : Nat} (hi : i < 32) : bt (x >>> (nI n &&& 31)) i = if n + i < 32 then bt x (n + i) else bt x 31 := by
  unfold bt
  rw [Int32.toBitVec_shiftRight]
  show (x.toBitVec.sshiftRight ((nI n &&& 31).toBitVec.smod 32).toNat).getLsbD i = _
  rw [s_l n hn, BitVec.getLsbD_sshiftRight, BitVec.msb_eq_getLsbD_last]
  simp [hi]
/-! feed -/
def zB4 (x : Int32) (r : Nat) : Int32 := kbUsh x (24 - nI r * 8) &&& 255
theorem zB4_sh {n : Nat} (hn : n < 25) (x : Int32) : (x >>> (nI n &&& 31)) &&& 255 = (x.toUInt32 >>> ((nI n).toUInt32 &&& Int32.toUInt32 31)).toInt32 &&& 255 := by
  apply b_ext
  intro i hi
  rw [b_and, b_and, b_sshr n (by omega) x hi, b_ushr n (by omega), b_255]
  by_cases h : i < 8
  · rw [if_pos (by omega)]
  · rw [decide_eq_false h, Bool.and_false, Bool.and_false]
theorem zB4_shr (x : Int32) : ∀ r, r < 4 → kbShr x (24 - 8 * nI r) &&& 255 = zB4 x r := by
  intro r hr
  unfold zB4 kbShr kbUsh
  rcases (show r = 0 ∨ r = 1 ∨ r = 2 ∨ r = 3 by omega) with rfl | rfl | rfl | rfl
  · exact zB4_sh (n := 24) (by decide) x
  · exact zB4_sh (n := 16) (by decide) x
  · exact zB4_sh (n := 8) (by decide) x
  · exact zB4_sh (n := 0) (by decide) x
def zU5 (u1 u2 u3 u4 u5 : Int32) (k : Nat) : Int32 := if k = 0 then u1 else if k = 1 then u2 else if k = 2 then u3 else if k = 3 then u4 else u5
def zFeed (t : Nat) (f : Nat → Int32) (U : Nat → Int32) : Nat → Int32 := fun i => if i < t then f i else zB4 (U ((i - t) / 4)) ((i - t) % 4)
theorem c_append {μ : kbM} {q : Nat} (hq : q < 150) (h : μ.1 1 4 = nI (4 * q)) (u : Int32) : f_BT_append u μ = some (kbW (kbW μ 2 q u) 1 4 (nI (4 * (q + 1)))) := by
  have e : 4 * q / 4 = q := by omega
  simp (disch := omega) only [kn_if_t, kn_bs, kn_or_l, kn_or_r, kn_inT, nI_clamp, nI_leI, nI_ltI, nI_eq, nI_add, pk_mul, nI_1, kn_eq0, kn_lt0, kn_le0, kn_0le, kn_div, kn_rem, kn_or, kn_and, kn_or0, kn_ad0, kn_shl1, kn_bitB, zBt, zBf, zB1t, zB1f, zB_01, zB_10, kl_2, kl_3, kl_4, kl_5, kl_6, kl_7, kl_8, kl_10, kl_12, kl_13, if_pos, if_neg, ↓reduceIte, eq_self, not_true_eq_false, not_false_eq_true, Nat.add_zero, Nat.or_zero, reduceCtorEq, or_true, true_or, or_false, false_or, decide_true, decide_false, kn_sub1, sb_m1, pk_sub, kW_ne, kW_at, kW_no, kA_ne, kA_eq, ite_self, and_self, true_and, and_true, f_BT_append, jn_BT_append_34, h, show (600 : Int32) = nI 600 from rfl, e, Nat.mul_add, Nat.mul_one]
theorem zA_feed {A : zA} (t : Nat × (Nat → Int32)) : zOk A → t.1 ≤ 600 → t.1 % 20 = 0 → zOk (A.1, A.2.1, A.2.2.1, A.2.2.2.1, t, A.2.2.2.2.2) := fun h h1 h2 => ⟨h.1, h.2.1, h.2.2.1, h.2.2.2.1, h1, h2⟩
theorem rC.tape {μ μ' : kbM} {A : zA} {t : Nat × (Nat → Int32)} (h : ∀ a, a ≠ 1 → a ≠ 2 → μ'.1 a = μ.1 a) (h11 : μ'.1 1 11 = μ.1 1 11) (hr : rC μ A) (ht : cTape μ' t) : rC μ' (A.1, A.2.1, A.2.2.1, A.2.2.2.1, t, A.2.2.2.2.2) := by
  obtain ⟨h1, h2, h3, h4, h5, h6, h7, h8⟩ := hr
  refine ⟨cSes.congr (fun a ha => h a (by revert a; decide) (by revert a; decide)) h1, by rw [h 0 (by decide) (by decide)]; exact h2, fun e he => cSes.congr (fun a ha => h a (by revert a; decide) (by revert a; decide)) (h3 e he), ?_, ?_, ?_, ht, by rw [h11]; exact h8⟩
  · unfold cDoors at h4 ⊢; rw [h 32 (by decide) (by decide), h 33 (by decide) (by decide), h 34 (by decide) (by decide)]; exact h4
  · unfold cCode at h5 ⊢; rw [h 35 (by decide) (by decide), h 36 (by decide) (by decide)]; exact h5
  · unfold cKnown at h6 ⊢; rw [h 38 (by decide) (by decide)]; exact h6
theorem rM.tape {μ μ' : kbM} {A : zA} {t : Nat × (Nat → Int32)} (h : ∀ a, a ≠ 57 → a ≠ 69 → μ'.1 a = μ.1 a) (h7 : ∀ k, k ≠ 3 → k ≠ 13 → μ'.1 57 k = μ.1 57 k) (hr : rM μ A) (ht : mTape μ' t) : rM μ' (A.1, A.2.1, A.2.2.1, A.2.2.2.1, t, A.2.2.2.2.2) := by
  obtain ⟨⟨g1, g2, g3, g4, g5, g6, g7⟩, r2, r3, r4, r5, r6, r7⟩ := hr
  refine ⟨⟨g1.cg (h7 27 (by decide) (by decide)) (fun c hc => h c (by revert c; decide) (by revert c; decide)), ?_, ?_, ?_, ?_, ?_, ?_⟩, ?_, fun e he => ?_, ?_, ?_, ht, ?_⟩
  · rw [h7 28 (by decide) (by decide)]; exact g2
  · rw [h7 29 (by decide) (by decide)]; exact g3
  · rw [h7 30 (by decide) (by decide)]; exact g4
  · unfold mPast mPack at g5 ⊢; rw [h 73 (by decide) (by decide)]; exact g5
  · unfold cHeard at g6 ⊢; rw [h 89 (by decide) (by decide), h 90 (by decide) (by decide)]; exact g6
  · rw [h 68 (by decide) (by decide)]; exact g7
  · rw [h7 52 (by decide) (by decide)]; exact r2
  · have := r3 e he
    unfold mImg mPast mPack cHeard at this ⊢
    rw [h7 53 (by decide) (by decide), h7 54 (by decide) (by decide), h 92 (by decide) (by decide), h 93 (by decide) (by decide), h 94 (by decide) (by decide), h 95 (by decide) (by decide), h 96 (by decide) (by decide)]
    exact this
  · unfold mDoors at r4 ⊢; rw [h 61 (by decide) (by decide), h 65 (by decide) (by decide), h 66 (by decide) (by decide)]; exact r4
  · unfold mCode at r5 ⊢; rw [h 61 (by decide) (by decide), h 67 (by decide) (by decide)]; exact r5
  · rw [h7 22 (by decide) (by decide)]; exact r7
theorem m_feed {n : Nat} (hn : 100 ≤ n) (u1 u2 u3 u4 u5 : Int32) {μ : kbM} {t : Nat} {f : Nat → Int32} (h : μ.1 57 13 = nI t) (hf : ∀ i, i < t → μ.1 69 i = f i) (ht : t + 20 ≤ 600) : ∃ μ', lp_MD_feed_23 n u1 u2 u3 u4 u5 n 0 μ = some μ' ∧ mTape μ' (t + 20, zFeed t f (zU5 u1 u2 u3 u4 u5)) ∧ (∀ a, a ≠ 57 → a ≠ 69 → μ'.1 a = μ.1 a) ∧ ∀ k, k ≠ 13 → μ'.1 57 k = μ.1 57 k := by
  obtain ⟨ν, e, h1, h2, h3⟩ := kn_for (fun k (s : Int32 × kbM) => lp_MD_feed_23 n u1 u2 u3 u4 u5 k s.1 s.2)
    (fun j s => s.1 = nI j ∧ mTape s.2 (t + j, zFeed t f (zU5 u1 u2 u3 u4 u5)) ∧ (∀ a, a ≠ 57 → a ≠ 69 → s.2.1 a = μ.1 a) ∧ ∀ k, k ≠ 13 → s.2.1 57 k = μ.1 57 k) 20
    (fun ν => mTape ν (t + 20, zFeed t f (zU5 u1 u2 u3 u4 u5)) ∧ (∀ a, a ≠ 57 → a ≠ 69 → ν.1 a = μ.1 a) ∧ ∀ k, k ≠ 13 → ν.1 57 k = μ.1 57 k)
    (fun k s hs => by
      obtain ⟨v, ν⟩ := s
      simp only at hs
      obtain ⟨rfl, h1, h2, h3⟩ := hs
      exact ⟨ν, by simp (disch := omega) only [kn_if_t, kn_bs, kn_or_l, kn_or_r, kn_inT, nI_clamp, nI_leI, nI_ltI, nI_eq, nI_add, pk_mul, nI_1, kn_eq0, kn_lt0, kn_le0, kn_0le, kn_div, kn_rem, kn_or, kn_and, kn_or0, kn_ad0, kn_shl1, kn_bitB, zBt, zBf, zB1t, zB1f, zB_01, zB_10, kl_2, kl_3, kl_4, kl_5, kl_6, kl_7, kl_8, kl_10, kl_12, kl_13, if_pos, if_neg, ↓reduceIte, eq_self, not_true_eq_false, not_false_eq_true, Nat.add_zero, Nat.or_zero, reduceCtorEq, or_true, true_or, or_false, false_or, decide_true, decide_false, kn_sub1, sb_m1, pk_sub, kW_ne, kW_at, kW_no, kA_ne, kA_eq, ite_self, and_self, true_and, and_true, lp_MD_feed_23, show (20 : Int32) = nI 20 from rfl], h1, h2, h3⟩)
    (fun k j s hj hs => by
      obtain ⟨v, ν⟩ := s
      simp only at hs
      obtain ⟨rfl, h1, h2, h3⟩ := hs
      have g := h1.1
      simp only at g
      refine Or.inr ⟨(nI (j + 1), kbW (kbW ν 69 (t + j) (zB4 (zU5 u1 u2 u3 u4 u5 (j / 4)) (j % 4))) 57 13 (nI (t + j + 1))), ?_, rfl, ⟨?_, fun i hi => ?_⟩, fun a ha hb => ?_, fun k hk => ?_⟩
      · have hz : ∀ x, kbShr x (24 - nI (8 * (j % 4))) &&& 255 = zB4 x (j % 4) := fun x => by
          have := zB4_shr x (j % 4) (by omega)
          rw [kl_8, pk_mul] at this
          exact this
        have h5 : j < 4 ∨ (4 ≤ j ∧ j < 8) ∨ (8 ≤ j ∧ j < 12) ∨ (12 ≤ j ∧ j < 16) ∨ (16 ≤ j ∧ j < 20) := by omega
        rcases h5 with q | q | q | q | q
        · have e4 : j / 4 = 0 := by omega
          simp (disch := omega) only [kn_if_t, kn_bs, kn_or_l, kn_or_r, kn_inT, nI_clamp, nI_leI, nI_ltI, nI_eq, nI_add, pk_mul, nI_1, kn_eq0, kn_lt0, kn_le0, kn_0le, kn_div, kn_rem, kn_or, kn_and, kn_or0, kn_ad0, kn_shl1, kn_bitB, zBt, zBf, zB1t, zB1f, zB_01, zB_10, kl_2, kl_3, kl_4, kl_5, kl_6, kl_7, kl_8, kl_10, kl_12, kl_13, if_pos, if_neg, ↓reduceIte, eq_self, not_true_eq_false, not_false_eq_true, Nat.add_zero, Nat.or_zero, reduceCtorEq, or_true, true_or, or_false, false_or, decide_true, decide_false, kn_sub1, sb_m1, pk_sub, kW_ne, kW_at, kW_no, kA_ne, kA_eq, ite_self, and_self, true_and, and_true, lp_MD_feed_23, jn_MD_feed_76, show (20 : Int32) = nI 20 from rfl, show (16 : Int32) = nI 16 from rfl, g, e4, zU5, hz]
        · have e4 : j / 4 = 1 := by omega
          simp (disch := omega) only [kn_if_t, kn_bs, kn_or_l, kn_or_r, kn_inT, nI_clamp, nI_leI, nI_ltI, nI_eq, nI_add, pk_mul, nI_1, kn_eq0, kn_lt0, kn_le0, kn_0le, kn_div, kn_rem, kn_or, kn_and, kn_or0, kn_ad0, kn_shl1, kn_bitB, zBt, zBf, zB1t, zB1f, zB_01, zB_10, kl_2, kl_3, kl_4, kl_5, kl_6, kl_7, kl_8, kl_10, kl_12, kl_13, if_pos, if_neg, ↓reduceIte, eq_self, not_true_eq_false, not_false_eq_true, Nat.add_zero, Nat.or_zero, reduceCtorEq, or_true, true_or, or_false, false_or, decide_true, decide_false, kn_sub1, sb_m1, pk_sub, kW_ne, kW_at, kW_no, kA_ne, kA_eq, ite_self, and_self, true_and, and_true, lp_MD_feed_23, jn_MD_feed_76, show (20 : Int32) = nI 20 from rfl, show (16 : Int32) = nI 16 from rfl, g, e4, zU5, hz]
        · have e4 : j / 4 = 2 := by omega
          simp (disch := omega) only [kn_if_t, kn_bs, kn_or_l, kn_or_r, kn_inT, nI_clamp, nI_leI, nI_ltI, nI_eq, nI_add, pk_mul, nI_1, kn_eq0, kn_lt0, kn_le0, kn_0le, kn_div, kn_rem, kn_or, kn_and, kn_or0, kn_ad0, kn_shl1, kn_bitB, zBt, zBf, zB1t, zB1f, zB_01, zB_10, kl_2, kl_3, kl_4, kl_5, kl_6, kl_7, kl_8, kl_10, kl_12, kl_13, if_pos, if_neg, ↓reduceIte, eq_self, not_true_eq_false, not_false_eq_true, Nat.add_zero, Nat.or_zero, reduceCtorEq, or_true, true_or, or_false, false_or, decide_true, decide_false, kn_sub1, sb_m1, pk_sub, kW_ne, kW_at, kW_no, kA_ne, kA_eq, ite_self, and_self, true_and, and_true, lp_MD_feed_23, jn_MD_feed_76, show (20 : Int32) = nI 20 from rfl, show (16 : Int32) = nI 16 from rfl, g, e4, zU5, hz]
        · have e4 : j / 4 = 3 := by omega
          simp (disch := omega) only [kn_if_t, kn_bs, kn_or_l, kn_or_r, kn_inT, nI_clamp, nI_leI, nI_ltI, nI_eq, nI_add, pk_mul, nI_1, kn_eq0, kn_lt0, kn_le0, kn_0le, kn_div, kn_rem, kn_or, kn_and, kn_or0, kn_ad0, kn_shl1, kn_bitB, zBt, zBf, zB1t, zB1f, zB_01, zB_10, kl_2, kl_3, kl_4, kl_5, kl_6, kl_7, kl_8, kl_10, kl_12, kl_13, if_pos, if_neg, ↓reduceIte, eq_self, not_true_eq_false, not_false_eq_true, Nat.add_zero, Nat.or_zero, reduceCtorEq, or_true, true_or, or_false, false_or, decide_true, decide_false, kn_sub1, sb_m1, pk_sub, kW_ne, kW_at, kW_no, kA_ne, kA_eq, ite_self, and_self, true_and, and_true, lp_MD_feed_23, jn_MD_feed_76, show (20 : Int32) = nI 20 from rfl, show (16 : Int32) = nI 16 from rfl, g, e4, zU5, hz]
        · have e4 : j / 4 = 4 := by omega
          simp (disch := omega) only [kn_if_t, kn_bs, kn_or_l, kn_or_r, kn_inT, nI_clamp, nI_leI, nI_ltI, nI_eq, nI_add, pk_mul, nI_1, kn_eq0, kn_lt0, kn_le0, kn_0le, kn_div, kn_rem, kn_or, kn_and, kn_or0, kn_ad0, kn_shl1, kn_bitB, zBt, zBf, zB1t, zB1f, zB_01, zB_10, kl_2, kl_3, kl_4, kl_5, kl_6, kl_7, kl_8, kl_10, kl_12, kl_13, if_pos, if_neg, ↓reduceIte, eq_self, not_true_eq_false, not_false_eq_true, Nat.add_zero, Nat.or_zero, reduceCtorEq, or_true, true_or, or_false, false_or, decide_true, decide_false, kn_sub1, sb_m1, pk_sub, kW_ne, kW_at, kW_no, kA_ne, kA_eq, ite_self, and_self, true_and, and_true, lp_MD_feed_23, jn_MD_feed_76, show (20 : Int32) = nI 20 from rfl, show (16 : Int32) = nI 16 from rfl, g, e4, zU5, hz]
      · show (kbW (kbW ν 69 (t + j) (zB4 (zU5 u1 u2 u3 u4 u5 (j / 4)) (j % 4))) 57 13 (nI (t + j + 1))).1 57 13 = _
        exact kW_at
      · show (kbW (kbW ν 69 (t + j) (zB4 (zU5 u1 u2 u3 u4 u5 (j / 4)) (j % 4))) 57 13 (nI (t + j + 1))).1 69 i = _
        have hi' : i < t + (j + 1) := hi
        rw [kW_ne (by decide)]
        by_cases e : i = t + j
        · subst e
          rw [kW_at]
          show _ = zFeed t f (zU5 u1 u2 u3 u4 u5) (t + j)
          unfold zFeed
          rw [if_neg (by omega), Nat.add_sub_cancel_left]
        · rw [kW_no e]; exact h1.2 i (by show i < t + j; omega)
      · show (kbW (kbW ν 69 (t + j) (zB4 (zU5 u1 u2 u3 u4 u5 (j / 4)) (j % 4))) 57 13 (nI (t + j + 1))).1 a = _
        rw [kW_ne ha, kW_ne hb]; exact h2 a ha hb
      · show (kbW (kbW ν 69 (t + j) (zB4 (zU5 u1 u2 u3 u4 u5 (j / 4)) (j % 4))) 57 13 (nI (t + j + 1))).1 57 k = _
        rw [kW_no hk, kW_ne (by decide)]; exact h3 k hk)
    20 0 n (0, μ) (by omega) (by omega) ⟨rfl, ⟨h, fun i hi => by
      have hi' : i < t := hi
      show _ = zFeed t f (zU5 u1 u2 u3 u4 u5) i
      unfold zFeed
      rw [if_pos hi']; exact hf i hi'⟩, fun _ _ _ => rfl, fun _ _ => rfl⟩
  exact ⟨ν, e, h1, h2, h3⟩
def t_feed (A : zA) (u1 u2 u3 u4 u5 : Int32) : zA := if A.2.2.2.2.1.1 + 20 ≤ 600 then (A.1, A.2.1, A.2.2.1, A.2.2.2.1, (A.2.2.2.2.1.1 + 20, zFeed A.2.2.2.2.1.1 A.2.2.2.2.1.2 (zU5 u1 u2 u3 u4 u5)), A.2.2.2.2.2) else A
def a_feed (A : zA) : Int32 := if A.2.2.2.2.1.1 + 20 ≤ 600 then nI (A.2.2.2.2.1.1 + 20) else -1
theorem cl_feed {μ : kbM} {A : zA} (hA : zOk A) (h : rC μ A) (u1 u2 u3 u4 u5 : Int32) : ∃ μ1, f_KB_feed u1 u2 u3 u4 u5 μ = some (a_feed A, μ1) ∧ rC μ1 (t_feed A u1 u2 u3 u4 u5) := by
  obtain ⟨t1, t2⟩ := hA.2.2.2.2
  have hT := h.2.2.2.2.2.2.1
  have h4 := hT.1
  unfold f_KB_feed a_feed t_feed
  by_cases hl : A.2.2.2.2.1.1 + 20 ≤ 600
  · obtain ⟨q, hq⟩ : ∃ q, A.2.2.2.2.1.1 = 4 * q := ⟨A.2.2.2.2.1.1 / 4, by omega⟩
    rw [hq] at h4
    have a1 := c_append (q := q) (by omega) h4 u1
    have a2 := c_append (q := q + 1) (by omega) (μ := kbW (kbW μ 2 q u1) 1 4 (nI (4 * (q + 1)))) kW_at u2
    have a3 := c_append (q := q + 2) (by omega) (μ := kbW (kbW (kbW (kbW μ 2 q u1) 1 4 (nI (4 * (q + 1)))) 2 (q + 1) u2) 1 4 (nI (4 * (q + 2)))) kW_at u3
    have a4 := c_append (q := q + 3) (by omega) (μ := kbW (kbW (kbW (kbW (kbW (kbW μ 2 q u1) 1 4 (nI (4 * (q + 1)))) 2 (q + 1) u2) 1 4 (nI (4 * (q + 2)))) 2 (q + 2) u3) 1 4 (nI (4 * (q + 3)))) kW_at u4
    have a5 := c_append (q := q + 4) (by omega) (μ := kbW (kbW (kbW (kbW (kbW (kbW (kbW (kbW μ 2 q u1) 1 4 (nI (4 * (q + 1)))) 2 (q + 1) u2) 1 4 (nI (4 * (q + 2)))) 2 (q + 2) u3) 1 4 (nI (4 * (q + 3)))) 2 (q + 3) u4) 1 4 (nI (4 * (q + 4)))) kW_at u5
    rw [h4, if_pos (by rw [show (20 : Int32) = nI 20 from rfl, show (600 : Int32) = nI 600 from rfl, nI_add, nI_leI (by omega) (by decide)]; omega), a1, kn_bs, a2, kn_bs, a3, kn_bs, a4, kn_bs, a5, kn_bs, if_pos hl, if_pos hl, kW_at, hq, show 4 * q + 20 = 4 * (q + 4 + 1) by omega]
    refine ⟨_, rfl, h.tape (fun a h1 h2 => ?_) ?_ ⟨kW_at, fun i hi => ?_⟩⟩
    · simp only [kW_ne h1, kW_ne h2]
    · simp (disch := omega) only [kn_if_t, kn_bs, kn_or_l, kn_or_r, kn_inT, nI_clamp, nI_leI, nI_ltI, nI_eq, nI_add, pk_mul, nI_1, kn_eq0, kn_lt0, kn_le0, kn_0le, kn_div, kn_rem, kn_or, kn_and, kn_or0, kn_ad0, kn_shl1, kn_bitB, zBt, zBf, zB1t, zB1f, zB_01, zB_10, kl_2, kl_3, kl_4, kl_5, kl_6, kl_7, kl_8, kl_10, kl_12, kl_13, if_pos, if_neg, ↓reduceIte, eq_self, not_true_eq_false, not_false_eq_true, Nat.add_zero, Nat.or_zero, reduceCtorEq, or_true, true_or, or_false, false_or, decide_true, decide_false, kn_sub1, sb_m1, pk_sub, kW_ne, kW_at, kW_no, kA_ne, kA_eq, ite_self, and_self, true_and, and_true]
    · have hi' : i < 4 * ((4 * (q + 4 + 1) + 3) / 4) := hi
      show zB4 _ (i % 4) = zFeed (4 * q) A.2.2.2.2.1.2 (zU5 u1 u2 u3 u4 u5) i
      unfold zFeed
      by_cases e : i < 4 * q
      · have old := hT.2 i (by rw [hq]; omega)
        rw [if_pos e, ← old]
        show zB4 _ (i % 4) = zB4 (μ.1 2 (i / 4)) (i % 4)
        congr 1
        simp (disch := omega) only [kn_if_t, kn_bs, kn_or_l, kn_or_r, kn_inT, nI_clamp, nI_leI, nI_ltI, nI_eq, nI_add, pk_mul, nI_1, kn_eq0, kn_lt0, kn_le0, kn_0le, kn_div, kn_rem, kn_or, kn_and, kn_or0, kn_ad0, kn_shl1, kn_bitB, zBt, zBf, zB1t, zB1f, zB_01, zB_10, kl_2, kl_3, kl_4, kl_5, kl_6, kl_7, kl_8, kl_10, kl_12, kl_13, if_pos, if_neg, ↓reduceIte, eq_self, not_true_eq_false, not_false_eq_true, Nat.add_zero, Nat.or_zero, reduceCtorEq, or_true, true_or, or_false, false_or, decide_true, decide_false, kn_sub1, sb_m1, pk_sub, kW_ne, kW_at, kW_no, kA_ne, kA_eq, ite_self, and_self, true_and, and_true]
      · rw [if_neg e, show (i - 4 * q) % 4 = i % 4 by omega]
        congr 1
        rcases (show i / 4 = q ∨ i / 4 = q + 1 ∨ i / 4 = q + 2 ∨ i / 4 = q + 3 ∨ i / 4 = q + 4 by omega) with j | j | j | j | j
        · rw [j, show (i - 4 * q) / 4 = 0 by omega]; simp (disch := omega) only [kn_if_t, kn_bs, kn_or_l, kn_or_r, kn_inT, nI_clamp, nI_leI, nI_ltI, nI_eq, nI_add, pk_mul, nI_1, kn_eq0, kn_lt0, kn_le0, kn_0le, kn_div, kn_rem, kn_or, kn_and, kn_or0, kn_ad0, kn_shl1, kn_bitB, zBt, zBf, zB1t, zB1f, zB_01, zB_10, kl_2, kl_3, kl_4, kl_5, kl_6, kl_7, kl_8, kl_10, kl_12, kl_13, if_pos, if_neg, ↓reduceIte, eq_self, not_true_eq_false, not_false_eq_true, Nat.add_zero, Nat.or_zero, reduceCtorEq, or_true, true_or, or_false, false_or, decide_true, decide_false, kn_sub1, sb_m1, pk_sub, kW_ne, kW_at, kW_no, kA_ne, kA_eq, ite_self, and_self, true_and, and_true, zU5]
        · rw [j, show (i - 4 * q) / 4 = 1 by omega]; simp (disch := omega) only [kn_if_t, kn_bs, kn_or_l, kn_or_r, kn_inT, nI_clamp, nI_leI, nI_ltI, nI_eq, nI_add, pk_mul, nI_1, kn_eq0, kn_lt0, kn_le0, kn_0le, kn_div, kn_rem, kn_or, kn_and, kn_or0, kn_ad0, kn_shl1, kn_bitB, zBt, zBf, zB1t, zB1f, zB_01, zB_10, kl_2, kl_3, kl_4, kl_5, kl_6, kl_7, kl_8, kl_10, kl_12, kl_13, if_pos, if_neg, ↓reduceIte, eq_self, not_true_eq_false, not_false_eq_true, Nat.add_zero, Nat.or_zero, reduceCtorEq, or_true, true_or, or_false, false_or, decide_true, decide_false, kn_sub1, sb_m1, pk_sub, kW_ne, kW_at, kW_no, kA_ne, kA_eq, ite_self, and_self, true_and, and_true, zU5]
        · rw [j, show (i - 4 * q) / 4 = 2 by omega]; simp (disch := omega) only [kn_if_t, kn_bs, kn_or_l, kn_or_r, kn_inT, nI_clamp, nI_leI, nI_ltI, nI_eq, nI_add, pk_mul, nI_1, kn_eq0, kn_lt0, kn_le0, kn_0le, kn_div, kn_rem, kn_or, kn_and, kn_or0, kn_ad0, kn_shl1, kn_bitB, zBt, zBf, zB1t, zB1f, zB_01, zB_10, kl_2, kl_3, kl_4, kl_5, kl_6, kl_7, kl_8, kl_10, kl_12, kl_13, if_pos, if_neg, ↓reduceIte, eq_self, not_true_eq_false, not_false_eq_true, Nat.add_zero, Nat.or_zero, reduceCtorEq, or_true, true_or, or_false, false_or, decide_true, decide_false, kn_sub1, sb_m1, pk_sub, kW_ne, kW_at, kW_no, kA_ne, kA_eq, ite_self, and_self, true_and, and_true, zU5]
        · rw [j, show (i - 4 * q) / 4 = 3 by omega]; simp (disch := omega) only [kn_if_t, kn_bs, kn_or_l, kn_or_r, kn_inT, nI_clamp, nI_leI, nI_ltI, nI_eq, nI_add, pk_mul, nI_1, kn_eq0, kn_lt0, kn_le0, kn_0le, kn_div, kn_rem, kn_or, kn_and, kn_or0, kn_ad0, kn_shl1, kn_bitB, zBt, zBf, zB1t, zB1f, zB_01, zB_10, kl_2, kl_3, kl_4, kl_5, kl_6, kl_7, kl_8, kl_10, kl_12, kl_13, if_pos, if_neg, ↓reduceIte, eq_self, not_true_eq_false, not_false_eq_true, Nat.add_zero, Nat.or_zero, reduceCtorEq, or_true, true_or, or_false, false_or, decide_true, decide_false, kn_sub1, sb_m1, pk_sub, kW_ne, kW_at, kW_no, kA_ne, kA_eq, ite_self, and_self, true_and, and_true, zU5]
        · rw [j, show (i - 4 * q) / 4 = 4 by omega]; simp (disch := omega) only [kn_if_t, kn_bs, kn_or_l, kn_or_r, kn_inT, nI_clamp, nI_leI, nI_ltI, nI_eq, nI_add, pk_mul, nI_1, kn_eq0, kn_lt0, kn_le0, kn_0le, kn_div, kn_rem, kn_or, kn_and, kn_or0, kn_ad0, kn_shl1, kn_bitB, zBt, zBf, zB1t, zB1f, zB_01, zB_10, kl_2, kl_3, kl_4, kl_5, kl_6, kl_7, kl_8, kl_10, kl_12, kl_13, if_pos, if_neg, ↓reduceIte, eq_self, not_true_eq_false, not_false_eq_true, Nat.add_zero, Nat.or_zero, reduceCtorEq, or_true, true_or, or_false, false_or, decide_true, decide_false, kn_sub1, sb_m1, pk_sub, kW_ne, kW_at, kW_no, kA_ne, kA_eq, ite_self, and_self, true_and, and_true, zU5]
  · rw [h4, if_neg (by rw [show (20 : Int32) = nI 20 from rfl, show (600 : Int32) = nI 600 from rfl, nI_add, nI_leI (by omega) (by decide)]; omega), if_neg hl, if_neg hl]
    exact ⟨μ, rfl, h⟩
theorem md_feed {n : Nat} (hn : 100 ≤ n) {μ : kbM} {A : zA} (hA : zOk A) (h0 : rM μ A) (u1 u2 u3 u4 u5 : Int32) : ∃ μ1, f_MD_feed n u1 u2 u3 u4 u5 μ = some (a_feed A, μ1) ∧ rM μ1 (t_feed A u1 u2 u3 u4 u5) := by
  obtain ⟨t1, t2⟩ := hA.2.2.2.2
  have h := h0.c0 0
  have hT := h.2.2.2.2.2.1
  have h4 := hT.1
  unfold f_MD_feed a_feed t_feed
  by_cases hl : A.2.2.2.2.1.1 + 20 ≤ 600
  · obtain ⟨x, e, m1, m2, m3⟩ := m_feed hn u1 u2 u3 u4 u5 h4 hT.2 hl
    rw [h4, if_pos (by rw [show (20 : Int32) = nI 20 from rfl, show (600 : Int32) = nI 600 from rfl, nI_add, nI_leI (by omega) (by decide)]; omega), e, kn_bs, if_pos hl, if_pos hl]
    exact ⟨_, by rw [m1.1], h.tape m2 (fun k _ hk => m3 k hk) m1⟩
  · rw [h4, if_neg (by rw [show (20 : Int32) = nI 20 from rfl, show (600 : Int32) = nI 600 from rfl, nI_add, nI_leI (by omega) (by decide)]; omega), if_neg hl, if_neg hl]
    exact ⟨_, rfl, h⟩
theorem ok_feed {A : zA} (hA : zOk A) (u1 u2 u3 u4 u5 : Int32) : zOk (t_feed A u1 u2 u3 u4 u5) := by
  obtain ⟨t1, t2⟩ := hA.2.2.2.2
  unfold t_feed
  by_cases hl : A.2.2.2.2.1.1 + 20 ≤ 600
  · rw [if_pos hl]; exact zA_feed _ hA hl (by show (A.2.2.2.2.1.1 + 20) % 20 = 0; omega)
  · rw [if_neg hl]; exact hA
theorem op_0 {n : Nat} (hn : 5000 ≤ n) {μ : kbM} (hI : kbInv μ) (u1 u2 u3 u4 u5 : Int32) : ∃ μ', c_law_0 n u1 u2 u3 u4 u5 μ = some μ' ∧ kbInv μ' := by
  obtain ⟨A, hA, hC, hM⟩ := hI
  obtain ⟨μ1, h1, hC1⟩ := cl_feed hA hC u1 u2 u3 u4 u5
  have f1 := fr_f_KB_feed h1
  have hM1 := hM.fr f1 (by decide) (by decide)
  obtain ⟨μ2, h2, hM2⟩ := md_feed (n := n) (by omega) hA hM1 u1 u2 u3 u4 u5
  have f2 := fr_f_MD_feed h2
  refine ⟨μ2, ?_, _, ok_feed hA u1 u2 u3 u4 u5, hC1.fr f2 (by decide) (by decide), hM2⟩
  unfold c_law_0
  rw [h1, kn_bs]
  simp only
  rw [h2, kn_bs, if_pos rfl]
