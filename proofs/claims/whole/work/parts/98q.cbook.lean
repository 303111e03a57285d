/-! the class's book -/
theorem byte_nat (v : Int32) : ∃ b, b < 256 ∧ v &&& 255 = nI b := by
  have e : v = nI v.toBitVec.toNat := by
    apply Int32.toBitVec_inj.mp
    show v.toBitVec = BitVec.ofNat 32 v.toBitVec.toNat
    rw [BitVec.ofNat_toNat, BitVec.setWidth_eq]
  refine ⟨v.toBitVec.toNat &&& 255, ?_, ?_⟩
  · exact Nat.lt_of_le_of_lt Nat.and_le_right (by decide)
  · rw [show (255 : Int32) = nI 255 from rfl]
    conv => lhs; rw [e]
    exact kn_and _ _
/-- the tape's bytes as a text -/
def xT (t : Nat × (Nat → Int32)) (m : Nat) : pX := (fun i => (t.2 i).toNatClampNeg, m)
theorem xT_ok {μ : kbM} {t : Nat × (Nat → Int32)} (h : cTape μ t) (ht : t.1 ≤ 600) {m : Nat} (hm : m ≤ t.1) : xOk (xT t m) ∧ ∀ i, i < m → t.2 i = nI ((xT t m).1 i) ∧ zByte (μ.1 2) i = nI ((xT t m).1 i) := by
  have key : ∀ i, i < m → t.2 i = nI ((xT t m).1 i) ∧ zByte (μ.1 2) i = nI ((xT t m).1 i) ∧ (xT t m).1 i < 256 := fun i hi => by
    have e := h.2 i (by omega)
    obtain ⟨b, hb, eb⟩ := byte_nat (kbUsh (μ.1 2 (i / 4)) (24 - nI (i % 4) * 8))
    have e2 : zByte (μ.1 2) i = nI b := eb
    have e3 : t.2 i = nI b := e.symm.trans e2
    have e4 : (xT t m).1 i = b := by show (t.2 i).toNatClampNeg = b; rw [e3, nI_clamp (by omega)]
    rw [e4]
    exact ⟨e3, e2, hb⟩
  exact ⟨⟨by show m ≤ 600; omega, fun i hi => (key i hi).2.2⟩, fun i hi => ⟨(key i hi).1, (key i hi).2.1⟩⟩
theorem c_beginB (μ : kbM) : ∃ μ', f_ST_begin_12_3 μ = some μ' ∧ μ'.1 13 4 = μ.1 3 4 ∧ (∀ i, i < 10 → μ'.1 14 i = μ.1 4 i ∧ μ'.1 15 i = μ.1 5 i ∧ μ'.1 16 i = μ.1 6 i ∧ μ'.1 17 i = μ.1 7 i) ∧ μ'.1 12 5 = 0 ∧ μ'.1 12 6 = 0 ∧ μ'.1 12 7 = 0 := by
  unfold f_ST_begin_12_3 f_WO_copyFrom_13_3
  rw [kn_bs]
  refine ⟨_, rfl, ?_, fun i hi => ⟨?_, ?_, ?_, ?_⟩, ?_, ?_, ?_⟩
  all_goals simp (disch := omega) only [kW_ne, kW_at, kW_no, kA_ne, kA_eq, sb_cpy0]
theorem c_dcopy (μ : kbM) : ∃ μ', f_DO_copyFrom_32_8 μ = some μ' ∧ μ'.1 32 2 = μ.1 8 2 ∧ ∀ i, i < 6 → μ'.1 33 i = μ.1 9 i ∧ μ'.1 34 i = μ.1 10 i := by
  unfold f_DO_copyFrom_32_8
  refine ⟨_, rfl, ?_, fun i hi => ⟨?_, ?_⟩⟩
  all_goals simp (disch := omega) only [kW_ne, kW_at, kW_no, kA_ne, kA_eq, sb_cpy0]
theorem c_adopt (μ : kbM) {c : Nat} (hc : c ≤ 600) : ∃ μ', f_JO_adopt_11 (nI c) μ = some μ' ∧ μ'.1 35 4 = nI c ∧ (∀ i, i < c → μ'.1 36 i = μ.1 11 i) ∧ ∀ i, i < 100 → μ'.1 38 i = 0 := by
  unfold f_JO_adopt_11 f_JO_renew
  have m1 : kbMin (nI c) (kbMin 600 600) = nI c := by
    rw [show (600 : Int32) = nI 600 from rfl, kb_min (by decide) (by decide), kb_min (by omega) (by decide)]
    congr 1
    omega
  have k1 : kbCp 0 0 (nI c) 600 600 = true := by
    unfold kbCp
    apply decide_eq_true
    refine ⟨by decide, by decide, nI_pos (by omega), ?_, ?_⟩
    · rw [nI_clamp (by omega)]; show 0 + c ≤ 600; omega
    · rw [nI_clamp (by omega)]; show 0 + c ≤ 600; omega
  rw [m1, k1, kn_if_t, kn_bs, nI_clamp (by omega)]
  refine ⟨_, rfl, ?_, fun i hi => ?_, fun i hi => ?_⟩
  · simp (disch := omega) only [kW_ne, kW_at, kW_no, kA_ne, kA_eq, sb_cpy0]
  · simp (disch := omega) only [kW_ne, kW_at, kW_no, kA_ne, kA_eq, sb_cpy0]
  · rw [kA_eq]; unfold kbFill; rw [if_pos hi]
theorem c_book {n : Nat} (hn : 5000 ≤ n) {μ : kbM} {A : zA} (hA : zOk A) (h : rC μ A) {m : Nat} (hm : m ≤ A.2.2.2.2.1.1) : ∃ v μ', f_KB_book n (nI m) μ = some (.inr (v, μ')) ∧ (∀ z, pBook (xT A.2.2.2.2.1 m) = .inl z → v = nI z.1 ∧ rC μ' (aBad A z.2)) ∧ (∀ s, pBook (xT A.2.2.2.2.1 m) = .inr s → v = 0 ∧ rC μ' (aGood A s.2)) := by
  have ht := hA.2.2.2.2.1
  obtain ⟨h1, h2, h3, h4, h5, h6, h7, h8⟩ := h
  obtain ⟨hx, hb⟩ := xT_ok h7 ht hm
  obtain ⟨μ1, e1, r1⟩ := c_parse (n := n) (by omega) hx (μ := μ) (fun i hi => (hb i hi).2)
  have e1' : f_BT_parse n (nI m) μ = some (μ1.1 1 10, μ1) := e1
  have F := fr_f_BT_parse e1'
  unfold f_KB_book
  rw [if_neg (nI_pos (by omega)), h7.1, if_pos (by rw [nI_leI (by omega) (by omega)]; exact hm), e1', kn_bs]
  dsimp only
  cases hp : pBook (xT A.2.2.2.2.1 m) with
  | inl z =>
    rw [hp] at r1
    have r : cF μ1 z.1 z.2 := r1
    rw [if_neg r.ne, r.2.2.1]
    have G : ∀ a, a ∉ [1, 3, 4, 5, 6, 7, 8, 9, 10, 11] → a ≠ 57 → a ≠ 21 → (kbW μ1 21 0 (μ1.1 21 0 + 1)).1 a = μ.1 a := fun a q1 q2 q3 => by rw [kW_ne q3]; exact fr_at F q1 q2
    have G21 : (kbW μ1 21 0 (μ1.1 21 0 + 1)).1 21 0 = μ.1 21 0 + 1 := by rw [kW_at, fr_at F (by decide) (by decide)]
    have G21' : ∀ k, k ≠ 0 → (kbW μ1 21 0 (μ1.1 21 0 + 1)).1 21 k = μ.1 21 k := fun k q => by rw [kW_no q, fr_at F (by decide) (by decide)]
    have g4 : (kbW μ1 21 0 (μ1.1 21 0 + 1)).1 1 4 = 0 := by rw [kW_ne (by decide)]; exact r.1
    have g11 : (kbW μ1 21 0 (μ1.1 21 0 + 1)).1 1 11 = nI z.2 := by rw [kW_ne (by decide)]; exact r.2.2.2.1
    generalize kbW μ1 21 0 (μ1.1 21 0 + 1) = ν at G G21 G21' g4 g11
    refine ⟨_, ν, rfl, (fun z' e => ?_), (fun s' e => by cases e)⟩
    cases e
    refine ⟨rfl, ⟨?_, ?_, ?_, ?_, ?_, ?_, fun i hi => ?_⟩, ?_, fun e he => ?_, ?_, ?_, ?_, ⟨g4, (fun i hi => by have h' : i < 4 * ((0 + 3) / 4) := hi; omega)⟩, g11⟩
    · have q := h1.1
      unfold cWords at q ⊢
      rw [G 13 (by decide) (by decide) (by decide), G 14 (by decide) (by decide) (by decide), G 15 (by decide) (by decide) (by decide), G 16 (by decide) (by decide) (by decide), G 17 (by decide) (by decide) (by decide)]
      exact q
    · rw [G 12 (by decide) (by decide) (by decide)]; exact h1.2.1
    · rw [G 12 (by decide) (by decide) (by decide)]; exact h1.2.2.1
    · rw [G 12 (by decide) (by decide) (by decide)]; exact h1.2.2.2.1
    · have q := h1.2.2.2.2.1
      unfold cLog at q ⊢
      rw [G 18 (by decide) (by decide) (by decide)]
      exact q
    · have q := h1.2.2.2.2.2.1
      unfold cHeard at q ⊢
      rw [G 19 (by decide) (by decide) (by decide), G 20 (by decide) (by decide) (by decide)]
      exact q
    · have q := h1.2.2.2.2.2.2
      show ν.1 21 i = if i = 0 then A.1.2.2.2 0 + 1 else A.1.2.2.2 i
      by_cases e0 : i = 0
      · rw [if_pos e0, e0, G21]
        exact congrArg (· + 1) (q 0 (by decide))
      · rw [if_neg e0, G21' i e0]
        exact q i hi
    · rw [G 0 (by decide) (by decide) (by decide)]; exact h2
    · refine cSes.congr (fun a ha => ?_) (h3 e he)
      have ha' : a ∈ [22, 23, 24, 25, 26, 27, 28, 29, 30, 31] := ha
      refine G a ?_ ?_ ?_
      · revert a; decide
      · revert a; decide
      · revert a; decide
    · have q := h4
      unfold cDoors at q ⊢
      rw [G 32 (by decide) (by decide) (by decide), G 33 (by decide) (by decide) (by decide), G 34 (by decide) (by decide) (by decide)]
      exact q
    · have q := h5
      unfold cCode at q ⊢
      rw [G 35 (by decide) (by decide) (by decide), G 36 (by decide) (by decide) (by decide)]
      exact q
    · have q := h6
      unfold cKnown at q ⊢
      rw [G 38 (by decide) (by decide) (by decide)]
      exact q
  | inr s =>
    rw [hp] at r1
    obtain ⟨⟨k1, k2, k3, k4, k5, k6, k7⟩, ⟨o1, o1'⟩, ⟨o2, o2'⟩, o3, o3'⟩ := r1
    obtain ⟨p1, p2⟩ := pS0_ok hx
    obtain ⟨q1, q2⟩ := pLines_ok 600 _ _ p1 p2 hp
    have hw := q2.2.1.1
    have hd := q2.2.2.1
    have hc := q2.1.2.1
    rw [if_pos k3]
    obtain ⟨μ2, e2, a1, a2, a3, a4, a5⟩ := c_beginB μ1
    have F2 := fr_f_ST_begin_12_3 e2
    obtain ⟨μ3, e3, b1, b2⟩ := c_dcopy μ2
    have F3 := fr_f_DO_copyFrom_32_8 e3
    have n5 : μ3.1 1 5 = nI s.2.1.length := by rw [fr_at F3 (by decide) (by decide), fr_at F2 (by decide) (by decide)]; exact o1
    obtain ⟨μ4, e4, c1, c2, c3⟩ := c_adopt μ3 hc
    have F4 := fr_f_JO_adopt_11 e4
    rw [e2, kn_bs, e3, kn_bs, n5, e4, kn_bs]
    have Z : ∀ a, a ≠ 0 → (kbW μ4 0 10 0).1 a = μ4.1 a := fun a q => kW_ne q
    have Z10 : (kbW μ4 0 10 0).1 0 10 = 0 := kW_at
    generalize kbW μ4 0 10 0 = ν at Z Z10
    refine ⟨0, ν, rfl, (fun z' e => by cases e), (fun s' e => ?_)⟩
    cases e
    refine ⟨rfl, ⟨⟨?_, fun i hi => ?_⟩, ?_, ?_, ?_, (fun i hi => absurd hi (Nat.not_lt_zero i)), (fun i hi => absurd hi (Nat.not_lt_zero i)), fun i hi => ?_⟩, Z10, (fun e he => by cases he), ⟨?_, fun i hi => ?_⟩, ⟨?_, fun i hi => ?_⟩, fun _ a b ha hb' => Or.inl ?_, ⟨?_, (fun i hi => by have h' : i < 4 * ((0 + 3) / 4) := hi; omega)⟩, ?_⟩
    · rw [Z 13 (by decide), fr_at F4 (by decide) (by decide), fr_at F3 (by decide) (by decide), a1]; exact o2
    · have hi' : i < s.2.2.1.length := hi
      obtain ⟨y1, y2, y3, y4⟩ := a2 i (by omega)
      show ν.1 14 i = _ ∧ ν.1 15 i = _ ∧ ν.1 16 i = _ ∧ ν.1 17 i = _
      rw [Z 14 (by decide), Z 15 (by decide), Z 16 (by decide), Z 17 (by decide), fr_at F4 (a := 14) (by decide) (by decide), fr_at F3 (a := 14) (by decide) (by decide), fr_at F4 (a := 15) (by decide) (by decide), fr_at F3 (a := 15) (by decide) (by decide), fr_at F4 (a := 16) (by decide) (by decide), fr_at F3 (a := 16) (by decide) (by decide), fr_at F4 (a := 17) (by decide) (by decide), fr_at F3 (a := 17) (by decide) (by decide), y1, y2, y3, y4]
      exact o2' i hi
    · rw [Z 12 (by decide), fr_at F4 (by decide) (by decide), fr_at F3 (by decide) (by decide)]; exact a5
    · rw [Z 12 (by decide), fr_at F4 (by decide) (by decide), fr_at F3 (by decide) (by decide)]; exact a3
    · rw [Z 12 (by decide), fr_at F4 (by decide) (by decide), fr_at F3 (by decide) (by decide)]; exact a4
    · show ν.1 21 i = _
      rw [Z 21 (by decide), fr_at F4 (by decide) (by decide), fr_at F3 (by decide) (by decide), fr_at F2 (by decide) (by decide), fr_at F (by decide) (by decide)]
      exact h1.2.2.2.2.2.2 i hi
    · rw [Z 32 (by decide), fr_at F4 (by decide) (by decide), b1, fr_at F2 (by decide) (by decide)]; exact o3
    · have hi' : i < s.2.2.2.length := hi
      obtain ⟨y1, y2⟩ := b2 i (by omega)
      rw [Z 33 (by decide), Z 34 (by decide), fr_at F4 (a := 33) (by decide) (by decide), fr_at F4 (a := 34) (by decide) (by decide), y1, y2, fr_at F2 (a := 9) (by decide) (by decide), fr_at F2 (a := 10) (by decide) (by decide)]
      exact o3' i hi
    · rw [Z 35 (by decide)]; exact c1
    · rw [Z 36 (by decide), c2 i hi, fr_at F3 (by decide) (by decide), fr_at F2 (by decide) (by decide)]
      exact o1' i hi
    · have ha' : a < s.2.2.1.length := ha
      have hb'' : b < s.2.2.1.length := hb'
      rw [Z 38 (by decide)]; exact c3 _ (by omega)
    · rw [Z 1 (by decide), fr_at F4 (by decide) (by decide), fr_at F3 (by decide) (by decide), fr_at F2 (by decide) (by decide)]; exact k2
    · rw [Z 1 (by decide), fr_at F4 (by decide) (by decide), fr_at F3 (by decide) (by decide), fr_at F2 (by decide) (by decide)]; exact k4
