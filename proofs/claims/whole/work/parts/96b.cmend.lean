/-! the class mends -/
def cK (μ : kbM) (W : zW) (K : Nat → Nat → Nat) : Prop := ∀ w k, w < W.length → k ≤ zSize (zRowAt W w) → μ.1 47 (w * 7 + k) = nI (K w k) ∧ K w k < 2 ^ 30
theorem cK.up {μ : kbM} {W : zW} (hW : zWok W) {K : Nat → Nat → Nat} (h : cK μ W K) {w k x : Nat} (hw : w < W.length) (hk : k ≤ zSize (zRowAt W w)) (hx : x < 2 ^ 30) : cK (kbW μ 47 (w * 7 + k) (nI x)) W (mUp K w k x) := by
  intro a b ha hb
  have s1 := hW.s6 ha
  have s2 := hW.s6 hw
  by_cases e : a = w ∧ b = k
  · obtain ⟨rfl, rfl⟩ := e
    rw [mUp_at]; exact ⟨kW_at, hx⟩
  · rw [mUp_no e, kW_no (by omega)]; exact h a b ha hb
theorem cK.fr {C S : List Nat} {μ μ' : kbM} {W : zW} {K : Nat → Nat → Nat} (h : kbFr C S μ μ') (hc : 47 ∉ C) (q : cK μ W K) : cK μ' W K := by
  unfold cK at *
  rw [fr_at h hc (by decide)]; exact q
def sndOk (W : zW) (K : Nat → Nat → Nat) (w : Nat) : Prop := ∀ k, k < zSize (zRowAt W w) → K w (k + 1) ≤ K w k + 1
theorem c_sayS {n : Nat} (hn : 1000 ≤ n) {μ : kbM} {W : zW} {C : List Int} (hW : zWok W) {K : Nat → Nat → Nat} (hR : cRule μ W C) (hK : cK μ W K) {w : Nat} (hw : w < W.length) : ∃ ν K', f_SP_saySounds n (nI w) μ = some ν ∧ cRule ν W C ∧ cK ν W K' ∧ mRl W C K K' ∧ sndOk W K' w ∧ (∀ x k, x ≠ w ∨ k = 0 → K' x k = K x k) := by
  have h10 := hW.1
  have s6 := hW.s6 hw
  obtain ⟨ν, e1, K', q⟩ := kn_for (fun k (s : Int32 × kbM) => lp_SP_saySounds_7 n (nI w) (nI (w * 7)) k s.1 s.2) (fun j s => s.1 = nI (j + 1) ∧ cRule s.2 W C ∧ ∃ K', cK s.2 W K' ∧ mRl W C K K' ∧ (∀ k, k < j → K' w (k + 1) ≤ K' w k + 1) ∧ (∀ x k, x ≠ w ∨ k = 0 → K' x k = K x k)) (zSize (zRowAt W w)) (fun ν => ∃ K', cRule ν W C ∧ cK ν W K' ∧ mRl W C K K' ∧ sndOk W K' w ∧ (∀ x k, x ≠ w ∨ k = 0 → K' x k = K x k))
    (fun k s hs => by
      obtain ⟨y, ν⟩ := s
      obtain ⟨e1, q1, K', q2, q3, q4, q5⟩ := hs
      simp only at e1 q1 q2
      subst e1
      refine ⟨ν, ?_, K', q1, q2, q3, q4, q5⟩
      simp only [lp_SP_saySounds_7]
      rw [kn_inT (show w < 10 by omega) (by omega), kn_if_t, nI_clamp (by omega), (q1.1.2 w hw).2.1, if_pos (by rw [nI_ltI (by omega) (by omega)]; omega)])
    (fun k j s hj hs => by
      obtain ⟨y, ν⟩ := s
      obtain ⟨e1, q1, K', q2, q3, q4, q5⟩ := hs
      simp only at e1 q1 q2
      subst e1
      have a1 := q2 w (j + 1) hw hj
      have a2 := q2 w j hw (by omega)
      have r1 := mRl.snd (C := C) (K := K') (x := min (K' w (j + 1)) (K' w j + 1)) hw hj (Nat.min_le_left _ _) (Nat.le_refl _)
      refine Or.inr ⟨(nI (j + 1 + 1), kbW ν 47 (w * 7 + (j + 1)) (nI (min (K' w (j + 1)) (K' w j + 1)))), ?_, rfl, ?_, mUp K' w (j + 1) (min (K' w (j + 1)) (K' w j + 1)), q2.up hW hw hj (by omega), q3.tr r1, fun k hk => ?_, fun x k hx => ?_⟩
      · simp only [lp_SP_saySounds_7]
        rw [kn_inT (show w < 10 by omega) (by omega), kn_if_t, nI_clamp (show w < 2 ^ 31 by omega), (q1.1.2 w hw).2.1, if_neg (by rw [nI_ltI (by omega) (by omega)]; omega), nI_add, kn_sub1 (by omega), show w * 7 + (j + 1) - 1 = w * 7 + j by omega, kn_inT (show w * 7 + (j + 1) < 70 by omega) (by omega), kn_inT (show w * 7 + j < 70 by omega) (by omega), nI_clamp (show w * 7 + (j + 1) < 2 ^ 31 by omega), nI_clamp (show w * 7 + j < 2 ^ 31 by omega), a1.1, a2.1, nI_1, nI_1, kb_min (by omega) (by omega)]
        simp only [kn_if_t]
      · exact q1.fr (C := [47]) (S := []) (kbFr.w kbFr.rf (by decide)) (by decide)
      · by_cases e : k = j
        · subst e
          rw [mUp_at, mUp_no (by omega)]
          exact Nat.min_le_right _ _
        · rw [mUp_no (by omega), mUp_no (by omega)]
          exact q4 k (by omega)
      · rw [mUp_no (by omega)]; exact q5 x k hx)
    (zSize (zRowAt W w)) 0 n (1, μ) (by omega) (by omega) ⟨rfl, hR, K, hK, mRl.rf, fun k hk => absurd hk (Nat.not_lt_zero k), fun _ _ _ => rfl⟩
  refine ⟨ν, K', ?_, q⟩
  unfold f_SP_saySounds
  rw [kl_7, pk_mul, show lp_SP_saySounds_7 n (nI w) (nI (w * 7)) n 1 μ = some ν from e1, kn_bs]
theorem c_sayAll {n : Nat} (hn : 1000 ≤ n) (z : Int32) {μ : kbM} {W : zW} {C : List Int} (hW : zWok W) {K : Nat → Nat → Nat} (hR : cRule μ W C) (hK : cK μ W K) : ∃ ν, lp_SP_sayMore_21 n z n 0 μ = some ν ∧ ∃ K', cRule ν W C ∧ cK ν W K' ∧ mRl W C K K' ∧ (∀ w, w < W.length → sndOk W K' w) ∧ (∀ x, K' x 0 = K x 0) := by
  have h10 := hW.1
  exact kn_for (fun k (s : Int32 × kbM) => lp_SP_sayMore_21 n z k s.1 s.2) (fun j s => s.1 = nI j ∧ ∃ K', cRule s.2 W C ∧ cK s.2 W K' ∧ mRl W C K K' ∧ (∀ w, w < j → sndOk W K' w) ∧ (∀ x, K' x 0 = K x 0)) W.length (fun ν => ∃ K', cRule ν W C ∧ cK ν W K' ∧ mRl W C K K' ∧ (∀ w, w < W.length → sndOk W K' w) ∧ (∀ x, K' x 0 = K x 0))
    (fun k s hs => by
      obtain ⟨y, ν⟩ := s
      obtain ⟨e1, K', q1, q2⟩ := hs
      simp only at e1 q1 q2
      subst e1
      refine ⟨ν, ?_, K', q1, q2⟩
      simp only [lp_SP_sayMore_21]
      rw [q1.1.1, if_pos (by rw [nI_leI (by omega) (by omega)]; omega)])
    (fun k j s hj hs => by
      obtain ⟨y, ν⟩ := s
      obtain ⟨e1, K', q1, q2, q3, q4, q5⟩ := hs
      simp only at e1 q1 q2
      subst e1
      obtain ⟨ν1, K1, e1, r1, k1, m1, s1, o1⟩ := c_sayS hn hW q1 q2 hj
      refine Or.inr ⟨(nI (j + 1), ν1), ?_, rfl, K1, r1, k1, q3.tr m1, fun w hw => ?_, fun x => by rw [o1 x 0 (Or.inr rfl)]; exact q5 x⟩
      · simp only [lp_SP_sayMore_21]
        rw [q1.1.1, if_neg (by rw [nI_leI (by omega) (by omega)]; omega), e1, kn_bs, nI_1]
      · by_cases e : w = j
        · subst e; exact s1
        · intro k hk
          rw [o1 w _ (Or.inl e), o1 w _ (Or.inl e)]
          exact q4 w (by omega) k hk)
    W.length 0 n (0, μ) (by omega) (by omega) ⟨rfl, K, hR, hK, mRl.rf, fun w hw => absurd hw (Nat.not_lt_zero w), fun _ => rfl⟩
theorem zB_or (a b : Bool) : zB a ||| zB b = zB (a || b) := by cases a <;> cases b <;> rfl
theorem c_begin {n : Nat} (hn : 1000 ≤ n) {μ : kbM} {W : zW} {C : List Int} (hW : zWok W) (hC : zCok C) {K : Nat → Nat → Nat} (hR : cRule μ W C) (hK : cK μ W K) {a : Nat} (ha : a < W.length) : ∃ ν K' fl, f_SP_beginBehind n (nI a) μ = some (zB fl, ν) ∧ cRule ν W C ∧ cK ν W K' ∧ mRl W C K K' ∧ (∀ b, b < W.length → zJoin W C a b = true → K' b 0 ≤ K a (zSize (zRowAt W a))) ∧ (∀ x k, k ≠ 0 → K' x k = K x k) ∧ (∀ x, K' x 0 ≤ K x 0) ∧ (fl = false → K' = K) ∧ (fl = true → ∃ b, b < W.length ∧ zJoin W C a b = true ∧ K a (zSize (zRowAt W a)) < K b 0) := by
  have h10 := hW.1
  have s6 := hW.s6 ha
  have z0 := hW.sz a ha
  have ka := hK a _ ha (Nat.le_refl _)
  obtain ⟨r, e1, ν, K', fl, e2, q⟩ := kn_for (fun k (s : Int32 × Int32 × kbM) => lp_SP_beginBehind_25 n (nI a) (nI (K a (zSize (zRowAt W a)))) k s.1 s.2.1 s.2.2) (fun j s => ∃ K' fl, s.1 = zB fl ∧ s.2.1 = nI j ∧ cRule s.2.2 W C ∧ cK s.2.2 W K' ∧ mRl W C K K' ∧ (∀ b, b < j → zJoin W C a b = true → K' b 0 ≤ K a (zSize (zRowAt W a))) ∧ (∀ x k, k ≠ 0 → K' x k = K x k) ∧ (∀ x, K' x 0 ≤ K x 0) ∧ (fl = false → K' = K) ∧ (fl = true → ∃ b, b < W.length ∧ zJoin W C a b = true ∧ K a (zSize (zRowAt W a)) < K b 0)) W.length (fun r => ∃ ν K' fl, r = (zB fl, ν) ∧ cRule ν W C ∧ cK ν W K' ∧ mRl W C K K' ∧ (∀ b, b < W.length → zJoin W C a b = true → K' b 0 ≤ K a (zSize (zRowAt W a))) ∧ (∀ x k, k ≠ 0 → K' x k = K x k) ∧ (∀ x, K' x 0 ≤ K x 0) ∧ (fl = false → K' = K) ∧ (fl = true → ∃ b, b < W.length ∧ zJoin W C a b = true ∧ K a (zSize (zRowAt W a)) < K b 0))
    (fun k s hs => by
      obtain ⟨x, y, ν⟩ := s
      obtain ⟨K', fl, e1, e2, q1, q2⟩ := hs
      simp only at e1 e2 q1 q2
      subst e1 e2
      refine ⟨(zB fl, ν), ?_, ν, K', fl, rfl, q1, q2⟩
      simp only [lp_SP_beginBehind_25]
      rw [q1.1.1, if_pos (by rw [nI_leI (by omega) (by omega)]; omega)])
    (fun k j s hj hs => by
      obtain ⟨x, y, ν⟩ := s
      obtain ⟨K', fl, e1, e2, q1, q2, q3, q4, q5, q6, q7⟩ := hs
      simp only at e1 e2 q1 q2
      subst e1 e2
      have b0 := q2 j 0 hj (Nat.zero_le _)
      rw [Nat.add_zero] at b0
      have sj := hW.s6 hj
      obtain ⟨ν1, f1, r1⟩ := jo_may (n := n) (by omega) h10 ha hj hC q1
      have fr1 := fr_f_JO_mayFollow f1
      have k1 : cK ν1 W K' := q2.fr fr1 (by decide)
      have start : lp_SP_beginBehind_25 n (nI a) (nI (K a (zSize (zRowAt W a)))) (k + 1) (zB fl) (nI j) ν = if nI (K' j 0) ≤ nI (K a (zSize (zRowAt W a))) then lp_SP_beginBehind_25 n (nI a) (nI (K a (zSize (zRowAt W a)))) k (zB fl) (nI (j + 1)) ν else if zB (zJoin W C a j) = 0 then lp_SP_beginBehind_25 n (nI a) (nI (K a (zSize (zRowAt W a)))) k (zB fl) (nI (j + 1)) ν1 else lp_SP_beginBehind_25 n (nI a) (nI (K a (zSize (zRowAt W a)))) k 1 (nI (j + 1)) (kbW ν1 47 (j * 7) (nI (K a (zSize (zRowAt W a))))) := by
        simp only [lp_SP_beginBehind_25, jn_SP_beginBehind_77]
        rw [q1.1.1, if_neg (by rw [nI_leI (by omega) (by omega)]; omega), kl_7, pk_mul, kn_inT (show j * 7 < 70 by omega) (by omega), nI_clamp (show j * 7 < 2 ^ 31 by omega), b0.1, f1, kn_bs, nI_1]
        simp only [kn_if_t]
      refine Or.inr ?_
      by_cases hle : K' j 0 ≤ K a (zSize (zRowAt W a))
      · refine ⟨(zB fl, nI (j + 1), ν), ?_, K', fl, rfl, rfl, q1, q2, q3, fun b hb hjb => ?_, q5, q6, q7⟩
        · simp only; rw [start, if_pos (by rw [nI_leI (by omega) (by omega)]; exact hle)]
        · by_cases e : b = j
          · subst e; exact hle
          · exact q4 b (by omega) hjb
      · cases hjn : zJoin W C a j
        · refine ⟨(zB fl, nI (j + 1), ν1), ?_, K', fl, rfl, rfl, r1, k1, q3, fun b hb hjb => ?_, q5, q6, q7⟩
          · simp only; rw [start, if_neg (by rw [nI_leI (by omega) (by omega)]; exact hle), hjn, if_pos zF0]
          · by_cases e : b = j
            · subst e; rw [hjn] at hjb; cases hjb
            · exact q4 b (by omega) hjb
        · have hx : K' a (zSize (zRowAt W a)) = K a (zSize (zRowAt W a)) := q5 a _ (by omega)
          have m1 := mRl.bgn (K := K') ha hj hjn (by omega)
          rw [hx] at m1
          have u1 := k1.up hW (w := j) (k := 0) (x := K a (zSize (zRowAt W a))) hj (Nat.zero_le _) ka.2
          rw [Nat.add_zero] at u1
          refine ⟨(1, nI (j + 1), kbW ν1 47 (j * 7) (nI (K a (zSize (zRowAt W a))))), ?_, mUp K' j 0 (K a (zSize (zRowAt W a))), true, rfl, rfl, r1.fr (C := [47]) (S := []) (kbFr.w kbFr.rf (by decide)) (by decide), u1, q3.tr m1, fun b hb hjb => ?_, fun x k hk => ?_, fun x => ?_, (fun q => by cases q), fun _ => ⟨j, hj, hjn, by have := q6 j; omega⟩⟩
          · simp only; rw [start, if_neg (by rw [nI_leI (by omega) (by omega)]; exact hle), hjn, if_neg zT0]
          · by_cases e : b = j
            · subst e; rw [mUp_at]; exact Nat.le_refl _
            · rw [mUp_no (fun z => e z.1)]; exact q4 b (by omega) hjb
          · rw [mUp_no (fun z => hk z.2)]; exact q5 x k hk
          · by_cases e : x = j
            · subst e
              rw [mUp_at]
              have := q6 x
              omega
            · rw [mUp_no (fun z => e z.1)]; exact q6 x)
    W.length 0 n (0, 0, μ) (by omega) (by omega) ⟨K, false, rfl, rfl, hR, hK, mRl.rf, fun b hb => absurd hb (Nat.not_lt_zero b), fun _ _ _ => rfl, fun _ => Nat.le_refl _, fun _ => rfl, fun q => by cases q⟩
  refine ⟨ν, K', fl, ?_, q⟩
  unfold f_SP_beginBehind
  rw [kn_inT (show a < 10 by omega) (by omega), kn_if_t, nI_clamp (by omega), (hR.1.2 a ha).2.1, kl_7, pk_mul, nI_add, kn_inT (show a * 7 + zSize (zRowAt W a) < 70 by omega) (by omega), kn_if_t, nI_clamp (by omega), ka.1, show lp_SP_beginBehind_25 n (nI a) (nI (K a (zSize (zRowAt W a)))) n 0 0 μ = some r from e1, kn_bs, e2]
  cases fl <;> rfl
theorem c_beginAll {n : Nat} (hn : 1000 ≤ n) (z : Int32) {μ : kbM} {W : zW} {C : List Int} (hW : zWok W) (hC : zCok C) {K : Nat → Nat → Nat} (hR : cRule μ W C) (hK : cK μ W K) : ∃ r, lp_SP_sayMore_47 n z n 0 0 μ = some r ∧ ∃ K' fl, r.1 = zB fl ∧ cRule r.2 W C ∧ cK r.2 W K' ∧ mRl W C K K' ∧ (∀ a b, a < W.length → b < W.length → zJoin W C a b = true → K' b 0 ≤ K a (zSize (zRowAt W a))) ∧ (∀ x k, k ≠ 0 → K' x k = K x k) ∧ (∀ x, K' x 0 ≤ K x 0) ∧ (fl = false → K' = K) ∧ (fl = true → ∃ a b, a < W.length ∧ b < W.length ∧ zJoin W C a b = true ∧ K a (zSize (zRowAt W a)) < K b 0) := by
  have h10 := hW.1
  exact kn_for (fun k (s : Int32 × Int32 × kbM) => lp_SP_sayMore_47 n z k s.1 s.2.1 s.2.2) (fun j s => ∃ K' fl, s.1 = zB fl ∧ s.2.1 = nI j ∧ cRule s.2.2 W C ∧ cK s.2.2 W K' ∧ mRl W C K K' ∧ (∀ a b, a < j → b < W.length → zJoin W C a b = true → K' b 0 ≤ K a (zSize (zRowAt W a))) ∧ (∀ x k, k ≠ 0 → K' x k = K x k) ∧ (∀ x, K' x 0 ≤ K x 0) ∧ (fl = false → K' = K) ∧ (fl = true → ∃ a b, a < W.length ∧ b < W.length ∧ zJoin W C a b = true ∧ K a (zSize (zRowAt W a)) < K b 0)) W.length (fun r => ∃ K' fl, r.1 = zB fl ∧ cRule r.2 W C ∧ cK r.2 W K' ∧ mRl W C K K' ∧ (∀ a b, a < W.length → b < W.length → zJoin W C a b = true → K' b 0 ≤ K a (zSize (zRowAt W a))) ∧ (∀ x k, k ≠ 0 → K' x k = K x k) ∧ (∀ x, K' x 0 ≤ K x 0) ∧ (fl = false → K' = K) ∧ (fl = true → ∃ a b, a < W.length ∧ b < W.length ∧ zJoin W C a b = true ∧ K a (zSize (zRowAt W a)) < K b 0))
    (fun k s hs => by
      obtain ⟨x, y, ν⟩ := s
      obtain ⟨K', fl, e1, e2, q1, q2⟩ := hs
      simp only at e1 e2 q1 q2
      subst e1 e2
      refine ⟨(zB fl, ν), ?_, K', fl, rfl, q1, q2⟩
      simp only [lp_SP_sayMore_47]
      rw [q1.1.1, if_pos (by rw [nI_leI (by omega) (by omega)]; omega)])
    (fun k j s hj hs => by
      obtain ⟨x, y, ν⟩ := s
      obtain ⟨K', fl, e1, e2, q1, q2, q3, q4, q5, q6, q7, q8⟩ := hs
      simp only at e1 e2 q1 q2
      subst e1 e2
      have z0 := hW.sz j hj
      obtain ⟨ν1, K1, f1, e1, r1, k1, m1, g1, g2, g3, g4, g5⟩ := c_begin hn hW hC q1 q2 hj
      refine Or.inr ⟨(zB (fl || f1), nI (j + 1), ν1), ?_, K1, fl || f1, rfl, rfl, r1, k1, q3.tr m1, fun a b ha hb hjb => ?_, fun x k hk => by rw [g2 x k hk]; exact q5 x k hk, fun x => Nat.le_trans (g3 x) (q6 x), fun q => ?_, fun q => ?_⟩
      · simp only [lp_SP_sayMore_47]
        rw [q1.1.1, if_neg (by rw [nI_leI (by omega) (by omega)]; omega), e1, kn_bs, nI_1, zB_or]
      · by_cases e : a = j
        · subst e
          have := g1 b hb hjb
          rw [q5 a _ (by omega)] at this
          exact this
        · exact Nat.le_trans (g3 b) (q4 a b (by omega) hb hjb)
      · have q' : fl = false ∧ f1 = false := by simpa using q
        rw [g4 q'.2, q7 q'.1]
      · cases fl with
        | true => exact q8 rfl
        | false =>
          have q' : f1 = true := by simpa using q
          obtain ⟨b, hb, hjb, hlt⟩ := g5 q'
          rw [q5 j _ (by omega)] at hlt
          exact ⟨j, b, hj, hb, hjb, Nat.lt_of_lt_of_le hlt (q6 b)⟩)
    W.length 0 n (0, 0, μ) (by omega) (by omega) ⟨K, false, rfl, rfl, hR, hK, mRl.rf, fun a b ha => absurd ha (Nat.not_lt_zero a), fun _ _ _ => rfl, fun _ => Nat.le_refl _, fun _ => rfl, fun q => by cases q⟩
theorem c_sayMore {n : Nat} (hn : 1000 ≤ n) {μ : kbM} {W : zW} {C : List Int} (hW : zWok W) (hC : zCok C) {K : Nat → Nat → Nat} (hR : cRule μ W C) (hK : cK μ W K) : ∃ ν S, f_SP_sayMore n μ = some ν ∧ cRule ν W C ∧ cK ν W S ∧ mGs W C K S := by
  have h10 := hW.1
  obtain ⟨S0, hS0⟩ := mGs_ex hW C _ K rfl
  obtain ⟨ν, e1, S, q1, q2, q3⟩ := kn_for (fun k (s : Int32 × Int32 × kbM) => lp_SP_sayMore_4 n k s.1 s.2.1 s.2.2) (fun r s => ∃ K' fl, s.1 = zB fl ∧ s.2.1 = nI r ∧ cRule s.2.2 W C ∧ cK s.2.2 W K' ∧ mRl W C K K' ∧ mIv W S0 K' r ∧ (fl = false → mSt W C K') ∧ (W.length < r → fl = false)) (W.length + 1) (fun ν => ∃ S, cRule ν W C ∧ cK ν W S ∧ mGs W C K S)
    (fun k s hs => by
      obtain ⟨x, y, ν⟩ := s
      obtain ⟨K', fl, e1, e2, q1, q2, q3, q4, q5, q6⟩ := hs
      simp only at e1 e2 q1 q2
      subst e1 e2
      have hf := q6 (by omega)
      subst hf
      refine ⟨ν, ?_, K', q1, q2, q3.gs (q5 rfl)⟩
      simp only [lp_SP_sayMore_4]
      rw [if_pos zF0])
    (fun k r s hr hs => by
      obtain ⟨x, y, ν⟩ := s
      obtain ⟨K', fl, e1, e2, q1, q2, q3, q4, q5, q6⟩ := hs
      simp only at e1 e2 q1 q2
      subst e1 e2
      cases fl
      · refine Or.inl ⟨ν, ?_, K', q1, q2, q3.gs (q5 rfl)⟩
        simp only [lp_SP_sayMore_4]
        rw [if_pos zF0]
      · obtain ⟨ν1, e1, K1, r1, k1, m1, s1, o1⟩ := c_sayAll hn (nI r) hW q1 q2
        obtain ⟨x2, e2, K2, f2, ef, r2, k2, m2, g1, g2, g3, g4, g5⟩ := c_beginAll hn (nI r) hW hC r1 k1
        have i2 := mIv_step hW hS0 q4 (q3.tr m1).1 (fun w k hw hk => s1 w hw k hk) (fun w _ => by rw [o1 w]; exact Nat.le_refl _) (fun w _ => g3 w) g1
        refine Or.inr ⟨(x2.1, nI (r + 1), x2.2), ?_, K2, f2, ef, rfl, r2, k2, (q3.tr m1).tr m2, i2, fun q => ?_, fun q => ?_⟩
        · simp only [lp_SP_sayMore_4]
          rw [if_neg zT0, q1.1.1, if_neg (by rw [nI_ltI (by omega) (by omega)]; omega), e1, kn_bs, e2, kn_bs, nI_1]
        · have := g4 q
          subst this
          exact ⟨fun w k hw hk => s1 w hw k hk, g1⟩
        · have hrc : r = W.length := by omega
          subst hrc
          have st := mIv_end hW hS0 (q3.tr m1) (fun w hw hk => by rw [o1 w]; exact q4 w hw hk) (fun w k hw hk => s1 w hw k hk)
          cases f2 with
          | false => rfl
          | true =>
            obtain ⟨a, b, ha, hb, hjb, hlt⟩ := g5 rfl
            have := st.2 a b ha hb hjb
            omega)
    (W.length + 1) 0 n (1, 0, μ) (by omega) (by omega) ⟨K, true, rfl, rfl, hR, hK, mRl.rf, fun w _ h => absurd h (Nat.not_lt_zero _), (fun q => by cases q), fun q => absurd q (by omega)⟩
  refine ⟨ν, S, ?_, q1, q2, q3⟩
  unfold f_SP_sayMore jn_SP_sayMore_78
  rw [show lp_SP_sayMore_4 n n 1 0 μ = some ν from e1, kn_bs]
