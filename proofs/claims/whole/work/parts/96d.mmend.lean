/-! the model mends -/
def mK (μ : kbM) (W : zW) (K : Nat → Nat → Nat) : Prop := ∀ w k, w < W.length → k ≤ zSize (zRowAt W w) → μ.1 84 (7 * w + k) = nI (K w k) ∧ K w k < 2 ^ 30
theorem mK.up {μ : kbM} {W : zW} (hW : zWok W) {K : Nat → Nat → Nat} (h : mK μ W K) {w k x : Nat} (hw : w < W.length) (hk : k ≤ zSize (zRowAt W w)) (hx : x < 2 ^ 30) : mK (kbW μ 84 (7 * w + k) (nI x)) W (mUp K w k x) := by
  intro a b ha hb
  have s1 := hW.s6 ha
  have s2 := hW.s6 hw
  by_cases e : a = w ∧ b = k
  · obtain ⟨rfl, rfl⟩ := e
    rw [mUp_at]; exact ⟨kW_at, hx⟩
  · rw [mUp_no e, kW_no (by omega)]; exact h a b ha hb
theorem mK.fr {C S : List Nat} {μ μ' : kbM} {W : zW} {K : Nat → Nat → Nat} (h : kbFr C S μ μ') (hc : 84 ∉ C) (q : mK μ W K) : mK μ' W K := by
  unfold mK at *
  rw [fr_at h hc (by decide)]; exact q
def mB (μ : kbM) (W : zW) (C : List Int) (v : Nat) : Prop := mRule μ W C ∧ mSn μ W v
theorem mB.w {μ : kbM} {W : zW} {C : List Int} {v : Nat} (h : mB μ W C v) (k : Nat) (x : Int32) : mB (kbW μ 84 k x) W C v := ⟨h.1.fr (C := [84]) (S := []) (kbFr.w kbFr.rf (by decide)) (by decide) (by decide), h.2.fr (C := [84]) (S := []) (kbFr.w kbFr.rf (by decide)) (by decide) (by decide)⟩
theorem mB.w5 {μ : kbM} {W : zW} {C : List Int} {v : Nat} (h : mB μ W C v) (k : Nat) (x : Int32) : mB (kbW μ 85 k x) W C v := ⟨h.1.fr (C := [85]) (S := []) (kbFr.w kbFr.rf (by decide)) (by decide) (by decide), h.2.fr (C := [85]) (S := []) (kbFr.w kbFr.rf (by decide)) (by decide) (by decide)⟩
/-- the state within a pass that began with K0 -/
def mGo (W : zW) (C : List Int) (K0 K : Nat → Nat → Nat) (fl : Bool) : Prop := mRl W C K0 K ∧ (fl = false → K = K0) ∧ (fl = true → mSm W K < mSm W K0)
theorem mGo.up {W : zW} {C : List Int} {K0 K : Nat → Nat → Nat} {fl : Bool} (h : mGo W C K0 K fl) {w k x : Nat} (hw : w < W.length) (hk : k ≤ zSize (zRowAt W w)) (hx : x < K w k) (hr : mRl W C K (mUp K w k x)) : mGo W C K0 (mUp K w k x) true := by
  refine ⟨h.1.tr hr, fun q => by (cases q), fun _ => ?_⟩
  have h1 := mSm_lt (k := k) hr.1 hw hk (by rw [mUp_at]; exact hx)
  have h2 := mSm_le h.1.1
  omega
theorem m_bg {n : Nat} (hn : 1000 ≤ n) {μ : kbM} {W : zW} {C : List Int} (hW : zWok W) (hC : zCok C) {v : Nat} {K0 K : Nat → Nat → Nat} {fl : Bool} {a : Nat} (ha : a < W.length) (h0 : ∀ b, b < W.length → K0 b 0 < 100000) (hB : mB μ W C v) (hK : mK μ W K) (hG : mGo W C K0 K fl) : ∃ r, lp_MD_sayMore_95 n (nI a) (nI (zSize (zRowAt W a))) (nI (K a (zSize (zRowAt W a)))) n (zB fl) 0 μ = some r ∧ ∃ K' fl', r.1 = zB fl' ∧ mB r.2 W C v ∧ mK r.2 W K' ∧ mGo W C K0 K' fl' ∧ (fl' = false → fl = false ∧ ∀ b, b < W.length → zJoin W C a b = true → K0 b 0 ≤ K0 a (zSize (zRowAt W a))) := by
  have h10 := hW.1
  have s6 := hW.s6 ha
  have z0 := hW.sz a ha
  have ka := hK a _ ha (Nat.le_refl _)
  have kle : ∀ b, b < W.length → K b 0 < 100000 := fun b hb => Nat.lt_of_le_of_lt (hG.1.1 b 0 hb (Nat.zero_le _)) (h0 b hb)
  by_cases hfar : 100000 ≤ K a (zSize (zRowAt W a))
  · obtain ⟨n', hn'⟩ : ∃ q, n = q + 1 := ⟨n - 1, by omega⟩
    refine ⟨(zB fl, μ), ?_, K, fl, rfl, hB, hK, hG, fun q => ⟨q, fun b hb _ => ?_⟩⟩
    · rw [show lp_MD_sayMore_95 n (nI a) (nI (zSize (zRowAt W a))) (nI (K a (zSize (zRowAt W a)))) n (zB fl) 0 μ = lp_MD_sayMore_95 n (nI a) (nI (zSize (zRowAt W a))) (nI (K a (zSize (zRowAt W a)))) (n' + 1) (zB fl) 0 μ by rw [← hn']]
      simp only [lp_MD_sayMore_95]
      rw [hB.1.1.1, if_neg (show ¬ nI W.length ≤ 0 by rw [kn_le0 (by omega)]; omega), kn_inT (show a < 10 by omega) (by omega), kn_if_t, nI_clamp (by omega), (hB.2.2.2 a ha).1, if_pos rfl, show (100000 : Int32) = nI 100000 from rfl, if_pos (by rw [nI_leI (by decide) (by omega)]; exact hfar)]
    · have := kle b hb
      rw [hG.2.1 q] at this hfar
      omega
  · exact kn_for (fun k (s : Int32 × Int32 × kbM) => lp_MD_sayMore_95 n (nI a) (nI (zSize (zRowAt W a))) (nI (K a (zSize (zRowAt W a)))) k s.1 s.2.1 s.2.2) (fun j s => ∃ K' fl', s.1 = zB fl' ∧ s.2.1 = nI j ∧ mB s.2.2 W C v ∧ mK s.2.2 W K' ∧ mGo W C K0 K' fl' ∧ K' a (zSize (zRowAt W a)) = K a (zSize (zRowAt W a)) ∧ (fl' = false → fl = false ∧ ∀ b, b < j → zJoin W C a b = true → K0 b 0 ≤ K0 a (zSize (zRowAt W a)))) W.length (fun r => ∃ K' fl', r.1 = zB fl' ∧ mB r.2 W C v ∧ mK r.2 W K' ∧ mGo W C K0 K' fl' ∧ (fl' = false → fl = false ∧ ∀ b, b < W.length → zJoin W C a b = true → K0 b 0 ≤ K0 a (zSize (zRowAt W a))))
      (fun k s hs => by
        obtain ⟨x, y, ν⟩ := s
        obtain ⟨K', fl', e1, e2, q1, q2, q3, q4, q5⟩ := hs
        simp only at e1 e2 q1 q2
        subst e1 e2
        refine ⟨(zB fl', ν), ?_, K', fl', rfl, q1, q2, q3, q5⟩
        simp only [lp_MD_sayMore_95]
        rw [q1.1.1.1, if_pos (by rw [nI_leI (by omega) (by omega)]; omega)])
      (fun k j s hj hs => by
        obtain ⟨x, y, ν⟩ := s
        obtain ⟨K', fl', e1, e2, q1, q2, q3, q4, q5⟩ := hs
        simp only at e1 e2 q1 q2
        subst e1 e2
        have b0 := q2 j 0 hj (Nat.zero_le _)
        rw [Nat.add_zero] at b0
        obtain ⟨ν1, f1, r1⟩ := md_joins (n := n) (by omega) hW ha hj hC q1.1
        have fr1 := fr_f_MD_joins f1
        have k1 : mK ν1 W K' := q2.fr fr1 (by decide)
        have B1 : mB ν1 W C v := ⟨r1, q1.2.fr fr1 (by decide) (by decide)⟩
        have start : lp_MD_sayMore_95 n (nI a) (nI (zSize (zRowAt W a))) (nI (K a (zSize (zRowAt W a)))) (k + 1) (zB fl') (nI j) ν = if nI (K' j 0) ≤ nI (K a (zSize (zRowAt W a))) then lp_MD_sayMore_95 n (nI a) (nI (zSize (zRowAt W a))) (nI (K a (zSize (zRowAt W a)))) k (zB fl') (nI (j + 1)) ν else if zB (zJoin W C a j) = 0 then lp_MD_sayMore_95 n (nI a) (nI (zSize (zRowAt W a))) (nI (K a (zSize (zRowAt W a)))) k (zB fl') (nI (j + 1)) ν1 else lp_MD_sayMore_95 n (nI a) (nI (zSize (zRowAt W a))) (nI (K a (zSize (zRowAt W a)))) k 1 (nI (j + 1)) (kbW ν1 84 (7 * j) (nI (K a (zSize (zRowAt W a))))) := by
          simp only [lp_MD_sayMore_95, jn_MD_sayMore_163]
          rw [q1.1.1.1, if_neg (by rw [nI_leI (by omega) (by omega)]; omega), kn_inT (show a < 10 by omega) (by omega), kn_if_t, nI_clamp (show a < 2 ^ 31 by omega), (q1.2.2.2 a ha).1, if_pos rfl, show (100000 : Int32) = nI 100000 from rfl, if_neg (by rw [nI_leI (by decide) (by omega)]; exact hfar), kl_7, pk_mul, kn_inT (show 7 * j < 70 by omega) (by omega), nI_clamp (show 7 * j < 2 ^ 31 by omega), b0.1, f1, kn_bs, nI_1]
          simp only [kn_if_t]
        refine Or.inr ?_
        by_cases hle : K' j 0 ≤ K a (zSize (zRowAt W a))
        · refine ⟨(zB fl', nI (j + 1), ν), ?_, K', fl', rfl, rfl, q1, q2, q3, q4, fun q => ⟨(q5 q).1, fun b hb hjb => ?_⟩⟩
          · simp only; rw [start, if_pos (by rw [nI_leI (by omega) (by omega)]; exact hle)]
          · by_cases e : b = j
            · subst e
              have := q3.2.1 q
              rw [this] at hle q4
              omega
            · exact (q5 q).2 b (by omega) hjb
        · cases hjn : zJoin W C a j
          · refine ⟨(zB fl', nI (j + 1), ν1), ?_, K', fl', rfl, rfl, B1, k1, q3, q4, fun q => ⟨(q5 q).1, fun b hb hjb => ?_⟩⟩
            · simp only; rw [start, if_neg (by rw [nI_leI (by omega) (by omega)]; exact hle), hjn, if_pos zF0]
            · by_cases e : b = j
              · subst e; rw [hjn] at hjb; cases hjb
              · exact (q5 q).2 b (by omega) hjb
          · have m1 := mRl.bgn (K := K') ha hj hjn (by omega)
            rw [q4] at m1
            have u1 := k1.up hW (w := j) (k := 0) (x := K a (zSize (zRowAt W a))) hj (Nat.zero_le _) ka.2
            rw [Nat.add_zero] at u1
            refine ⟨(1, nI (j + 1), kbW ν1 84 (7 * j) (nI (K a (zSize (zRowAt W a))))), ?_, mUp K' j 0 (K a (zSize (zRowAt W a))), true, rfl, rfl, B1.w _ _, u1, q3.up hj (Nat.zero_le _) (by omega) m1, ?_, fun q => by (cases q)⟩
            · simp only; rw [start, if_neg (by rw [nI_leI (by omega) (by omega)]; exact hle), hjn, if_neg zT0]
            · rw [mUp_no (by omega)]; exact q4)
      W.length 0 n (zB fl, 0, μ) (by omega) (by omega) ⟨K, fl, rfl, rfl, hB, hK, hG, rfl, fun q => ⟨q, fun b hb => absurd hb (Nat.not_lt_zero b)⟩⟩
theorem m_wd {n : Nat} (hn : 1000 ≤ n) {μ : kbM} {W : zW} {C : List Int} (hW : zWok W) (hC : zCok C) {v : Nat} {K0 K : Nat → Nat → Nat} {fl : Bool} {a : Nat} (ha : a < W.length) (h0 : ∀ b, b < W.length → K0 b 0 < 100000) (hB : mB μ W C v) (hK : mK μ W K) (hG : mGo W C K0 K fl) : ∃ r, lp_MD_sayMore_20 n (nI a) n (zB fl) 0 μ = some r ∧ ∃ K' fl', r.1 = zB fl' ∧ mB r.2 W C v ∧ mK r.2 W K' ∧ mGo W C K0 K' fl' ∧ (fl' = false → fl = false ∧ sndOk W K0 a ∧ ∀ b, b < W.length → zJoin W C a b = true → K0 b 0 ≤ K0 a (zSize (zRowAt W a))) := by
  have h10 := hW.1
  have s6 := hW.s6 ha
  exact kn_for (fun k (s : Int32 × Int32 × kbM) => lp_MD_sayMore_20 n (nI a) k s.1 s.2.1 s.2.2) (fun j s => ∃ K' fl', s.1 = zB fl' ∧ s.2.1 = nI j ∧ mB s.2.2 W C v ∧ mK s.2.2 W K' ∧ mGo W C K0 K' fl' ∧ (fl' = false → fl = false ∧ (∀ k, k < j → k < zSize (zRowAt W a) → K0 a (k + 1) ≤ K0 a k + 1) ∧ (zSize (zRowAt W a) < j → ∀ b, b < W.length → zJoin W C a b = true → K0 b 0 ≤ K0 a (zSize (zRowAt W a))))) (zSize (zRowAt W a) + 1) (fun r => ∃ K' fl', r.1 = zB fl' ∧ mB r.2 W C v ∧ mK r.2 W K' ∧ mGo W C K0 K' fl' ∧ (fl' = false → fl = false ∧ sndOk W K0 a ∧ ∀ b, b < W.length → zJoin W C a b = true → K0 b 0 ≤ K0 a (zSize (zRowAt W a))))
    (fun k s hs => by
      obtain ⟨x, y, ν⟩ := s
      obtain ⟨K', fl', e1, e2, q1, q2, q3, q5⟩ := hs
      simp only at e1 e2 q1 q2
      subst e1 e2
      refine ⟨(zB fl', ν), ?_, K', fl', rfl, q1, q2, q3, fun q => ⟨(q5 q).1, fun k hk => (q5 q).2.1 k (by omega) hk, (q5 q).2.2 (by omega)⟩⟩
      simp only [lp_MD_sayMore_20]
      rw [kn_inT (show a < 10 by omega) (by omega), kn_if_t, nI_clamp (by omega), (q1.2.2.2 a ha).1, if_pos (by rw [nI_ltI (by omega) (by omega)]; omega)])
    (fun k j s hj hs => by
      obtain ⟨x, y, ν⟩ := s
      obtain ⟨K', fl', e1, e2, q1, q2, q3, q5⟩ := hs
      simp only at e1 e2 q1 q2
      subst e1 e2
      have b0 := q2 a j ha (by omega)
      refine Or.inr ?_
      by_cases hz : j = zSize (zRowAt W a)
      · subst hz
        obtain ⟨r, e1, K1, f1, g1, g2, g3, g4, g5⟩ := m_bg hn hW hC ha h0 q1 q2 q3
        refine ⟨(r.1, nI (zSize (zRowAt W a) + 1), r.2), ?_, K1, f1, g1, rfl, g2, g3, g4, fun q => ⟨(q5 (g5 q).1).1, fun k hk hk2 => (q5 (g5 q).1).2.1 k hk2 hk2, fun _ => (g5 q).2⟩⟩
        simp only [lp_MD_sayMore_20, jn_MD_sayMore_92, jn_MD_sayMore_169]
        rw [kn_inT (show a < 10 by omega) (by omega), kn_if_t, nI_clamp (show a < 2 ^ 31 by omega), (q1.2.2.2 a ha).1, if_neg (by rw [nI_ltI (by omega) (by omega)]; omega), kl_7, pk_mul, nI_add, kn_inT (show 7 * a + zSize (zRowAt W a) < 70 by omega) (by omega), kn_if_t, kn_if_t, if_pos (by rw [nI_leI (by omega) (by omega)]; omega), nI_clamp (show 7 * a + zSize (zRowAt W a) < 2 ^ 31 by omega), b0.1, e1, kn_bs, nI_1]
      · have b1 := q2 a (j + 1) ha (by omega)
        obtain ⟨n', hn'⟩ : ∃ q, n = q + 1 := ⟨n - 1, by omega⟩
        have stop : ∀ (κ : kbM) (t x : Int32), mB κ W C v → lp_MD_sayMore_95 n (nI a) (nI j) t n x 0 κ = some (x, κ) := by
          intro κ t x hκ
          rw [show lp_MD_sayMore_95 n (nI a) (nI j) t n x 0 κ = lp_MD_sayMore_95 n (nI a) (nI j) t (n' + 1) x 0 κ by rw [← hn']]
          simp only [lp_MD_sayMore_95]
          rw [hκ.1.1.1, if_neg (show ¬ nI W.length ≤ 0 by rw [kn_le0 (by omega)]; omega), kn_inT (show a < 10 by omega) (by omega), kn_if_t, nI_clamp (by omega), (hκ.2.2.2 a ha).1, if_neg (by rw [nI_eq (by omega) (by omega)]; exact hz)]
        have start : lp_MD_sayMore_20 n (nI a) (k + 1) (zB fl') (nI j) ν = if nI (K' a (j + 1)) ≤ nI (K' a j + 1) then lp_MD_sayMore_20 n (nI a) k (zB fl') (nI (j + 1)) ν else lp_MD_sayMore_20 n (nI a) k 1 (nI (j + 1)) (kbW ν 84 (7 * a + (j + 1)) (nI (K' a j + 1))) := by
          simp only [lp_MD_sayMore_20, jn_MD_sayMore_92, jn_MD_sayMore_169]
          rw [kn_inT (show a < 10 by omega) (by omega), kn_if_t, nI_clamp (show a < 2 ^ 31 by omega), (q1.2.2.2 a ha).1, if_neg (by rw [nI_ltI (by omega) (by omega)]; omega), kl_7, pk_mul, nI_add, kn_inT (show 7 * a + j < 70 by omega) (by omega), kn_if_t, kn_if_t, if_neg (by rw [nI_leI (by omega) (by omega)]; omega), nI_1 (7 * a + j), Nat.add_assoc, kn_inT (show 7 * a + (j + 1) < 70 by omega) (by omega), nI_clamp (show 7 * a + (j + 1) < 2 ^ 31 by omega), nI_clamp (show 7 * a + j < 2 ^ 31 by omega), b0.1, b1.1, nI_1 (K' a j), nI_1 j]
          simp only [kn_if_t]
          rw [stop ν _ _ q1, stop (kbW ν 84 (7 * a + (j + 1)) (nI (K' a j + 1))) _ _ (q1.w _ _), kn_bs, kn_bs]
        by_cases hle : K' a (j + 1) ≤ K' a j + 1
        · refine ⟨(zB fl', nI (j + 1), ν), ?_, K', fl', rfl, rfl, q1, q2, q3, fun q => ⟨(q5 q).1, fun k hk hk2 => ?_, fun h => absurd h (by omega)⟩⟩
          · simp only; rw [start, if_pos (by rw [nI_leI (by omega) (by omega)]; exact hle)]
          · by_cases e : k = j
            · subst e
              rw [q3.2.1 q] at hle
              exact hle
            · exact (q5 q).2.1 k (by omega) hk2
        · have m1 := mRl.snd (C := C) (K := K') (x := K' a j + 1) ha (show j < zSize (zRowAt W a) by omega) (by omega) (by omega)
          refine ⟨(1, nI (j + 1), kbW ν 84 (7 * a + (j + 1)) (nI (K' a j + 1))), ?_, mUp K' a (j + 1) (K' a j + 1), true, rfl, rfl, q1.w _ _, q2.up hW ha (by omega) (by omega), q3.up ha (by omega) (by omega) m1, fun q => by (cases q)⟩
          simp only; rw [start, if_neg (by rw [nI_leI (by omega) (by omega)]; exact hle)])
    (zSize (zRowAt W a) + 1) 0 n (zB fl, 0, μ) (by omega) (by omega) ⟨K, fl, rfl, rfl, hB, hK, hG, fun q => ⟨q, fun k hk => absurd hk (Nat.not_lt_zero k), fun h => absurd h (Nat.not_lt_zero _)⟩⟩
theorem m_all {n : Nat} (hn : 1000 ≤ n) {μ : kbM} {W : zW} {C : List Int} (hW : zWok W) (hC : zCok C) {v : Nat} {K : Nat → Nat → Nat} (h0 : ∀ b, b < W.length → K b 0 < 100000) (hB : mB μ W C v) (hK : mK μ W K) : ∃ r, lp_MD_sayMore_10 n n 0 0 μ = some r ∧ ∃ K' fl', r.1 = zB fl' ∧ mB r.2 W C v ∧ mK r.2 W K' ∧ mGo W C K K' fl' ∧ (fl' = false → mSt W C K) := by
  have h10 := hW.1
  exact kn_for (fun k (s : Int32 × Int32 × kbM) => lp_MD_sayMore_10 n k s.1 s.2.1 s.2.2) (fun j s => ∃ K' fl', s.1 = zB fl' ∧ s.2.1 = nI j ∧ mB s.2.2 W C v ∧ mK s.2.2 W K' ∧ mGo W C K K' fl' ∧ (fl' = false → (∀ a, a < j → sndOk W K a) ∧ ∀ a b, a < j → b < W.length → zJoin W C a b = true → K b 0 ≤ K a (zSize (zRowAt W a)))) W.length (fun r => ∃ K' fl', r.1 = zB fl' ∧ mB r.2 W C v ∧ mK r.2 W K' ∧ mGo W C K K' fl' ∧ (fl' = false → mSt W C K))
    (fun k s hs => by
      obtain ⟨x, y, ν⟩ := s
      obtain ⟨K', fl', e1, e2, q1, q2, q3, q5⟩ := hs
      simp only at e1 e2 q1 q2
      subst e1 e2
      refine ⟨(zB fl', ν), ?_, K', fl', rfl, q1, q2, q3, fun q => ⟨fun w k hw hk => (q5 q).1 w hw k hk, (q5 q).2⟩⟩
      simp only [lp_MD_sayMore_10]
      rw [q1.1.1.1, if_pos (by rw [nI_leI (by omega) (by omega)]; omega)])
    (fun k j s hj hs => by
      obtain ⟨x, y, ν⟩ := s
      obtain ⟨K', fl', e1, e2, q1, q2, q3, q5⟩ := hs
      simp only at e1 e2 q1 q2
      subst e1 e2
      obtain ⟨r, e1, K1, f1, g1, g2, g3, g4, g5⟩ := m_wd hn hW hC hj h0 q1 q2 q3
      refine Or.inr ⟨(r.1, nI (j + 1), r.2), ?_, K1, f1, g1, rfl, g2, g3, g4, fun q => ⟨fun a ha => ?_, fun a b ha hb hjb => ?_⟩⟩
      · simp only [lp_MD_sayMore_10]
        rw [q1.1.1.1, if_neg (by rw [nI_leI (by omega) (by omega)]; omega), e1, kn_bs, nI_1]
      · by_cases e : a = j
        · subst e; exact (g5 q).2.1
        · exact (q5 (g5 q).1).1 a (by omega)
      · by_cases e : a = j
        · subst e; exact (g5 q).2.2 b hb hjb
        · exact (q5 (g5 q).1).2 a b (by omega) hb hjb)
    W.length 0 n (0, 0, μ) (by omega) (by omega) ⟨K, false, rfl, rfl, hB, hK, ⟨mRl.rf, fun _ => rfl, fun q => by (cases q)⟩, fun _ => ⟨fun a ha => absurd ha (Nat.not_lt_zero a), fun a b ha => absurd ha (Nat.not_lt_zero a)⟩⟩
theorem m_sayMore {n : Nat} (hn : 100000000 ≤ n) {μ : kbM} {W : zW} {C : List Int} (hW : zWok W) (hC : zCok C) {v : Nat} {K : Nat → Nat → Nat} (h0 : ∀ w k, w < W.length → k ≤ zSize (zRowAt W w) → K w k ≤ 100000) (h0' : ∀ b, b < W.length → K b 0 < 100000) (hB : mB μ W C v) (hK : mK μ W K) : ∃ ν S, f_MD_sayMore n μ = some ν ∧ mB ν W C v ∧ mK ν W S ∧ mGs W C K S := by
  have h10 := hW.1
  have key : ∀ (m k : Nat) (κ : kbM) (K' : Nat → Nat → Nat), mSm W K' = m → m + 2 ≤ k → (∀ b, b < W.length → K' b 0 < 100000) → mB κ W C v → mK κ W K' → ∃ ν S, lp_MD_sayMore_2 n k 1 κ = some ν ∧ mB ν W C v ∧ mK ν W S ∧ mGs W C K' S := by
    intro m
    induction m using Nat.strongRecOn with
    | ind m ih =>
      intro k κ K' hm hk h1 h2 h3
      obtain ⟨k, rfl⟩ : ∃ q, k = q + 1 := ⟨k - 1, by omega⟩
      obtain ⟨r, e1, K1, f1, g1, g2, g3, g4, g5⟩ := m_all (n := n) (by omega) hW hC h1 h2 h3
      have start : lp_MD_sayMore_2 n (k + 1) 1 κ = lp_MD_sayMore_2 n k (zB f1) r.2 := by
        simp only [lp_MD_sayMore_2]
        rw [if_neg (by decide), e1, kn_bs, g1]
      cases f1 with
      | false =>
        obtain ⟨k, rfl⟩ : ∃ q, k = q + 1 := ⟨k - 1, by omega⟩
        refine ⟨r.2, K1, ?_, g2, g3, ?_⟩
        · rw [start]
          simp only [lp_MD_sayMore_2]
          rw [if_pos zF0]
        · rw [g4.2.1 rfl]; exact mRl.rf.gs (g5 rfl)
      | true =>
        obtain ⟨ν, S, e2, k1, k2, k3⟩ := ih (mSm W K1) (by have := g4.2.2 rfl; omega) k r.2 K1 rfl (by have := g4.2.2 rfl; omega) (fun b hb => Nat.lt_of_le_of_lt (g4.1.1 b 0 hb (Nat.zero_le _)) (h1 b hb)) g2 g3
        refine ⟨ν, S, ?_, k1, k2, k3.1, fun w k hw hk => Nat.le_trans (k3.2.1 w k hw hk) (g4.1.1 w k hw hk), fun D hD hl => k3.2.2 D hD (g4.1.2 D hD hl)⟩
        rw [start]; exact e2
  have hsm : mSm W K ≤ 7000000 := by
    unfold mSm
    refine Nat.le_trans (zSum_le (b := 700000) W.length (fun w hw => ?_)) (by omega)
    have s6 := hW.s6 hw
    refine Nat.le_trans (zSum_le (b := 100000) (zSize (zRowAt W w) + 1) (fun k hk => h0 w k hw (by omega))) (by omega)
  obtain ⟨ν, S, e, q⟩ := key (mSm W K) n μ K rfl (by omega) h0' hB hK
  refine ⟨ν, S, ?_, q⟩
  unfold f_MD_sayMore
  rw [e, kn_bs]
/-! the model hears a sound -/
theorem m_hr_in {n : Nat} (hn : 1000 ≤ n) {μ : kbM} {W : zW} {C : List Int} (hW : zWok W) {v : Nat} {K : Nat → Nat → Nat} {x w : Nat} (hx : x < 5) (hw : w < W.length) (hB : mB μ W C v) (hK : mK μ W K) (hb : ∀ w k, w < W.length → k ≤ zSize (zRowAt W w) → K w k < 1000) (h1 : ∀ b, b ≤ zSize (zRowAt W w) → μ.1 85 (7 * w + b) = nI (K w b + 1)) : ∃ ν, lp_MD_hearOne_40 n (nI x) (nI w) n 0 μ = some ν ∧ mB ν W C v ∧ mK ν W K ∧ (∀ b, b ≤ zSize (zRowAt W w) → ν.1 85 (7 * w + b) = nI (mPs W x K w b)) ∧ ∀ q, q < 7 * w ∨ 7 * w + 6 < q → ν.1 85 q = μ.1 85 q := by
  have h10 := hW.1
  have s6 := hW.s6 hw
  exact kn_for (fun k (s : Int32 × kbM) => lp_MD_hearOne_40 n (nI x) (nI w) k s.1 s.2) (fun j s => s.1 = nI j ∧ mB s.2 W C v ∧ mK s.2 W K ∧ (∀ b, b ≤ zSize (zRowAt W w) → s.2.1 85 (7 * w + b) = if b ≤ j then nI (mPs W x K w b) else nI (K w b + 1)) ∧ ∀ q, q < 7 * w ∨ 7 * w + 6 < q → s.2.1 85 q = μ.1 85 q) (zSize (zRowAt W w)) (fun ν => mB ν W C v ∧ mK ν W K ∧ (∀ b, b ≤ zSize (zRowAt W w) → ν.1 85 (7 * w + b) = nI (mPs W x K w b)) ∧ ∀ q, q < 7 * w ∨ 7 * w + 6 < q → ν.1 85 q = μ.1 85 q)
    (fun k s hs => by
      obtain ⟨y, ν⟩ := s
      simp only at hs
      obtain ⟨rfl, q1, q2, q3, q4⟩ := hs
      refine ⟨ν, ?_, q1, q2, fun b hb => by rw [q3 b hb, if_pos hb], q4⟩
      simp only [lp_MD_hearOne_40]
      rw [kn_inT (show w < 10 by omega) (by omega), kn_if_t, nI_clamp (by omega), (q1.2.2.2 w hw).1, if_pos (by rw [nI_leI (by omega) (by omega)]; omega)])
    (fun k j s hj hs => by
      obtain ⟨y, ν⟩ := s
      simp only at hs
      obtain ⟨rfl, q1, q2, q3, q4⟩ := hs
      have a1 := q3 (j + 1) hj
      rw [if_neg (by omega)] at a1
      have a2 := q2 w j hw (by omega)
      have b1 := hb w (j + 1) hw hj
      have b2 := hb w j hw (by omega)
      have hm : mPs W x K w (j + 1) = min (K w (j + 1) + 1) (K w j + (if zDg (zRowAt W w) j = x then 0 else 1)) := by
        unfold mPs; rw [if_neg (by omega), Nat.add_sub_cancel]
      have d5 := zDg_lt (zRowAt W w) j
      have ws := (q1.2.2.2 w hw).2 j hj
      refine Or.inr ⟨(nI (j + 1), kbW ν 85 (7 * w + (j + 1)) (nI (mPs W x K w (j + 1)))), ?_, rfl, q1.w5 _ _, q2.fr (C := [85]) (S := []) (kbFr.w kbFr.rf (by decide)) (by decide), fun b hb => ?_, fun q hq => ?_⟩
      · have fin : ∀ t : Nat, t ≤ 1 → mPs W x K w (j + 1) = min (K w (j + 1) + 1) (K w j + t) → jn_MD_hearOne_102 n (lp_MD_hearOne_40 n (nI x) (nI w) k) (nI x) (nI w) (nI j) (nI (7 * w + (j + 1))) (nI (K w (j + 1) + 1)) (nI (K w j)) (nI t) ν = lp_MD_hearOne_40 n (nI x) (nI w) k (nI (j + 1)) (kbW ν 85 (7 * w + (j + 1)) (nI (mPs W x K w (j + 1)))) := by
          intro t ht et
          simp only [jn_MD_hearOne_102]
          rw [kn_inT (show 7 * w + (j + 1) < 70 by omega) (by omega), kn_if_t, nI_clamp (show 7 * w + (j + 1) < 2 ^ 31 by omega), nI_add, kb_min (by omega) (by omega), ← et, nI_1]
        simp only [lp_MD_hearOne_40]
        rw [kn_inT (show w < 10 by omega) (by omega), kn_if_t, nI_clamp (show w < 2 ^ 31 by omega), (q1.2.2.2 w hw).1, if_neg (by rw [nI_leI (by omega) (by omega)]; omega), kl_7, pk_mul, nI_add, nI_1 (7 * w + j), Nat.add_assoc, kn_inT (show 7 * w + (j + 1) < 70 by omega) (by omega), kn_if_t, kn_sub1 (by omega), show 7 * w + (j + 1) - 1 = 7 * w + j by omega, kn_inT (show 7 * w + j < 70 by omega) (by omega), kn_if_t, kl_6, pk_mul, nI_add, kn_inT (show 6 * w + j < 60 by omega) (by omega), kn_if_t, nI_clamp (show 6 * w + j < 2 ^ 31 by omega), nI_clamp (show 7 * w + (j + 1) < 2 ^ 31 by omega), nI_clamp (show 7 * w + j < 2 ^ 31 by omega), a1, a2.1, ws]
        by_cases e : zDg (zRowAt W w) j = x
        · rw [if_pos (by rw [e])]
          exact fin 0 (by omega) (by rw [hm, if_pos e])
        · rw [if_neg (by rw [nI_eq (by omega) (by omega)]; exact e)]
          exact fin 1 (by omega) (by rw [hm, if_neg e])
      · simp only
        by_cases e : b = j + 1
        · subst e; rw [kW_at, if_pos (Nat.le_refl _)]
        · rw [kW_no (by omega), q3 b hb]
          by_cases e2 : b ≤ j
          · rw [if_pos e2, if_pos (by omega)]
          · rw [if_neg e2, if_neg (by omega)]
      · simp only
        rw [kW_no (by omega)]; exact q4 q hq)
    (zSize (zRowAt W w)) 0 n (0, μ) (by omega) (by omega) ⟨rfl, hB, hK, fun b hb => by
      rw [h1 b hb]
      by_cases e : b ≤ 0
      · rw [if_pos e, show b = 0 by omega]; unfold mPs; rw [if_pos rfl]
      · rw [if_neg e], fun _ _ => rfl⟩
theorem m_hear {n : Nat} (hn : 1000 ≤ n) {μ : kbM} {W : zW} {C : List Int} (hW : zWok W) {v : Nat} {K : Nat → Nat → Nat} {x : Nat} (hx : x < 5) (hB : mB μ W C v) (hK : mK μ W K) (hb : ∀ w k, w < W.length → k ≤ zSize (zRowAt W w) → K w k < 1000) : ∃ ν, f_MD_hearOne n (nI x) μ = some ν ∧ mB ν W C v ∧ mK ν W (mPs W x K) := by
  have h10 := hW.1
  obtain ⟨μ1, e1, B1, k1, n1⟩ := kn_for (fun k (s : Int32 × kbM) => lp_MD_hearOne_2 n (nI x) k s.1 s.2) (fun i s => s.1 = nI i ∧ mB s.2 W C v ∧ s.2.1 84 = μ.1 84 ∧ ∀ j, j < i → s.2.1 85 j = μ.1 84 j + 1) 70 (fun ν => mB ν W C v ∧ ν.1 84 = μ.1 84 ∧ ∀ j, j < 70 → ν.1 85 j = μ.1 84 j + 1)
    (fun k s hs => by
      obtain ⟨y, ν⟩ := s
      simp only at hs
      obtain ⟨rfl, q1, q2, q3⟩ := hs
      refine ⟨ν, ?_, q1, q2, q3⟩
      simp only [lp_MD_hearOne_2]
      rw [if_pos (by decide)])
    (fun k i s hi hs => by
      obtain ⟨y, ν⟩ := s
      simp only at hs
      obtain ⟨rfl, q1, q2, q3⟩ := hs
      refine Or.inr ⟨(nI (i + 1), kbW ν 85 i (μ.1 84 i + 1)), ?_, rfl, q1.w5 _ _, (kW_ne (by decide)).trans q2, fun j hj => ?_⟩
      · simp only [lp_MD_hearOne_2]
        rw [show (70 : Int32) = nI 70 from rfl, if_neg (by rw [nI_leI (by decide) (by omega)]; omega), kn_inT hi (by omega), kn_if_t, kn_if_t, nI_clamp (by omega), q2, nI_1]
      · simp only
        by_cases e : j = i
        · subst e; exact kW_at
        · rw [kW_no e]; exact q3 j (by omega))
    70 0 n (0, μ) (by omega) (by omega) ⟨rfl, hB, rfl, fun j hj => absurd hj (Nat.not_lt_zero j)⟩
  have K1 : mK μ1 W K := by unfold mK; rw [k1]; exact hK
  obtain ⟨μ2, e2, B2, k2, n2⟩ := kn_for (fun k (s : Int32 × kbM) => lp_MD_hearOne_30 n (nI x) k s.1 s.2) (fun i s => s.1 = nI i ∧ mB s.2 W C v ∧ mK s.2 W K ∧ ∀ w b, w < W.length → b ≤ zSize (zRowAt W w) → s.2.1 85 (7 * w + b) = if w < i then nI (mPs W x K w b) else nI (K w b + 1)) W.length (fun ν => mB ν W C v ∧ mK ν W K ∧ ∀ w b, w < W.length → b ≤ zSize (zRowAt W w) → ν.1 85 (7 * w + b) = nI (mPs W x K w b))
    (fun k s hs => by
      obtain ⟨y, ν⟩ := s
      simp only at hs
      obtain ⟨rfl, q1, q2, q3⟩ := hs
      refine ⟨ν, ?_, q1, q2, fun w b hw hb => by rw [q3 w b hw hb, if_pos hw]⟩
      simp only [lp_MD_hearOne_30]
      rw [q1.1.1.1, if_pos (by rw [nI_leI (by omega) (by omega)]; omega)])
    (fun k i s hi hs => by
      obtain ⟨y, ν⟩ := s
      simp only at hs
      obtain ⟨rfl, q1, q2, q3⟩ := hs
      obtain ⟨ν1, e1, g1, g2, g3, g4⟩ := m_hr_in hn hW hx hi q1 q2 hb (fun b hb => by rw [q3 i b hi hb, if_neg (Nat.lt_irrefl _)])
      refine Or.inr ⟨(nI (i + 1), ν1), ?_, rfl, g1, g2, fun w b hw hb => ?_⟩
      · simp only [lp_MD_hearOne_30]
        rw [q1.1.1.1, if_neg (by rw [nI_leI (by omega) (by omega)]; omega), e1, kn_bs, nI_1]
      · simp only
        have s6 := hW.s6 hw
        by_cases e : w = i
        · subst e; rw [g3 b hb, if_pos (by omega)]
        · rw [g4 _ (by omega), q3 w b hw hb]
          by_cases e2 : w < i
          · rw [if_pos e2, if_pos (by omega)]
          · rw [if_neg e2, if_neg (by omega)])
    W.length 0 n (0, μ1) (by omega) (by omega) ⟨rfl, B1, K1, fun w b hw hb => by
      have s6 := hW.s6 hw
      rw [if_neg (Nat.not_lt_zero _), n1 _ (by omega), (hK w b hw hb).1, nI_1]⟩
  obtain ⟨μ3, e3, B3, k3⟩ := kn_for (fun k (s : Int32 × kbM) => lp_MD_hearOne_121 n k s.1 s.2) (fun i s => s.1 = nI i ∧ mB s.2 W C v ∧ s.2.1 85 = μ2.1 85 ∧ ∀ j, j < i → s.2.1 84 j = kbMin 100000 (μ2.1 85 j)) 70 (fun ν => mB ν W C v ∧ ∀ j, j < 70 → ν.1 84 j = kbMin 100000 (μ2.1 85 j))
    (fun k s hs => by
      obtain ⟨y, ν⟩ := s
      simp only at hs
      obtain ⟨rfl, q1, q2, q3⟩ := hs
      refine ⟨ν, ?_, q1, q3⟩
      simp only [lp_MD_hearOne_121]
      rw [if_pos (by decide)])
    (fun k i s hi hs => by
      obtain ⟨y, ν⟩ := s
      simp only at hs
      obtain ⟨rfl, q1, q2, q3⟩ := hs
      refine Or.inr ⟨(nI (i + 1), kbW ν 84 i (kbMin 100000 (μ2.1 85 i))), ?_, rfl, q1.w _ _, (kW_ne (by decide)).trans q2, fun j hj => ?_⟩
      · simp only [lp_MD_hearOne_121]
        rw [show (70 : Int32) = nI 70 from rfl, if_neg (by rw [nI_leI (by decide) (by omega)]; omega), kn_inT hi (by omega), kn_if_t, kn_if_t, nI_clamp (by omega), q2, nI_1]
      · simp only
        by_cases e : j = i
        · subst e; exact kW_at
        · rw [kW_no e]; exact q3 j (by omega))
    70 0 n (0, μ2) (by omega) (by omega) ⟨rfl, B2, rfl, fun j hj => absurd hj (Nat.not_lt_zero j)⟩
  refine ⟨μ3, ?_, B3, fun w k hw hk => ?_⟩
  · unfold f_MD_hearOne
    rw [show lp_MD_hearOne_2 n (nI x) n 0 μ = some μ1 from e1, kn_bs, show lp_MD_hearOne_30 n (nI x) n 0 μ1 = some μ2 from e2, kn_bs, show lp_MD_hearOne_121 n n 0 μ2 = some μ3 from e3, kn_bs]
  · have s6 := hW.s6 hw
    have hl : mPs W x K w k ≤ 1001 := by
      have b1 := hb w k hw hk
      unfold mPs
      by_cases e : k = 0
      · rw [if_pos e]; have := hb w 0 hw (Nat.zero_le _); omega
      · rw [if_neg e]; omega
    rw [k3 _ (by omega), n2 w k hw hk, show (100000 : Int32) = nI 100000 from rfl, kb_min (by decide) (by omega), Nat.min_eq_right (by omega)]
    exact ⟨rfl, by omega⟩
/-! mend -/
theorem m_steps {n : Nat} (hn : 100000000 ≤ n) {μ : kbM} {W : zW} {C : List Int} (hW : zWok W) (hC : zCok C) (hR : mRule μ W C) {v : Nat} (hv : v ≤ 244140624) : ∃ S x8, mMd W C v (zSize v) S ∧ kbFr [74, 75, 76, 78, 79, 84, 85] [38] μ x8 ∧ ((f_MD_tellSounds n (nI v) μ).bind fun x2 => (lp_MD_mend_25 n n 0 x2).bind fun x3 => (lp_MD_mend_47 n n 0 x3).bind fun x4 => (f_MD_sayMore n x4).bind fun x5 => (lp_MD_mend_77 n n 0 x5).bind fun x8 => (lp_MD_mend_110 n x8 n 100000 0).bind fun x9 => if x9 < 100000 then jn_MD_mend_156 n x9 x8 else jn_MD_mend_156 n (-1) x8) = some ((if W.length = 0 then -1 else nI (mMn W S 100000 W.length)), x8) := by
  have h10 := hW.1
  have h12 := zSize_12.mpr hv
  obtain ⟨μ1, e1, s1⟩ := m_tell (n := n) (by omega) hW hR.1 hv
  have f1 := fr_f_MD_tellSounds e1
  have B1 : mB μ1 W C v := ⟨hR.fr f1 (by decide) (by decide), s1⟩
  obtain ⟨μ2, e2, B2, k2⟩ := kn_for (fun k (s : Int32 × kbM) => lp_MD_mend_25 n k s.1 s.2) (fun i s => s.1 = nI i ∧ mB s.2 W C v ∧ ∀ j, j < i → s.2.1 84 j = 100000) 70 (fun ν => mB ν W C v ∧ ∀ j, j < 70 → ν.1 84 j = 100000)
    (fun k s hs => by
      obtain ⟨y, ν⟩ := s
      simp only at hs
      obtain ⟨rfl, q1, q3⟩ := hs
      refine ⟨ν, ?_, q1, q3⟩
      simp only [lp_MD_mend_25]
      rw [if_pos (by decide)])
    (fun k i s hi hs => by
      obtain ⟨y, ν⟩ := s
      simp only at hs
      obtain ⟨rfl, q1, q3⟩ := hs
      refine Or.inr ⟨(nI (i + 1), kbW ν 84 i 100000), ?_, rfl, q1.w _ _, fun j hj => ?_⟩
      · simp only [lp_MD_mend_25]
        rw [show (70 : Int32) = nI 70 from rfl, if_neg (by rw [nI_leI (by decide) (by omega)]; omega), kn_inT hi (by omega), kn_if_t, nI_clamp (by omega), nI_1]
      · simp only
        by_cases e : j = i
        · subst e; exact kW_at
        · rw [kW_no e]; exact q3 j (by omega))
    70 0 n (0, μ1) (by omega) (by omega) ⟨rfl, B1, fun j hj => absurd hj (Nat.not_lt_zero j)⟩
  obtain ⟨μ3, e3, B3, k3⟩ := kn_for (fun k (s : Int32 × kbM) => lp_MD_mend_47 n k s.1 s.2) (fun i s => s.1 = nI i ∧ mB s.2 W C v ∧ (∀ w k, w < W.length → k ≤ zSize (zRowAt W w) → s.2.1 84 (7 * w + k) = if k = 0 ∧ w < i then 0 else 100000)) W.length (fun ν => mB ν W C v ∧ mK ν W (fun _ k => if k = 0 then 0 else 100000))
    (fun k s hs => by
      obtain ⟨y, ν⟩ := s
      simp only at hs
      obtain ⟨rfl, q1, q3⟩ := hs
      refine ⟨ν, ?_, q1, fun w k hw hk => ?_⟩
      · simp only [lp_MD_mend_47]
        rw [q1.1.1.1, if_pos (by rw [nI_leI (by omega) (by omega)]; omega)]
      · rw [q3 w k hw hk]
        by_cases e : k = 0
        · simp only; rw [if_pos ⟨e, hw⟩, if_pos e]; exact ⟨rfl, by decide⟩
        · simp only; rw [if_neg (fun z => e z.1), if_neg e]; exact ⟨rfl, by decide⟩)
    (fun k i s hi hs => by
      obtain ⟨y, ν⟩ := s
      simp only at hs
      obtain ⟨rfl, q1, q3⟩ := hs
      refine Or.inr ⟨(nI (i + 1), kbW ν 84 (7 * i) 0), ?_, rfl, q1.w _ _, fun w k hw hk => ?_⟩
      · simp only [lp_MD_mend_47]
        rw [q1.1.1.1, if_neg (by rw [nI_leI (by omega) (by omega)]; omega), kl_7, pk_mul, kn_inT (show 7 * i < 70 by omega) (by omega), nI_clamp (show 7 * i < 2 ^ 31 by omega), nI_1, kn_if_t]
      · have s6 := hW.s6 hw
        simp only
        by_cases e : w = i ∧ k = 0
        · obtain ⟨rfl, rfl⟩ := e
          rw [Nat.add_zero, kW_at, if_pos ⟨rfl, by omega⟩]
        · rw [kW_no (by omega), q3 w k hw hk]
          by_cases e2 : k = 0 ∧ w < i
          · rw [if_pos e2, if_pos ⟨e2.1, by omega⟩]
          · rw [if_neg e2, if_neg (by omega)])
    W.length 0 n (0, μ2) (by omega) (by omega) ⟨rfl, B2, fun w k hw hk => by
      have s6 := hW.s6 hw
      rw [if_neg (by omega), k2 _ (by omega)]⟩
  obtain ⟨μ4, S0, e4, B4, k4, g4⟩ := m_sayMore hn hW hC (fun w k hw hk => by split <;> omega) (fun b _ => by show (if 0 = 0 then 0 else 100000) < 100000; decide) B3 k3
  obtain ⟨μ5, e5, S, B5, k5, m5⟩ := kn_for (fun k (s : Int32 × kbM) => lp_MD_mend_77 n k s.1 s.2) (fun i s => s.1 = nI i ∧ mB s.2 W C v ∧ ∃ S, mK s.2 W S ∧ mMd W C v i S) (zSize v) (fun ν => ∃ S, mB ν W C v ∧ mK ν W S ∧ mMd W C v (zSize v) S)
    (fun k s hs => by
      obtain ⟨y, ν⟩ := s
      obtain ⟨e, q1, S, q3, q4⟩ := hs
      simp only at e q1 q3
      subst e
      refine ⟨ν, ?_, S, q1, q3, q4⟩
      simp only [lp_MD_mend_77]
      rw [q1.2.1, if_pos (by rw [nI_leI (by omega) (by omega)]; omega)])
    (fun k i s hi hs => by
      obtain ⟨y, ν⟩ := s
      obtain ⟨e, q1, S, q3, q4⟩ := hs
      simp only at e q1 q3
      subst e
      have hle := mMd_le hW i S q4
      obtain ⟨ν1, e1, g1, g2⟩ := m_hear (n := n) (by omega) hW (zDg_lt v i) q1 q3 (fun w k hw hk => by have := hle w k hw hk; have := hW.s6 hw; omega)
      have hps : ∀ w k, w < W.length → k ≤ zSize (zRowAt W w) → mPs W (zDg v i) S w k ≤ 1000 := fun w k hw hk => by
        have b1 := hle w k hw hk
        have s6 := hW.s6 hw
        unfold mPs
        by_cases e : k = 0
        · rw [if_pos e]; have := hle w 0 hw (Nat.zero_le _); omega
        · rw [if_neg e]; omega
      obtain ⟨ν2, S2, e2, k1, k2, k3⟩ := m_sayMore hn hW hC (fun w k hw hk => by have := hps w k hw hk; omega) (fun b hb => by have := hps b 0 hb (Nat.zero_le _); omega) g1 g2
      refine Or.inr ⟨(nI (i + 1), ν2), ?_, rfl, k1, S2, k2, S, q4, k3⟩
      simp only [lp_MD_mend_77]
      rw [q1.2.1, if_neg (by rw [nI_leI (by omega) (by omega)]; omega), kn_inT (show i < 12 by omega) (by omega), kn_if_t, nI_clamp (by omega), q1.2.2.1 i hi, e1, kn_bs, e2, kn_bs, nI_1])
    (zSize v) 0 n (0, μ4) (by omega) (by omega) ⟨rfl, B4, S0, k4, mGs_init hW g4⟩
  have hle := mMd_le hW (zSize v) S m5
  have e6 := kn_loop (fun k (s : Nat) i => lp_MD_mend_110 n μ5 k (nI s) (nI i)) (fun w m => min m (S w (zSize (zRowAt W w)))) 100000 W.length (nI (mMn W S 100000 W.length))
    (fun k => by simp only [lp_MD_mend_110]; rw [B5.1.1.1, if_pos (by rw [nI_leI (by omega) (by omega)]; omega)]; rfl)
    (fun k i hi => by
      have s6 := hW.s6 hi
      have k1 := k5 i _ hi (Nat.le_refl _)
      have hl : ∀ c, zFold (fun w m => min m (S w (zSize (zRowAt W w)))) 100000 c ≤ 100000 := by
        intro c
        induction c with
        | zero => exact Nat.le_refl _
        | succ c ih => exact Nat.le_trans (Nat.min_le_left _ _) ih
      have := hl i
      simp only [lp_MD_mend_110]
      rw [B5.1.1.1, if_neg (by rw [nI_leI (by omega) (by omega)]; omega), kn_inT (show i < 10 by omega) (by omega), kn_if_t, nI_clamp (show i < 2 ^ 31 by omega), (B5.2.2.2 i hi).1, kl_7, pk_mul, nI_add, kn_inT (show 7 * i + zSize (zRowAt W i) < 70 by omega) (by omega), kn_if_t, nI_clamp (show 7 * i + zSize (zRowAt W i) < 2 ^ 31 by omega), k1.1, kb_min (by omega) (by omega), nI_1]) W.length 0 n (by omega) (by omega)
  have F : kbFr [74, 75, 76, 78, 79, 84, 85] [38] μ μ5 := by
    refine (f1.up (by decide) (by decide)).tr (((fr_lp_MD_mend_25 (show lp_MD_mend_25 n n 0 μ1 = some μ2 from e2)).up (by decide) (by decide)).tr (((fr_lp_MD_mend_47 (show lp_MD_mend_47 n n 0 μ2 = some μ3 from e3)).up (by decide) (by decide)).tr (((fr_f_MD_sayMore e4).up (by decide) (by decide)).tr ((fr_lp_MD_mend_77 (show lp_MD_mend_77 n n 0 μ4 = some μ5 from e5)).up (by decide) (by decide)))))
  refine ⟨S, μ5, m5, F, ?_⟩
  rw [e1, kn_bs, show lp_MD_mend_25 n n 0 μ1 = some μ2 from e2, kn_bs, show lp_MD_mend_47 n n 0 μ2 = some μ3 from e3, kn_bs, e4, kn_bs, show lp_MD_mend_77 n n 0 μ4 = some μ5 from e5, kn_bs, show lp_MD_mend_110 n μ5 n 100000 0 = _ from e6, kn_bs]
  unfold jn_MD_mend_156
  by_cases h0 : W.length = 0
  · rw [if_pos h0, h0, if_neg (show ¬ nI (mMn W S 100000 0) < 100000 by show ¬ nI 100000 < 100000; decide)]
  · have hb : ∀ w, w < W.length → S w (zSize (zRowAt W w)) ≤ 100 := fun w hw => by have := hle w _ hw (Nat.le_refl _); have := hW.s6 hw; omega
    have := (mMn_eq (W := W) (S := S) (S' := S) (F := 100000) (F' := 100) (fun _ _ _ _ => rfl) (fun w hw => by have := hb w hw; omega) W.length (by omega) (Nat.le_refl _)).1
    have l2 := (mMn_eq (W := W) (S := S) (S' := S) (F := 100) (F' := 100) (fun _ _ _ _ => rfl) (fun w hw => by have := hb w hw; omega) W.length (by omega) (Nat.le_refl _)).2
    rw [if_neg h0, if_pos (show nI (mMn W S 100000 W.length) < 100000 by rw [show (100000 : Int32) = nI 100000 from rfl, nI_ltI (by omega) (by decide)]; omega)]
theorem op_17 {n : Nat} (hn : 100000000 ≤ n) {μ : kbM} (hI : kbInv μ) (u1 : Int32) : ∃ μ', c_law_17 n u1 μ = some μ' ∧ kbInv μ' := by
  obtain ⟨A, hA, hC, hM⟩ := hI
  have main : ∃ (c : Int32) (μ1 : kbM) (v : Int32) (μ2 : kbM), f_L_mend n u1 μ = some (c, μ1) ∧ cKnown μ1 A.1.1.1 A.2.2.2.1 ∧ f_MD_mend n u1 μ1 = some (v, μ2) ∧ μ2.1 57 3 = c ∧ (c = 0 → μ1.2 97 0 = v.toInt64) := by
    cases q1 : zIsRow u1
    · refine ⟨1, μ, 0, kbW (kbW μ 57 3 0) 57 3 1, ?_, hC.rule.2.2, ?_, kW_at, fun q => absurd q z1n⟩
      · unfold f_L_mend f_KB_mend
        rw [kb_needRow (by omega), q1]; rfl
      · unfold f_MD_mend f_MD_fail
        rw [md_isRow (by omega), kn_bs, q1]; rfl
    · obtain ⟨v, rfl, hr, hv⟩ := zIsRow_t q1
      obtain ⟨ν, S, e1, e2, e3⟩ := c_steps (n := n) (by omega) hA.words hA.code hC.rule hv
      have hL : f_L_mend n (nI v) μ = some (0, kbX ν 97 0 (if A.1.1.1.length = 0 then (-1 : Int32) else nI (mMn A.1.1.1 S 1000000 A.1.1.1.length)).toInt64) := by
        unfold f_L_mend f_KB_mend
        rw [kb_needRow (by omega), q1]
        simp only [↓reduceIte, kn_or_r]
        rw [e1, kn_bs]; rfl
      have f1 := fr_f_L_mend hL
      have hM1 := hM.fr f1 (by decide) (by decide)
      obtain ⟨S', x8, g1, g2, g3⟩ := m_steps hn hA.words hA.code (hM1.c0 0).rule hv
      refine ⟨0, kbX ν 97 0 (if A.1.1.1.length = 0 then (-1 : Int32) else nI (mMn A.1.1.1 S 1000000 A.1.1.1.length)).toInt64, (if A.1.1.1.length = 0 then (-1 : Int32) else nI (mMn A.1.1.1 S' 100000 A.1.1.1.length)), x8, hL, e2.2.2, ?_, ?_, fun _ => ?_⟩
      · unfold f_MD_mend
        rw [md_isRow (by omega), kn_bs, q1, if_neg zT0]
        exact g3
      · exact (fr_57 g2 (by decide) (by decide)).trans kW_at
      · rw [kX_at]
        congr 1
        by_cases h0 : A.1.1.1.length = 0
        · rw [if_pos h0, if_pos h0]
        · rw [if_neg h0, if_neg h0]
          have hle := mMd_le hA.words _ S e3
          congr 1
          exact (mMn_eq (mMd_uq _ S S' e3 g1) (fun w hw => by have := hle w _ hw (Nat.le_refl _); have := hA.words.s6 hw; have := zSize_12.mpr hv; omega) _ (by omega) (Nat.le_refl _)).1
  obtain ⟨c, μ1, v, μ2, h1, hk, h2, h3, h4⟩ := main
  have f1 := fr_f_L_mend h1
  have hC1 := hC.frk f1 (by decide) hk
  have hM1 := hM.fr f1 (by decide) (by decide)
  have f2 := fr_f_MD_mend h2
  refine ⟨μ2, law_int h1 h2 h3 (fun q => ?_), A, hA, hC1.fr f2 (by decide) (by decide), hM1.fr f2 (by decide) (by decide)⟩
  rw [fr_at2 f2 (by decide) (by decide), h4 q]
