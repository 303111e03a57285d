/-! frost: class and model -/
theorem zIn_gt {x : Int32} {c : Nat} (hc : c + 1 < 2 ^ 31) (h : nI (c + 1) ≤ x) : ¬ x ≤ nI c := by
  intro q
  have a1 := Int32.le_iff_toInt_le.mp q
  have a2 := Int32.le_iff_toInt_le.mp h
  rw [nI_toInt (by omega)] at a1
  rw [nI_toInt hc] at a2
  omega
theorem kn_isIn60 (x : Int32) : f_MD_isIn x.toInt64 0 60 = some (zB (zIn x 61)) := by
  have := kn_isIn x (c := 61) (by decide)
  rw [show ((nI 61 - 1).toInt64) = 60 by decide] at this
  exact this
def zFq (W : zW) (D : List (Nat × Nat)) (w : Nat) (seed : Int32) (m : Nat) : Nat × Nat × Nat := if D.length = 0 ∨ W.length = 0 then (0, 0, 0) else (zFo W D w seed m).2
theorem c_freezeA {n : Nat} (hn : 100 ≤ n) {μ : kbM} {W : zW} {D : List (Nat × Nat)} {w m : Nat} (h : hOk W D w) (hm : m ≤ 60) (hc : cH μ W D w) (seed : Int32) : ∃ ν, f_PL_freeze n seed (nI m) μ = some ν ∧ ν.1 54 8 = nI (zFq W D w seed m).1 ∧ ν.1 54 9 = nI (zFq W D w seed m).2.1 ∧ ν.1 54 10 = nI (zFq W D w seed m).2.2 := by
  have h10 := h.l10
  have h6 := h.l6
  have hc' : cH (kbW (kbW (kbW (kbW μ 54 7 seed) 54 8 0) 54 9 0) 54 10 0) W D w := hc.congr (fun a ha => by rw [kW_ne (by revert a; decide), kW_ne (by revert a; decide), kW_ne (by revert a; decide), kW_ne (by revert a; decide)])
  have k7 : (kbW (kbW (kbW (kbW μ 54 7 seed) 54 8 0) 54 9 0) 54 10 0).1 54 7 = seed := by rw [kW_no (by decide), kW_no (by decide), kW_no (by decide), kW_at]
  have k8 : (kbW (kbW (kbW (kbW μ 54 7 seed) 54 8 0) 54 9 0) 54 10 0).1 54 8 = 0 := by rw [kW_no (by decide), kW_no (by decide), kW_at]
  have k9 : (kbW (kbW (kbW (kbW μ 54 7 seed) 54 8 0) 54 9 0) 54 10 0).1 54 9 = 0 := by rw [kW_no (by decide), kW_at]
  have k10 : (kbW (kbW (kbW (kbW μ 54 7 seed) 54 8 0) 54 9 0) 54 10 0).1 54 10 = 0 := kW_at
  unfold f_PL_freeze jn_PL_freeze_43 zFq
  generalize kbW (kbW (kbW (kbW μ 54 7 seed) 54 8 0) 54 9 0) 54 10 0 = κ at hc' k7 k8 k9 k10
  rw [hc'.2.1.1, hc'.1.1]
  by_cases e1 : D.length = 0
  · rw [if_pos (by rw [e1]; rfl), if_pos (Or.inl e1)]
    exact ⟨_, rfl, k8, k9, k10⟩
  · rw [if_neg (by rw [kn_eq0 (by omega)]; exact e1)]
    by_cases e2 : W.length = 0
    · rw [if_pos (by rw [e2]; rfl), if_pos (Or.inr e2)]
      exact ⟨_, rfl, k8, k9, k10⟩
    · obtain ⟨ν, q1, q2⟩ := c_freeze hn h (by omega) (by omega) hm hc' k7 k8 k9 k10
      rw [if_neg (by rw [kn_eq0 (by omega)]; exact e2), if_neg (by rintro (q | q) <;> omega), q1]
      exact ⟨_, rfl, q2⟩
theorem m_freezeA {n : Nat} (hn : 100 ≤ n) (z : Int32) {μ : kbM} {W : zW} {D : List (Nat × Nat)} {w m : Nat} (h : hOk W D w) (hm : m ≤ 60) (hc : mH μ W D w) {seed : Int32} (g7 : μ.1 57 51 = seed) : ∃ r, lp_MD_frost_58 n (nI m) z n 0 0 0 0 μ = some r ∧ r.1 = nI (zFq W D w seed m).1 ∧ r.2.1 = nI (zFq W D w seed m).2.1 ∧ r.2.2.1 = nI (zFq W D w seed m).2.2 := by
  have h10 := h.l10
  have h6 := h.l6
  obtain ⟨n', rfl⟩ : ∃ q, n = q + 1 := ⟨n - 1, by omega⟩
  unfold zFq
  by_cases e1 : D.length = 0
  · rw [if_pos (Or.inl e1)]
    refine ⟨(0, 0, 0, μ), ?_, rfl, rfl, rfl⟩
    simp only [lp_MD_frost_58]
    rw [hc.2.1.1]
    by_cases e0 : nI m ≤ 0
    · rw [if_pos e0]
    · rw [if_neg e0, if_pos (by rw [e1]; decide)]
  · by_cases e2 : W.length = 0
    · rw [if_pos (Or.inr e2)]
      refine ⟨(0, 0, 0, μ), ?_, rfl, rfl, rfl⟩
      simp only [lp_MD_frost_58]
      rw [hc.2.1.1, hc.1.1]
      by_cases e0 : nI m ≤ 0
      · rw [if_pos e0]
      · rw [if_neg e0, if_neg (by rw [kn_le0 (by omega)]; exact e1), if_pos (by rw [e2]; decide)]
    · rw [if_neg (by rintro (q | q) <;> omega)]
      exact m_freeze hn z h (by omega) (by omega) hm hc g7
def s_frost (A : zA) (u1 u2 u3 : Int32) : Int32 × Int32 := if zIn u3 3 = true then (if zIn u2 61 = true then (0, if u3 = 0 then nI (zFq A.1.1.1 A.2.2.1 A.1.1.2 u1 u2.toNatClampNeg).1 else if u3 = 1 then nI (zFq A.1.1.1 A.2.2.1 A.1.1.2 u1 u2.toNatClampNeg).2.1 else nI (zFq A.1.1.1 A.2.2.1 A.1.1.2 u1 u2.toNatClampNeg).2.2) else (2, 0)) else (1, 0)
theorem cl_frost {n : Nat} (hn : 100 ≤ n) {μ : kbM} {A : zA} (hA : zOk A) (h : rC μ A) (u1 u2 u3 : Int32) : ∃ μ1, f_L_frost n u1 u2 u3 μ = some ((s_frost A u1 u2 u3).1, μ1) ∧ ((s_frost A u1 u2 u3).1 = 0 → μ1.2 97 0 = (s_frost A u1 u2 u3).2.toInt64) := by
  unfold f_L_frost f_KB_frost s_frost jn_KB_frost_15
  rw [kl_3, kb_needWhat n μ u3 (by decide)]
  cases q3 : zIn u3 3
  · exact ⟨μ, rfl, fun q => absurd q z1n⟩
  · rw [if_pos rfl, kn_or_r, if_pos rfl]
    rcases zIn_cases u2 (c := 61) (by decide) with ⟨m, hm, rfl⟩ | ⟨h1, h2 | h2⟩
    · obtain ⟨ν, e1, e2, e3, e4⟩ := c_freezeA hn hA.H (m := m) (by omega) h.H u1
      rw [if_neg (nI_pos (by omega)), show (60 : Int32) = nI 60 from rfl, if_pos (by rw [nI_leI (by omega) (by decide)]; omega), zIn_n (by omega), decide_eq_true hm, if_pos rfl, e1, kn_bs, e2, e3, e4, nI_clamp (by omega)]
      by_cases q0 : u3 = 0
      · rw [if_pos q0, if_pos q0]; exact ⟨_, rfl, fun _ => kX_at⟩
      · rw [if_neg q0, if_neg q0]
        by_cases q1 : u3 = 1
        · rw [if_pos q1, if_pos q1]; exact ⟨_, rfl, fun _ => kX_at⟩
        · rw [if_neg q1, if_neg q1]; exact ⟨_, rfl, fun _ => kX_at⟩
    · rw [if_pos h2, h1]; exact ⟨μ, rfl, fun q => absurd q z2n⟩
    · rw [if_neg h2.1, show (60 : Int32) = nI 60 from rfl, if_neg (zIn_gt (by decide) h2.2.1), h1]; exact ⟨μ, rfl, fun q => absurd q z2n⟩
theorem md_frost {n : Nat} (hn : 100 ≤ n) {μ : kbM} {A : zA} (hA : zOk A) (h0 : rM μ A) (u1 u2 u3 : Int32) : ∃ v μ2, f_MD_frost n u1 u2 u3 μ = some (v, μ2) ∧ μ2.1 57 3 = (s_frost A u1 u2 u3).1 ∧ ((s_frost A u1 u2 u3).1 = 0 → v = (s_frost A u1 u2 u3).2) := by
  have h := h0.c0 0
  unfold f_MD_frost s_frost f_MD_fail jn_MD_frost_176 jn_MD_frost_197
  rw [kn_isIn2, kn_isIn60]
  simp only [kn_bs]
  cases q3 : zIn u3 3
  · exact ⟨_, _, rfl, kW_at, fun q => absurd q z1n⟩
  · rw [if_neg (show ¬ zB true = 0 by decide), if_pos rfl]
    cases q2 : zIn u2 61
    · exact ⟨_, _, rfl, kW_at, fun q => absurd q z2n⟩
    · rcases zIn_cases u2 (c := 61) (by decide) with ⟨m, hm, rfl⟩ | ⟨h1, -⟩
      · have hH : mH (kbW (kbW μ 57 3 0) 57 51 u1) A.1.1.1 A.2.2.1 A.1.1.2 := h.H.fr (C := []) (S := [51]) (kbFr.w57 kbFr.rf (by decide)) (by decide) (by decide)
        obtain ⟨r, e1, e2, e3, e4⟩ := m_freezeA hn u3 hA.H (m := m) (by omega) hH (seed := u1) kW_at
        have f := fr_lp_MD_frost_58 e1
        have k3 : r.2.2.2.1 57 3 = 0 := (fr_57 f (by decide) (by decide)).trans ((kW_no (by decide)).trans kW_at)
        rw [if_neg (show ¬ zB true = 0 by decide), if_pos rfl, e1, kn_bs, e2, e3, e4, nI_clamp (by omega)]
        by_cases q0 : u3 = 0
        · rw [if_pos q0, if_pos q0]; exact ⟨_, _, rfl, k3, fun _ => rfl⟩
        · rw [if_neg q0, if_neg q0]
          by_cases q1 : u3 = 1
          · rw [if_pos q1, if_pos q1]; exact ⟨_, _, rfl, k3, fun _ => rfl⟩
          · rw [if_neg q1, if_neg q1]; exact ⟨_, _, rfl, k3, fun _ => rfl⟩
      · rw [h1] at q2; cases q2
theorem op_32 {n : Nat} (hn : 5000 ≤ n) {μ : kbM} (hI : kbInv μ) (u1 u2 u3 : Int32) : ∃ μ', c_law_32 n u1 u2 u3 μ = some μ' ∧ kbInv μ' := by
  obtain ⟨A, hA, hC, hM⟩ := hI
  obtain ⟨μ1, h1, h4⟩ := cl_frost (n := n) (by omega) hA hC u1 u2 u3
  have f1 := fr_f_L_frost h1
  have hC1 := hC.fr f1 (by decide) (by decide)
  have hM1 := hM.fr f1 (by decide) (by decide)
  obtain ⟨v, μ2, h2, h3, h5⟩ := md_frost (n := n) (by omega) hA hM1 u1 u2 u3
  have f2 := fr_f_MD_frost h2
  refine ⟨μ2, law_int h1 h2 h3 (fun q => ?_), A, hA, hC1.fr f2 (by decide) (by decide), hM1.fr f2 (by decide) (by decide)⟩
  rw [fr_at2 f2 (by decide) (by decide), h4 q, h5 q]
