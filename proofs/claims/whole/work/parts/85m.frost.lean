/-! frost: the model -/
theorem m_freeze0 {n : Nat} (hn : 100 ≤ n) (z : Int32) {W : zW} {D : List (Nat × Nat)} {w m : Nat} (h : hOk W D w) (hW : 0 < W.length) (hD : 0 < D.length) (hm : m ≤ 60) {k j : Nat} (hj : j < m) {ν : kbM} (h1 : mH ν W D w) {s0 : Int32} {o0 u0 n0 : Nat} (q7 : ν.1 57 51 = s0) : lp_MD_frost_58 n (nI m) z (k + 1) (nI o0) (nI u0) (nI n0) (nI j) ν = (if nI (zFr W D w s0) = 0 then jn_MD_frost_138 n (lp_MD_frost_58 n (nI m) z k) (nI m) z (nI o0) (nI u0) (nI j) (nI (zFi W s0)) (nI (zFr W D w s0)) (nI n0) 1 (kbW (kbW (kbW ν 57 51 (zSd s0)) 57 51 (zSd (zSd s0))) 57 51 (zSd (zSd (zSd s0)))) else jn_MD_frost_138 n (lp_MD_frost_58 n (nI m) z k) (nI m) z (nI o0) (nI u0) (nI j) (nI (zFi W s0)) (nI (zFr W D w s0)) (nI n0) 0 (kbW (kbW (kbW ν 57 51 (zSd s0)) 57 51 (zSd (zSd s0))) 57 51 (zSd (zSd (zSd s0))))) := by
  have h10 := h.l10
  have h6 := h.l6
  have hd : zRn s0 % D.length < D.length := Nat.mod_lt _ hD
  have hi : zFi W s0 < W.length := Nat.mod_lt _ hW
  have hh : zRn (zSd (zSd s0)) % 4 < 4 := Nat.mod_lt _ (by decide)
  have d1 := md_draw q7 hD (by omega)
  have d2 := md_draw (μ := kbW ν 57 51 (zSd s0)) kW_at hW (by omega)
  have cw : ∀ (μ : kbM) (x : Int32), mH μ W D w → mH (kbW μ 57 51 x) W D w := fun μ x q => q.fr (C := []) (S := [51]) (kbFr.w57 kbFr.rf (by decide)) (by decide) (by decide)
  have hc2 := cw _ (zSd (zSd s0)) (cw _ (zSd s0) h1)
  have hr := m_hr (n := n) (by omega) h hc2 hd (h.row hi)
  have d3 := md_draw (μ := kbW (kbW ν 57 51 (zSd s0)) 57 51 (zSd (zSd s0))) kW_at (m := 4) (by decide) (by decide)
  have hc3 := cw _ (zSd (zSd (zSd s0))) hc2
  have hle := zHr_le (D := D) (w := w) (d := zRn s0 % D.length) (h.row hi)
  have fz := md_frozen hn hle hh
  have hle2 : zFr W D w s0 ≤ 244140624 := zFz_le hle
  obtain ⟨ν1, en⟩ := md_nearestTo (n := n) (by omega) h.1 hle2 hc3.1
  have f1 := fr_f_MD_nearestTo en
  have hcn := hc3.fr f1 (by decide) (by decide)
  have r7 : ν1.1 57 51 = zSd (zSd (zSd s0)) := by rw [fr_57 f1 (by decide) (by decide), kW_at]
  have hw2 := (hc2.1.2 _ hi).1
  rw [show zRn (zSd s0) % W.length = zFi W s0 from rfl] at d2
  have eq4 : (zFz (zHr D w (zRn s0 % D.length) (zRowAt W (zFi W s0))) (zRn (zSd (zSd s0)) % 4)) = zFr W D w s0 := rfl
  rw [eq4] at fz
  have hD1 := h1.2.1.1
  have hW0 := h1.1.1
  have hW1 : (kbW ν 57 51 (zSd s0)).1 57 27 = nI W.length := by rw [kW_no (by decide)]; exact h1.1.1
  have hwo : ν1.1 72 (zFi W s0) = nI (zWorthAt W (zFi W s0)) := (hcn.1.2 _ hi).2.2
  simp only [lp_MD_frost_58]
  rw [if_neg (by rw [nI_leI (by omega) (by omega)]; omega), hD1, if_neg (by rw [kn_le0 (by omega)]; omega), hW0, if_neg (by rw [kn_le0 (by omega)]; omega), d1, kn_bs]
  simp only
  rw [hW1, d2, kn_bs]
  simp only
  rw [kn_inT (by omega) (by omega), kn_if_t, nI_clamp (by omega), hw2, hr, kn_bs, kl_4, d3, kn_bs]
  simp only
  rw [fz, kn_bs]
theorem m_fz_step (n : Nat) (z : Int32) (rec : Int32 → Int32 → Int32 → Int32 → kbM → Option (Int32 × Int32 × Int32 × kbM)) {m j o0 u0 n0 x F I wt : Nat} {N w1 : Int32} {κ ν1 : kbM} (en : f_MD_nearestTo n (nI F) κ = some (N, ν1)) (hI : I < 10) (hwo : ν1.1 72 I = nI wt) (hx : nI n0 + w1 = nI x) : jn_MD_frost_138 n rec (nI m) z (nI o0) (nI u0) (nI j) (nI I) (nI F) (nI n0) w1 κ = rec (nI (o0 + if N = nI I then 1 else 0)) (nI (u0 + if N = nI I then wt else 0)) (nI x) (nI (j + 1)) ν1 := by
  unfold jn_MD_frost_138 jn_MD_frost_170
  rw [en, kn_bs, hx, nI_1 j]
  simp only
  by_cases e : N = nI I
  · rw [if_pos e, if_pos e, if_pos e, kn_inT (by omega) (by omega), kn_if_t, nI_clamp (by omega), hwo, nI_1 o0, nI_add]
  · rw [if_neg e, if_neg e, if_neg e]
    rfl
theorem m_freeze1 {n : Nat} (hn : 100 ≤ n) (z : Int32) {W : zW} {D : List (Nat × Nat)} {w m : Nat} (h : hOk W D w) (hW : 0 < W.length) (hD : 0 < D.length) (hm : m ≤ 60) {k j : Nat} (hj : j < m) {ν : kbM} (h1 : mH ν W D w) {s0 : Int32} {o0 u0 n0 : Nat} (q7 : ν.1 57 51 = s0) : ∃ s' : Int32 × Int32 × Int32 × Int32 × kbM, lp_MD_frost_58 n (nI m) z (k + 1) (nI o0) (nI u0) (nI n0) (nI j) ν = lp_MD_frost_58 n (nI m) z k s'.1 s'.2.1 s'.2.2.1 s'.2.2.2.1 s'.2.2.2.2 ∧ s'.2.2.2.1 = nI (j + 1) ∧ mH s'.2.2.2.2 W D w ∧ s'.2.2.2.2.1 57 51 = zSd (zSd (zSd s0)) ∧ s'.1 = nI (o0 + (if zNear W (zFr W D w s0) = nI (zFi W s0) then 1 else 0)) ∧ s'.2.1 = nI (u0 + (if zNear W (zFr W D w s0) = nI (zFi W s0) then zWorthAt W (zFi W s0) else 0)) ∧ s'.2.2.1 = nI (n0 + (if zFr W D w s0 = 0 then 1 else 0)) := by
  have h10 := h.l10
  have h6 := h.l6
  have hd : zRn s0 % D.length < D.length := Nat.mod_lt _ hD
  have hi : zFi W s0 < W.length := Nat.mod_lt _ hW
  have cw : ∀ (μ : kbM) (x : Int32), mH μ W D w → mH (kbW μ 57 51 x) W D w := fun μ x q => q.fr (C := []) (S := [51]) (kbFr.w57 kbFr.rf (by decide)) (by decide) (by decide)
  have hc2 := cw _ (zSd (zSd s0)) (cw _ (zSd s0) h1)
  have hc3 := cw _ (zSd (zSd (zSd s0))) hc2
  have hle := zHr_le (D := D) (w := w) (d := zRn s0 % D.length) (h.row hi)
  have hle2 : zFr W D w s0 ≤ 244140624 := zFz_le hle
  obtain ⟨ν1, en⟩ := md_nearestTo (n := n) (by omega) h.1 hle2 hc3.1
  have f1 := fr_f_MD_nearestTo en
  have hcn := hc3.fr f1 (by decide) (by decide)
  have r7 : ν1.1 57 51 = zSd (zSd (zSd s0)) := by rw [fr_57 f1 (by decide) (by decide), kW_at]
  have hwo : ν1.1 72 (zFi W s0) = nI (zWorthAt W (zFi W s0)) := (hcn.1.2 _ hi).2.2
  have start := m_freeze0 (n := n) hn z h hW hD hm (k := k) hj h1 (o0 := o0) (u0 := u0) (n0 := n0) q7
  rw [start]
  refine ⟨(nI (o0 + (if zNear W (zFr W D w s0) = nI (zFi W s0) then 1 else 0)), nI (u0 + (if zNear W (zFr W D w s0) = nI (zFi W s0) then zWorthAt W (zFi W s0) else 0)), nI (n0 + (if zFr W D w s0 = 0 then 1 else 0)), nI (j + 1), ν1), ?_, rfl, hcn, r7, rfl, rfl, rfl⟩
  have hi10 : zFi W s0 < 10 := Nat.lt_of_lt_of_le hi h10
  clear hi hd start f1 hc2 hc3 cw r7 hcn
  generalize zNear W (zFr W D w s0) = N at en ⊢
  generalize zFr W D w s0 = F at en hle2 ⊢
  generalize zFi W s0 = I at hwo hi10 ⊢
  generalize kbW (kbW (kbW ν 57 51 (zSd s0)) 57 51 (zSd (zSd s0))) 57 51 (zSd (zSd (zSd s0))) = κ at en ⊢
  by_cases e2 : F = 0
  · rw [if_pos (by rw [e2]; rfl), if_pos e2]
    exact m_fz_step n z _ en hi10 hwo (nI_1 _)
  · rw [if_neg (by rw [kn_eq0 (by omega)]; exact e2), if_neg e2]
    exact m_fz_step n z _ en hi10 hwo (kn_ad0 _)
theorem zFs_p (W : zW) (D : List (Nat × Nat)) (w : Nat) (s : Int32 × Nat × Nat × Nat) : zFs W D w s = (zSd (zSd (zSd s.1)), s.2.1 + (if zNear W (zFr W D w s.1) = nI (zFi W s.1) then 1 else 0), s.2.2.1 + (if zNear W (zFr W D w s.1) = nI (zFi W s.1) then zWorthAt W (zFi W s.1) else 0), s.2.2.2 + (if zFr W D w s.1 = 0 then 1 else 0)) := rfl
theorem m_freeze {n : Nat} (hn : 100 ≤ n) (z : Int32) {μ : kbM} {W : zW} {D : List (Nat × Nat)} {w m : Nat} (h : hOk W D w) (hW : 0 < W.length) (hD : 0 < D.length) (hm : m ≤ 60) (hc : mH μ W D w) {seed : Int32} (g7 : μ.1 57 51 = seed) : ∃ r, lp_MD_frost_58 n (nI m) z n 0 0 0 0 μ = some r ∧ r.1 = nI (zFo W D w seed m).2.1 ∧ r.2.1 = nI (zFo W D w seed m).2.2.1 ∧ r.2.2.1 = nI (zFo W D w seed m).2.2.2 := by
  have h10 := h.l10
  have h6 := h.l6
  exact kn_for (fun k (s : Int32 × Int32 × Int32 × Int32 × kbM) => lp_MD_frost_58 n (nI m) z k s.1 s.2.1 s.2.2.1 s.2.2.2.1 s.2.2.2.2) (fun j s => s.2.2.2.1 = nI j ∧ mH s.2.2.2.2 W D w ∧ s.2.2.2.2.1 57 51 = (zFo W D w seed j).1 ∧ s.1 = nI (zFo W D w seed j).2.1 ∧ s.2.1 = nI (zFo W D w seed j).2.2.1 ∧ s.2.2.1 = nI (zFo W D w seed j).2.2.2) m (fun r => r.1 = nI (zFo W D w seed m).2.1 ∧ r.2.1 = nI (zFo W D w seed m).2.2.1 ∧ r.2.2.1 = nI (zFo W D w seed m).2.2.2)
    (fun k s hs => by
      obtain ⟨a, b, c, v, ν⟩ := s
      simp only at hs
      obtain ⟨rfl, h1, h2, h3⟩ := hs
      exact ⟨(a, b, c, ν), by simp (disch := omega) only [kn_if_t, kn_bs, kn_or_l, kn_or_r, kn_inT, nI_clamp, nI_leI, nI_ltI, nI_eq, nI_add, pk_mul, nI_1, kn_eq0, kn_lt0, kn_le0, kn_0le, kn_div, kn_rem, kn_or, kn_and, kn_or0, kn_ad0, kn_shl1, kn_bitB, zBt, zBf, zB1t, zB1f, zB_01, zB_10, kl_2, kl_3, kl_4, kl_5, kl_6, kl_7, kl_8, kl_10, kl_12, kl_13, if_pos, if_neg, ↓reduceIte, eq_self, not_true_eq_false, not_false_eq_true, Nat.add_zero, Nat.or_zero, reduceCtorEq, or_true, true_or, or_false, false_or, decide_true, decide_false, kn_sub1, sb_m1, pk_sub, kW_ne, kW_at, kW_no, kA_ne, kA_eq, ite_self, and_self, true_and, and_true, lp_MD_frost_58], h3⟩)
    (fun k j s hj hs => by
      obtain ⟨a, b, c, v, ν⟩ := s
      simp only at hs
      obtain ⟨rfl, h1, q7, rfl, rfl, rfl⟩ := hs
      obtain ⟨s', e, k1, k2, k3, k4, k5, k6⟩ := m_freeze1 (k := k) (o0 := (zFo W D w seed j).2.1) (u0 := (zFo W D w seed j).2.2.1) (n0 := (zFo W D w seed j).2.2.2) hn z h hW hD hm hj h1 q7
      rw [zFo_s, zFs_p]
      exact Or.inr ⟨s', e, k1, k2, k3, k4, k5, k6⟩)
    m 0 n (0, 0, 0, 0, μ) (by omega) (by omega) ⟨rfl, hc, g7, rfl, rfl, rfl⟩
