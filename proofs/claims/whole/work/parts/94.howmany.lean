/-! HOW MANY ROWS -/
theorem law_long {o : Option (Int32 × kbM)} {g : kbM → Option (Int64 × kbM)} {c : Int32} {v : Int64} {μ1 μ2 : kbM} (h1 : o = some (c, μ1)) (h2 : g μ1 = some (v, μ2)) (h3 : μ2.1 57 3 = c) (h4 : c = 0 → μ2.2 97 0 = v) :
    (o.bind fun x1 => (g x1.2).bind fun x2 => (f_MD_thrown x2.2).bind fun x3 => if x3 = x1.1 then (if x1.1 = 0 then (if (lg_cmp (x2.2.2 97 0) x2.1) = 0 then some x2.2 else none) else some x2.2) else none) = some μ2 := by
  rw [h1, kn_bs]
  simp only
  rw [h2, kn_bs]
  simp only
  unfold f_MD_thrown
  rw [kn_bs, if_pos h3]
  by_cases hc : c = 0
  · rw [if_pos hc, h4 hc, lg_cmp_self, if_pos rfl]
  · rw [if_neg hc]
theorem kX_no {μ : kbM} {c k j : Nat} {v : Int64} (h : j ≠ k) : (kbX μ c k v).2 c j = μ.2 c j := by simp [kbX, kbB, vp_updL, h]
theorem kX_ne {μ : kbM} {c k a : Nat} {v : Int64} (h : a ≠ c) : (kbX μ c k v).2 a = μ.2 a := by simp [kbX, kbB, h]
theorem kX_1 {μ : kbM} {c k : Nat} {v : Int64} : (kbX μ c k v).1 = μ.1 := rfl
def zL (x : Nat) : Int64 := Int64.ofNat x
theorem zL_add (a b : Nat) : zL a + zL b = zL (a + b) := (Int64.ofNat_add a b).symm
theorem zL_0 : (0 : Int64) = zL 0 := rfl
theorem zL_toInt {x : Nat} (h : x < 2 ^ 63) : (zL x).toInt = (x : Int) := Int64.toInt_ofNat_of_lt h
theorem lg_0 : lg_cmp (zL 0) 0 ≤ 0 := by decide
theorem lg_p {x : Nat} (h0 : 0 < x) (h : x < 2 ^ 63) : ¬ lg_cmp (zL x) 0 ≤ 0 := by
  unfold lg_cmp
  have : zL x > 0 := by
    show (0 : Int64) < zL x
    rw [Int64.lt_iff_toInt_lt, zL_toInt h]
    have : (0 : Int64).toInt = 0 := by decide
    omega
  rw [if_pos this]
  decide
theorem hLaw : zLaw (fun x y : Nat => x + y) 0 (fun _ x => x) := ⟨Nat.add_comm, Nat.add_assoc, Nat.zero_add, fun _ _ _ => rfl, fun _ => rfl, fun _ _ _ => rfl⟩
def hN (W : zW) (C : List Int) (s a : Nat) : Nat := zNf (fun x y => x + y) 0 1 (fun _ x => x) (zJoin W C) (fun i => zSize (zRowAt W i)) W.length s a
def hM (W : zW) (C : List Int) (s a : Nat) : Nat := zNl (fun x y => x + y) 0 1 (fun _ x => x) (zJoin W C) (fun i => zSize (zRowAt W i)) W.length s a
theorem hN_1 {W : zW} (hW : zWok W) (C : List Int) {s a : Nat} (ha : a < W.length) (h : zSize (zRowAt W a) < s) : hN W C s a = zSum (fun v => if zJoin W C a v = true then hN W C (s - zSize (zRowAt W a)) v else 0) W.length := zNf_1 hLaw (hW.sz a ha) h
theorem hN_2 {W : zW} (C : List Int) {s a : Nat} (ha : a < W.length) (h : ¬ zSize (zRowAt W a) < s) : hN W C s a = if s = zSize (zRowAt W a) then 1 else 0 := zNf_2 hLaw ha h
theorem hM_1 {W : zW} (hW : zWok W) (C : List Int) {s a : Nat} (ha : a < W.length) (h : zSize (zRowAt W a) < s) : hM W C s a = zSum (fun v => if zJoin W C v a = true then hM W C (s - zSize (zRowAt W a)) v else 0) W.length := zNl_1 hLaw hW.sz ha h
theorem hM_2 {W : zW} (hW : zWok W) (C : List Int) {s a : Nat} (ha : a < W.length) (h : ¬ zSize (zRowAt W a) < s) : hM W C s a = if s = zSize (zRowAt W a) then 1 else 0 := zNl_2 hLaw hW.sz ha h
theorem hN_hM (W : zW) (C : List Int) (s : Nat) : zSum (fun w => hN W C s w) W.length = zSum (fun w => hM W C s w) W.length := zNf_nl hLaw (zJoin W C) (fun i => zSize (zRowAt W i)) W.length s
theorem hN_le {W : zW} (hW : zWok W) (C : List Int) : ∀ s a, a < W.length → hN W C s a ≤ 11 ^ s := by
  intro s
  induction s using Nat.strongRecOn with
  | ind s ih =>
    intro a ha
    have z0 := hW.sz a ha
    have h10 := hW.1
    by_cases h : zSize (zRowAt W a) < s
    · rw [hN_1 hW C ha h]
      obtain ⟨t, rfl⟩ : ∃ t, s = t + 1 := ⟨s - 1, by omega⟩
      have p := zSum_le (f := fun v => if zJoin W C a v = true then hN W C (t + 1 - zSize (zRowAt W a)) v else 0) (b := 11 ^ t) W.length (fun v hv => by
        (try simp only)
        split
        · exact Nat.le_trans (ih (t + 1 - zSize (zRowAt W a)) (by omega) v hv) (Nat.pow_le_pow_right (by decide) (by omega))
        · exact Nat.zero_le _)
      refine Nat.le_trans p ?_
      rw [Nat.pow_succ]
      exact Nat.mul_le_mul_left _ (by omega)
    · rw [hN_2 C ha h]
      have : 0 < 11 ^ s := Nat.pow_pos (by decide)
      split <;> omega
theorem hN_lt {W : zW} (hW : zWok W) (C : List Int) {s a : Nat} (ha : a < W.length) (hs : s ≤ 12) : hN W C s a < 2 ^ 63 := by
  have h1 := hN_le hW C s a ha
  have h2 : 11 ^ s ≤ 11 ^ 12 := Nat.pow_le_pow_right (by decide) hs
  have h3 : (11 : Nat) ^ 12 < 2 ^ 63 := by decide
  omega
def cHt (μ : kbM) (W : zW) (C : List Int) (s : Nat) : Prop := ∀ s' w, 0 < s' → s' < s → w < W.length → μ.2 44 (s' * 10 + w) = zL (hN W C s' w)
theorem c_count_in {n : Nat} (hn : 1000 ≤ n) {μ : kbM} {W : zW} {C : List Int} (hW : zWok W) (hC : zCok C) (hR : cRule μ W C) {w cell rest : Nat} (hw : w < W.length) (hcell : cell < 130) (hr0 : 0 < rest) (hr : rest < 13) (h1 : μ.2 44 cell = zL 0) (h2 : ∀ v, v < W.length → rest * 10 + v ≠ cell ∧ μ.2 44 (rest * 10 + v) = zL (hN W C rest v)) : ∃ ν, lp_SP_countRows_39 n (nI w) (nI cell) (nI rest) n 0 μ = some ν ∧ cRule ν W C ∧ ν.2 44 cell = zL (zSum (fun v => if zJoin W C w v = true then hN W C rest v else 0) W.length) ∧ ∀ j, j ≠ cell → ν.2 44 j = μ.2 44 j := by
  have h10 := hW.1
  exact kn_for (fun k (s : Int32 × kbM) => lp_SP_countRows_39 n (nI w) (nI cell) (nI rest) k s.1 s.2) (fun i s => s.1 = nI i ∧ cRule s.2 W C ∧ s.2.2 44 cell = zL (zSum (fun v => if zJoin W C w v = true then hN W C rest v else 0) i) ∧ ∀ j, j ≠ cell → s.2.2 44 j = μ.2 44 j) W.length (fun ν => cRule ν W C ∧ ν.2 44 cell = zL (zSum (fun v => if zJoin W C w v = true then hN W C rest v else 0) W.length) ∧ ∀ j, j ≠ cell → ν.2 44 j = μ.2 44 j)
    (fun k s hs => by
      obtain ⟨v, ν⟩ := s
      simp only at hs
      obtain ⟨rfl, q1, q2, q3⟩ := hs
      refine ⟨ν, ?_, q1, q2, q3⟩
      simp only [lp_SP_countRows_39]
      rw [if_neg (by rw [kn_le0 (by omega)]; omega), q1.1.1, if_pos (by rw [nI_leI (by omega) (by omega)]; omega)])
    (fun k i s hi hs => by
      obtain ⟨v, ν⟩ := s
      simp only at hs
      obtain ⟨rfl, q1, q2, q3⟩ := hs
      have hv := h2 i hi
      have ev : ν.2 44 (rest * 10 + i) = zL (hN W C rest i) := by rw [q3 _ hv.1]; exact hv.2
      have hlt := hN_lt hW C (s := rest) hi (by omega)
      rw [zSum_s]
      generalize zSum (fun v => if zJoin W C w v = true then hN W C rest v else 0) i = X at q2
      have pre : ∀ o, lp_SP_countRows_39 n (nI w) (nI cell) (nI rest) (k + 1) (nI i) ν = o ↔ (if lg_cmp (zL (hN W C rest i)) 0 ≤ 0 then lp_SP_countRows_39 n (nI w) (nI cell) (nI rest) k (nI (i + 1)) ν else (f_JO_mayFollow n (nI w) (nI i) ν).bind fun x1 => if x1.1 = 0 then lp_SP_countRows_39 n (nI w) (nI cell) (nI rest) k (nI (i + 1)) x1.2 else lp_SP_countRows_39 n (nI w) (nI cell) (nI rest) k (nI (i + 1)) (kbX x1.2 44 cell (x1.2.2 44 cell + x1.2.2 44 (rest * 10 + i)))) = o := by
        intro o
        simp only [lp_SP_countRows_39, jn_SP_countRows_109]
        rw [if_neg (by rw [kn_le0 (by omega)]; omega), q1.1.1, if_neg (by rw [nI_leI (by omega) (by omega)]; omega), kl_10, pk_mul, nI_add, kn_inT (by omega) (by omega), kn_if_t, nI_clamp (by omega), ev, nI_1, kn_inT (show cell < 130 by omega) (by omega), nI_clamp (by omega)]
        simp only [kn_if_t]
      obtain ⟨ν1, e1, r1⟩ := jo_may (n := n) (by omega) h10 hw hi hC q1
      have f1 := fr_f_JO_mayFollow e1
      have n44 : ν1.2 44 = ν.2 44 := fr_at2 f1 (by decide) (by decide)
      refine Or.inr ?_
      by_cases h0 : hN W C rest i = 0
      · refine ⟨(nI (i + 1), ν), ?_, rfl, q1, ?_, q3⟩
        · simp only; rw [pre, h0, if_pos lg_0]
        · simp only; rw [q2, h0, show (if zJoin W C w i = true then 0 else 0) = 0 by cases zJoin W C w i <;> rfl, Nat.add_zero]
      · have hp := lg_p (x := hN W C rest i) (by omega) hlt
        cases hj : zJoin W C w i
        · rw [hj] at e1
          refine ⟨(nI (i + 1), ν1), ?_, rfl, r1, ?_, fun j hj => by simp only; rw [n44]; exact q3 j hj⟩
          · simp only; rw [pre, if_neg hp, e1, kn_bs]
            simp only [zB1f, if_true]
          · simp only; rw [n44, q2, if_neg (by decide), Nat.add_zero]
        · rw [hj] at e1
          refine ⟨(nI (i + 1), kbX ν1 44 cell (zL (X + hN W C rest i))), ?_, rfl, ?_, ?_, fun j hj => by simp only; rw [kX_no hj, n44]; exact q3 j hj⟩
          · simp only; rw [pre, if_neg hp, e1, kn_bs]
            simp only
            rw [if_neg zT0, n44, q2, ev, zL_add]
          · exact r1.fr (C := [44]) (S := []) (kbFr.x kbFr.rf (by decide)) (by decide)
          · simp only [↓reduceIte]; exact kX_at)
    W.length 0 n (0, μ) (by omega) (by omega) ⟨rfl, hR, h1, fun j _ => rfl⟩
theorem c_countRows {n : Nat} (hn : 1000 ≤ n) {μ : kbM} {W : zW} {C : List Int} (hW : zWok W) (hC : zCok C) (hR : cRule μ W C) {w len : Nat} (hw : w < W.length) (hl0 : 0 < len) (hl : len ≤ 12) (hT : cHt μ W C len) : ∃ ν, f_SP_countRows n (nI len) (nI w) μ = some ν ∧ cRule ν W C ∧ ν.2 44 (len * 10 + w) = zL (hN W C len w) ∧ ∀ j, j ≠ len * 10 + w → ν.2 44 j = μ.2 44 j := by
  have h10 := hW.1
  have z0 := hW.sz w hw
  have z6 := hW.s6 hw
  have pre : ∀ v : Int64, cRule (kbX μ 44 (len * 10 + w) v) W C := fun v => hR.fr (C := [44]) (S := []) (kbFr.x kbFr.rf (by decide)) (by decide)
  obtain ⟨n', rfl⟩ : ∃ q, n = q + 1 := ⟨n - 1, by omega⟩
  unfold f_SP_countRows jn_SP_countRows_35 jn_SP_countRows_115
  rw [kl_10, pk_mul, nI_add, kn_inT (show w < 10 by omega) (by omega), kn_inT (show len * 10 + w < 130 by omega) (by omega), nI_clamp (show w < 2 ^ 31 by omega), nI_clamp (show len * 10 + w < 2 ^ 31 by omega), (hR.1.2 w hw).2.1]
  simp only [kn_if_t]
  by_cases h1 : zSize (zRowAt W w) < len
  · obtain ⟨ν, e1, e2, e3, e4⟩ := c_count_in hn hW hC (pre 0) (w := w) (cell := len * 10 + w) (rest := len - zSize (zRowAt W w)) hw (by omega) (by omega) (by omega) kX_at (fun v hv => ⟨by omega, by rw [kX_no (by omega)]; exact hT _ v (by omega) (by omega) hv⟩)
    rw [pk_sub (by omega), if_neg (by rw [kn_eq0 (by omega)]; omega), e1, kn_bs]
    exact ⟨ν, rfl, e2, by rw [e3, hN_1 hW C hw h1], fun j hj => by rw [e4 j hj, kX_no hj]⟩
  · rw [hN_2 C hw h1]
    by_cases h2 : len = zSize (zRowAt W w)
    · rw [if_pos h2, pk_sub (by omega), if_pos (by rw [kn_eq0 (by omega)]; omega)]
      refine ⟨kbX μ 44 (len * 10 + w) 1, ?_, pre _, kX_at, fun j hj => kX_no hj⟩
      simp only [lp_SP_countRows_39]
      rw [if_pos (by rw [kn_le0 (by omega)]; omega), kn_bs]
    · have sn := kn_subneg (show len < zSize (zRowAt W w) by omega) (by omega)
      rw [if_neg h2, if_neg sn.2]
      refine ⟨kbX μ 44 (len * 10 + w) 0, ?_, pre _, kX_at, fun j hj => kX_no hj⟩
      simp only [lp_SP_countRows_39]
      rw [if_pos sn.1, kn_bs]
theorem c_rows_in {n : Nat} (hn : 1000 ≤ n) (z : Int32) {μ : kbM} {W : zW} {C : List Int} (hW : zWok W) (hC : zCok C) (hR : cRule μ W C) {len : Nat} (hl0 : 0 < len) (hl : len ≤ 12) (hT : cHt μ W C len) : ∃ x, lp_SP_rowsOf_16 n z (nI len) n 0 0 μ = some x ∧ x.1 = zL (zSum (fun w => hN W C len w) W.length) ∧ cRule x.2 W C ∧ cHt x.2 W C (len + 1) := by
  have h10 := hW.1
  exact kn_for (fun k (s : Int64 × Int32 × kbM) => lp_SP_rowsOf_16 n z (nI len) k s.1 s.2.1 s.2.2) (fun i s => s.1 = zL (zSum (fun w => hN W C len w) i) ∧ s.2.1 = nI i ∧ cRule s.2.2 W C ∧ cHt s.2.2 W C len ∧ ∀ w, w < i → s.2.2.2 44 (len * 10 + w) = zL (hN W C len w)) W.length (fun x => x.1 = zL (zSum (fun w => hN W C len w) W.length) ∧ cRule x.2 W C ∧ cHt x.2 W C (len + 1))
    (fun k s hs => by
      obtain ⟨v, u, ν⟩ := s
      simp only at hs
      obtain ⟨rfl, rfl, q1, q2, q3⟩ := hs
      refine ⟨(zL (zSum (fun w => hN W C len w) W.length), ν), ?_, rfl, q1, fun s' w h1 h2 h3 => ?_⟩
      · simp only [lp_SP_rowsOf_16]
        rw [q1.1.1, if_pos (by rw [nI_leI (by omega) (by omega)]; omega)]
      · by_cases e : s' = len
        · subst e; exact q3 w h3
        · exact q2 s' w h1 (by omega) h3)
    (fun k i s hi hs => by
      obtain ⟨v, u, ν⟩ := s
      simp only at hs
      obtain ⟨rfl, rfl, q1, q2, q3⟩ := hs
      obtain ⟨ν1, e1, e2, e3, e4⟩ := c_countRows hn hW hC q1 hi hl0 hl q2
      refine Or.inr ⟨(zL (zSum (fun w => hN W C len w) (i + 1)), nI (i + 1), ν1), ?_, rfl, rfl, e2, fun s' w h1 h2 h3 => ?_, fun w hw => ?_⟩
      · simp only [lp_SP_rowsOf_16]
        rw [q1.1.1, if_neg (by rw [nI_leI (by omega) (by omega)]; omega), e1, kn_bs, kl_10, pk_mul, nI_add, kn_inT (by omega) (by omega), kn_if_t, nI_clamp (by omega), e3, nI_1, zL_add, zSum_s]
      · simp only
        rw [e4 _ (by omega)]; exact q2 s' w h1 h2 h3
      · simp only
        by_cases e : w = i
        · subst e; exact e3
        · rw [e4 _ (by omega)]; exact q3 w (by omega))
    W.length 0 n (0, 0, μ) (by omega) (by omega) ⟨rfl, rfl, hR, hT, fun w hw => absurd hw (Nat.not_lt_zero w)⟩
theorem c_rowsOf {n : Nat} (hn : 1000 ≤ n) {μ : kbM} {W : zW} {C : List Int} (hW : zWok W) (hC : zCok C) (hR : cRule μ W C) {m : Nat} (hm0 : 0 < m) (hm : m ≤ 12) : ∃ ν, f_SP_rowsOf n (nI m) μ = some (zL (zSum (fun w => hN W C m w) W.length), ν) ∧ cRule ν W C := by
  obtain ⟨x, e1, e2, e3⟩ := kn_for (fun k (s : Int64 × Int32 × kbM) => lp_SP_rowsOf_5 n (nI m) k s.1 s.2.1 s.2.2) (fun i s => (1 < i → s.1 = zL (zSum (fun w => hN W C (i - 1) w) W.length)) ∧ s.2.1 = nI i ∧ cRule s.2.2 W C ∧ cHt s.2.2 W C i ∧ 0 < i) (m + 1) (fun x => x.1 = zL (zSum (fun w => hN W C m w) W.length) ∧ cRule x.2 W C)
    (fun k s hs => by
      obtain ⟨v, u, ν⟩ := s
      simp only at hs
      obtain ⟨q0, rfl, q1, q2, q3⟩ := hs
      have := q0 (by omega)
      rw [Nat.add_sub_cancel] at this
      refine ⟨(v, ν), ?_, this, q1⟩
      simp only [lp_SP_rowsOf_5]
      rw [if_pos (by rw [nI_ltI (by omega) (by omega)]; omega)])
    (fun k i s hi hs => by
      obtain ⟨v, u, ν⟩ := s
      simp only at hs
      obtain ⟨q0, rfl, q1, q2, q3⟩ := hs
      obtain ⟨x, e1, e2, e3, e4⟩ := c_rows_in hn (nI m) hW hC q1 q3 (by omega) q2
      refine Or.inr ⟨(x.1, nI (i + 1), x.2), ?_, fun _ => by rw [Nat.add_sub_cancel]; exact e2, rfl, e3, e4, by omega⟩
      simp only [lp_SP_rowsOf_5]
      rw [if_neg (by rw [nI_ltI (by omega) (by omega)]; omega), e1, kn_bs, nI_1])
    m 1 n (0, 1, μ) (by omega) (by omega) ⟨fun q => absurd q (by omega), rfl, hR, fun s' w h1 h2 _ => absurd h2 (by omega), by omega⟩
  refine ⟨x.2, ?_, e3⟩
  unfold f_SP_rowsOf
  rw [show lp_SP_rowsOf_5 n (nI m) n 0 1 μ = some x from e1, kn_bs, e2]
/-! the model's -/
def mHt (μ : kbM) (W : zW) (C : List Int) (s : Nat) : Prop := ∀ s' w, 0 < s' → s' < s → w < W.length → μ.2 88 (10 * s' + w) = zL (hM W C s' w)
theorem m_how_in {n : Nat} (hn : 1000 ≤ n) (x1 x3 : Int32) (x2 : Int64) {μ : kbM} {W : zW} {C : List Int} (hW : zWok W) (hC : zCok C) (hR : mRule μ W C) {w rest : Nat} (hw : w < W.length) (hr0 : 0 < rest) (hr : rest < 13) (h2 : ∀ v, v < W.length → μ.2 88 (10 * rest + v) = zL (hM W C rest v)) : ∃ r, lp_MD_howMany_77 n x1 x2 x3 (nI w) (nI rest) n 0 0 μ = some r ∧ r.1 = zL (zSum (fun v => if zJoin W C v w = true then hM W C rest v else 0) W.length) ∧ mRule r.2 W C := by
  have h10 := hW.1
  exact kn_for (fun k (s : Int64 × Int32 × kbM) => lp_MD_howMany_77 n x1 x2 x3 (nI w) (nI rest) k s.1 s.2.1 s.2.2) (fun i s => s.1 = zL (zSum (fun v => if zJoin W C v w = true then hM W C rest v else 0) i) ∧ s.2.1 = nI i ∧ mRule s.2.2 W C ∧ s.2.2.2 88 = μ.2 88) W.length (fun r => r.1 = zL (zSum (fun v => if zJoin W C v w = true then hM W C rest v else 0) W.length) ∧ mRule r.2 W C)
    (fun k s hs => by
      obtain ⟨v, u, ν⟩ := s
      simp only at hs
      obtain ⟨rfl, rfl, q1, q2⟩ := hs
      refine ⟨(zL (zSum (fun v => if zJoin W C v w = true then hM W C rest v else 0) W.length), ν), ?_, rfl, q1⟩
      simp only [lp_MD_howMany_77]
      rw [q1.1.1, if_pos (by rw [nI_leI (by omega) (by omega)]; omega)])
    (fun k i s hi hs => by
      obtain ⟨v, u, ν⟩ := s
      simp only at hs
      obtain ⟨rfl, rfl, q1, q2⟩ := hs
      rw [zSum_s]
      generalize zSum (fun v => if zJoin W C v w = true then hM W C rest v else 0) i = X
      obtain ⟨ν1, e1, r1⟩ := md_joins (n := n) (by omega) hW hi hw hC q1
      have f1 := fr_f_MD_joins e1
      have n88 : ν1.2 88 = ν.2 88 := fr_at2 f1 (by decide) (by decide)
      have ev : ν1.2 88 (10 * rest + i) = zL (hM W C rest i) := by rw [n88, q2]; exact h2 i hi
      have pre : ∀ o, lp_MD_howMany_77 n x1 x2 x3 (nI w) (nI rest) (k + 1) (zL X) (nI i) ν = o ↔ (if zB (zJoin W C i w) = 0 then lp_MD_howMany_77 n x1 x2 x3 (nI w) (nI rest) k (zL X) (nI (i + 1)) ν1 else lp_MD_howMany_77 n x1 x2 x3 (nI w) (nI rest) k (zL (X + hM W C rest i)) (nI (i + 1)) ν1) = o := by
        intro o
        simp only [lp_MD_howMany_77, jn_MD_howMany_120]
        rw [q1.1.1, if_neg (by rw [nI_leI (by omega) (by omega)]; omega), if_neg (by rw [kn_le0 (by omega)]; omega), e1, kn_bs, kl_10, pk_mul, nI_add, kn_inT (by omega) (by omega), kn_if_t, nI_clamp (by omega)]
        simp only
        rw [ev, nI_1, zL_add]
      refine Or.inr ?_
      cases hj : zJoin W C i w
      · refine ⟨(zL X, nI (i + 1), ν1), ?_, ?_, rfl, r1, n88.trans q2⟩
        · simp only; rw [pre, hj, if_pos zF0]
        · simp only; rw [if_neg (by decide), Nat.add_zero]
      · refine ⟨(zL (X + hM W C rest i), nI (i + 1), ν1), ?_, ?_, rfl, r1, n88.trans q2⟩
        · simp only; rw [pre, hj, if_neg zT0]
        · simp only [↓reduceIte])
    W.length 0 n (0, 0, μ) (by omega) (by omega) ⟨rfl, rfl, hR, rfl⟩
theorem m_how_w {n : Nat} (hn : 1000 ≤ n) {μ : kbM} {W : zW} {C : List Int} (hW : zWok W) (hC : zCok C) (hR : mRule μ W C) {s m : Nat} (hs0 : 0 < s) (hs : s ≤ 12) (hm : m ≤ 12) (hT : mHt μ W C s) (y : Nat) : ∃ x, lp_MD_howMany_38 n (nI m) (nI s) n (zL y) 0 μ = some x ∧ x.1 = zL (y + if s = m then zSum (fun w => hM W C s w) W.length else 0) ∧ mRule x.2 W C ∧ mHt x.2 W C (s + 1) := by
  have h10 := hW.1
  exact kn_for (fun k (x : Int64 × Int32 × kbM) => lp_MD_howMany_38 n (nI m) (nI s) k x.1 x.2.1 x.2.2) (fun i x => x.1 = zL (y + if s = m then zSum (fun w => hM W C s w) i else 0) ∧ x.2.1 = nI i ∧ mRule x.2.2 W C ∧ mHt x.2.2 W C s ∧ ∀ w, w < i → x.2.2.2 88 (10 * s + w) = zL (hM W C s w)) W.length (fun x => x.1 = zL (y + if s = m then zSum (fun w => hM W C s w) W.length else 0) ∧ mRule x.2 W C ∧ mHt x.2 W C (s + 1))
    (fun k x hx => by
      obtain ⟨v, u, ν⟩ := x
      simp only at hx
      obtain ⟨rfl, rfl, q1, q2, q3⟩ := hx
      refine ⟨(zL (y + if s = m then zSum (fun w => hM W C s w) W.length else 0), ν), ?_, rfl, q1, fun s' w h1 h2 h3 => ?_⟩
      · simp only [lp_MD_howMany_38]
        rw [q1.1.1, if_pos (by rw [nI_leI (by omega) (by omega)]; omega)]
      · by_cases e : s' = s
        · subst e; exact q3 w h3
        · exact q2 s' w h1 (by omega) h3)
    (fun k i x hi hx => by
      obtain ⟨v, u, ν⟩ := x
      simp only at hx
      obtain ⟨rfl, rfl, q1, q2, q3⟩ := hx
      have z0 := hW.sz i hi
      have z6 := hW.s6 hi
      have szi := md_sizeOf (n := n) (by omega) (hW.row hi).2.2
      have fin : ∀ (κ : kbM), mRule κ W C → κ.2 88 = ν.2 88 → jn_MD_howMany_126 n (lp_MD_howMany_38 n (nI m) (nI s) k) (nI m) (zL (y + if s = m then zSum (fun w => hM W C s w) i else 0)) (nI s) (nI i) (zL (hM W C s i)) κ = lp_MD_howMany_38 n (nI m) (nI s) k (zL (y + if s = m then zSum (fun w => hM W C s w) (i + 1) else 0)) (nI (i + 1)) (kbX κ 88 (10 * s + i) (zL (hM W C s i))) ∧ mRule (kbX κ 88 (10 * s + i) (zL (hM W C s i))) W C ∧ mHt (kbX κ 88 (10 * s + i) (zL (hM W C s i))) W C s ∧ ∀ w, w < i + 1 → (kbX κ 88 (10 * s + i) (zL (hM W C s i))).2 88 (10 * s + w) = zL (hM W C s w) := by
        intro κ k1 k2
        refine ⟨?_, k1.fr (C := [88]) (S := []) (kbFr.x kbFr.rf (by decide)) (by decide) (by decide), fun s' w h1 h2 h3 => ?_, fun w hw => ?_⟩
        · simp only [jn_MD_howMany_126, jn_MD_howMany_154]
          rw [kl_10, pk_mul, nI_add, kn_inT (by omega) (by omega), kn_if_t, nI_clamp (by omega), nI_1]
          by_cases e : s = m
          · rw [if_pos (by rw [e]), if_pos e, if_pos e, zL_add, zSum_s, Nat.add_assoc]
          · rw [if_neg (by rw [nI_eq (by omega) (by omega)]; exact e), if_neg e, if_neg e, zL_0, zL_add]
        · rw [kX_no (by omega), k2]; exact q2 s' w h1 h2 h3
        · by_cases e : w = i
          · subst e; exact kX_at
          · rw [kX_no (by omega), k2]; exact q3 w (by omega)
      have start : ∀ o, lp_MD_howMany_38 n (nI m) (nI s) (k + 1) (zL (y + if s = m then zSum (fun w => hM W C s w) i else 0)) (nI i) ν = o ↔ (if nI s - nI (zSize (zRowAt W i)) = 0 then jn_MD_howMany_72 n (lp_MD_howMany_38 n (nI m) (nI s) k) (nI m) (zL (y + if s = m then zSum (fun w => hM W C s w) i else 0)) (nI s) (nI i) (nI s - nI (zSize (zRowAt W i))) 1 ν else jn_MD_howMany_72 n (lp_MD_howMany_38 n (nI m) (nI s) k) (nI m) (zL (y + if s = m then zSum (fun w => hM W C s w) i else 0)) (nI s) (nI i) (nI s - nI (zSize (zRowAt W i))) 0 ν) = o := by
        intro o
        simp only [lp_MD_howMany_38]
        rw [q1.1.1, if_neg (by rw [nI_leI (by omega) (by omega)]; omega), kn_inT (by omega) (by omega), kn_if_t, nI_clamp (by omega), (q1.1.2 i hi).1, szi, kn_bs]
      refine Or.inr ?_
      by_cases h1 : zSize (zRowAt W i) < s
      · obtain ⟨r, e1, e2, e3⟩ := m_how_in hn (nI m) (nI s) (zL (y + if s = m then zSum (fun w => hM W C s w) i else 0)) hW hC q1 (w := i) (rest := s - zSize (zRowAt W i)) hi (by omega) (by omega) (fun v hv => q2 _ v (by omega) (by omega) hv)
        have f := fr_lp_MD_howMany_77 e1
        rw [← hM_1 hW C hi h1] at e2
        obtain ⟨g1, g2, g3, g4⟩ := fin r.2 e3 (fr_at2 f (by decide) (by decide))
        refine ⟨(zL (y + if s = m then zSum (fun w => hM W C s w) (i + 1) else 0), nI (i + 1), kbX r.2 88 (10 * s + i) (zL (hM W C s i))), ?_, rfl, rfl, g2, g3, g4⟩
        simp only
        rw [start, pk_sub (by omega), if_neg (by rw [kn_eq0 (by omega)]; omega)]
        unfold jn_MD_howMany_72
        rw [e1, kn_bs, e2]
        exact g1
      · obtain ⟨g1, g2, g3, g4⟩ := fin ν q1 rfl
        refine ⟨(zL (y + if s = m then zSum (fun w => hM W C s w) (i + 1) else 0), nI (i + 1), kbX ν 88 (10 * s + i) (zL (hM W C s i))), ?_, rfl, rfl, g2, g3, g4⟩
        simp only
        rw [start]
        obtain ⟨n', hn'⟩ : ∃ q, n = q + 1 := ⟨n - 1, by omega⟩
        have stop : ∀ (a c : Int32) (b v : Int64), nI s - nI (zSize (zRowAt W i)) ≤ 0 → lp_MD_howMany_77 n a b c (nI i) (nI s - nI (zSize (zRowAt W i))) n v 0 ν = some (v, ν) := by
          intro a c b v hle
          rw [show lp_MD_howMany_77 n a b c (nI i) (nI s - nI (zSize (zRowAt W i))) n v 0 ν = lp_MD_howMany_77 n a b c (nI i) (nI s - nI (zSize (zRowAt W i))) (n' + 1) v 0 ν by rw [← hn']]
          simp only [lp_MD_howMany_77]
          by_cases hq : ν.1 57 27 ≤ 0
          · rw [if_pos hq]
          · rw [if_neg hq, if_pos hle]
        have e := hM_2 hW C hi h1
        by_cases h2 : s = zSize (zRowAt W i)
        · rw [if_pos h2] at e
          have e' : zL (hM W C s i) = 1 := by rw [e]; rfl
          rw [if_pos (by rw [pk_sub (by omega), kn_eq0 (by omega)]; omega)]
          unfold jn_MD_howMany_72
          rw [stop _ _ _ _ (by rw [pk_sub (by omega), kn_le0 (by omega)]; omega), kn_bs]
          simp only
          rw [← e']
          exact g1
        · rw [if_neg h2] at e
          have e' : zL (hM W C s i) = 0 := by rw [e]; rfl
          have sn := kn_subneg (show s < zSize (zRowAt W i) by omega) (by omega)
          rw [if_neg sn.2]
          unfold jn_MD_howMany_72
          rw [stop _ _ _ _ sn.1, kn_bs]
          simp only
          rw [← e']
          exact g1)
    W.length 0 n (zL y, 0, μ) (by omega) (by omega) ⟨by show zL y = zL (y + if s = m then 0 else 0); rw [ite_self, Nat.add_zero], rfl, hR, hT, fun w hw => absurd hw (Nat.not_lt_zero w)⟩
theorem m_how {n : Nat} (hn : 1000 ≤ n) {μ : kbM} {W : zW} {C : List Int} (hW : zWok W) (hC : zCok C) (hR : mRule μ W C) {m : Nat} (hm0 : 0 < m) (hm : m ≤ 12) : ∃ x, lp_MD_howMany_29 n (nI m) n 0 1 μ = some x ∧ x.1 = zL (zSum (fun w => hN W C m w) W.length) := by
  exact kn_for (fun k (s : Int64 × Int32 × kbM) => lp_MD_howMany_29 n (nI m) k s.1 s.2.1 s.2.2) (fun i s => s.1 = zL (if m < i then zSum (fun w => hM W C m w) W.length else 0) ∧ s.2.1 = nI i ∧ mRule s.2.2 W C ∧ mHt s.2.2 W C i ∧ 0 < i) (m + 1) (fun x => x.1 = zL (zSum (fun w => hN W C m w) W.length))
    (fun k s hs => by
      obtain ⟨v, u, ν⟩ := s
      simp only at hs
      obtain ⟨rfl, rfl, q1, q2, q3⟩ := hs
      refine ⟨(zL (if m < m + 1 then zSum (fun w => hM W C m w) W.length else 0), ν), ?_, by rw [if_pos (by omega), hN_hM]⟩
      simp only [lp_MD_howMany_29]
      rw [if_pos (by rw [nI_ltI (by omega) (by omega)]; omega)])
    (fun k i s hi hs => by
      obtain ⟨v, u, ν⟩ := s
      simp only at hs
      obtain ⟨rfl, rfl, q1, q2, q3⟩ := hs
      rw [if_neg (show ¬ m < i by omega)]
      obtain ⟨x, e1, e2, e3, e4⟩ := m_how_w hn hW hC q1 (s := i) (m := m) q3 (by omega) hm q2 0
      refine Or.inr ⟨(x.1, nI (i + 1), x.2), ?_, ?_, rfl, e3, e4, by omega⟩
      · simp only [lp_MD_howMany_29]
        rw [if_neg (by rw [nI_ltI (by omega) (by omega)]; omega), e1, kn_bs, nI_1]
      · simp only
        rw [e2, Nat.zero_add]
        by_cases e : i = m
        · subst e; rw [if_pos rfl, if_pos (by omega)]
        · rw [if_neg e, if_neg (by omega)])
    m 1 n (0, 1, μ) (by omega) (by omega) ⟨by rw [if_neg (by omega)]; rfl, rfl, hR, fun s' w h1 h2 _ => absurd h2 (by omega), by omega⟩
theorem zIn_112 (x : Int32) : f_MD_isIn x.toInt64 1 12 = some (zB (zIn x 13 && decide (¬ x = 0))) := by
  rw [md_isIn, show (1 : Int64) = (kI 1).toInt64 by decide, show (12 : Int64) = (kI 12).toInt64 by decide]
  congr 2
  apply Bool.eq_iff_iff.mpr
  rw [decide_eq_true_iff, kn_long (by decide) (by decide) (by decide) (by decide)]
  have e0 : x = 0 ↔ x.toInt = 0 := by
    rw [← Int32.toInt_inj]
    have : (0 : Int32).toInt = 0 := by decide
    rw [this]
  unfold zIn
  simp only [Bool.and_eq_true, decide_eq_true_eq]
  rw [e0]
  omega
def s_howMany (A : zA) (u : Int32) : Int32 × Int64 := if (zIn u 13 && decide (¬ u = 0)) = true then (0, zL (zSum (fun w => hN A.1.1.1 A.2.2.2.1 u.toNatClampNeg w) A.1.1.1.length)) else (1, 0)
theorem cl_howMany {n : Nat} (hn : 1000 ≤ n) {μ : kbM} {A : zA} (hA : zOk A) (h : rC μ A) (u : Int32) : ∃ μ1, f_L_howMany n u μ = some ((s_howMany A u).1, μ1) ∧ ((s_howMany A u).1 = 0 → μ1.2 97 0 = (s_howMany A u).2) ∧ cKnown μ1 A.1.1.1 A.2.2.2.1 := by
  unfold f_L_howMany f_KB_howMany s_howMany jn_KB_howMany_11
  rcases zIn_cases u (c := 13) (by omega) with ⟨a, ha, rfl⟩ | ⟨h1, h2 | h2⟩
  · by_cases h0 : a = 0
    · subst h0
      rw [if_pos (show nI 0 < 1 by decide)]
      exact ⟨μ, rfl, fun q => absurd q z1n, h.rule.2.2⟩
    · obtain ⟨ν, e, r⟩ := c_rowsOf hn hA.words hA.code h.rule (m := a) (by omega) (by omega)
      rw [show (1 : Int32) = nI 1 from rfl, if_neg (by rw [nI_ltI (by omega) (by omega)]; omega), kl_12, if_pos (by rw [nI_leI (by omega) (by omega)]; omega), zIn_n (by omega), decide_eq_true ha, decide_eq_true (show ¬ nI a = 0 by rw [kn_eq0 (by omega)]; exact h0), if_pos (show (true && true) = true from rfl), e, kn_bs, nI_clamp (by omega)]
      exact ⟨_, rfl, fun _ => kX_at, r.2.2⟩
  · have := (kn_neg h2 (n := 1) (by decide)).1
    rw [if_pos (show u < 1 from this), h1]; exact ⟨μ, rfl, fun q => absurd q z1n, h.rule.2.2⟩
  · rw [h1, if_neg (show ¬ u < 1 from fun q => h2.2.2 (by
      have a1 := Int32.lt_iff_toInt_lt.mp q
      rw [Int32.lt_iff_toInt_lt, nI_toInt (by decide)]
      have a2 : (1 : Int32).toInt = 1 := by decide
      omega)), kl_12, if_neg (zIn_gt (by decide) h2.2.1)]
    exact ⟨μ, rfl, fun q => absurd q z1n, h.rule.2.2⟩
theorem md_howMany {n : Nat} (hn : 1000 ≤ n) {μ : kbM} {A : zA} (hA : zOk A) (h0 : rM μ A) (u : Int32) : ∃ v μ2, f_MD_howMany n u μ = some (v, μ2) ∧ μ2.1 57 3 = (s_howMany A u).1 ∧ ((s_howMany A u).1 = 0 → v = (s_howMany A u).2) := by
  have h := h0.c0 0
  unfold f_MD_howMany s_howMany f_MD_fail
  rw [zIn_112, kn_bs]
  cases hq : (zIn u 13 && decide (¬ u = 0))
  · exact ⟨_, _, rfl, kW_at, fun q => absurd q z1n⟩
  · rcases zIn_cases u (c := 13) (by omega) with ⟨a, ha, rfl⟩ | ⟨h1, h2⟩
    · have ha0 : ¬ a = 0 := by
        rintro rfl
        simp at hq
        exact hq.2 rfl
      obtain ⟨x, e, r⟩ := m_how hn hA.words hA.code h.rule (m := a) (by omega) (by omega)
      have f := fr_lp_MD_howMany_29 e
      rw [if_pos rfl, if_neg zT0, e, kn_bs, r, nI_clamp (by omega)]
      exact ⟨_, _, rfl, (fr_57 f (by decide) (by decide)).trans kW_at, fun _ => rfl⟩
    · rw [h1] at hq; cases hq
theorem op_25 {n : Nat} (hn : 5000 ≤ n) {μ : kbM} (hI : kbInv μ) (u1 : Int32) : ∃ μ', c_law_25 n u1 μ = some μ' ∧ kbInv μ' := by
  obtain ⟨A, hA, hC, hM⟩ := hI
  obtain ⟨μ1, h1, h4, hk⟩ := cl_howMany (n := n) (by omega) hA hC u1
  have f1 := fr_f_L_howMany h1
  have hC1 := hC.frk f1 (by decide) hk
  have hM1 := hM.fr f1 (by decide) (by decide)
  obtain ⟨v, μ2, h2, h3, h5⟩ := md_howMany (n := n) (by omega) hA hM1 u1
  have f2 := fr_f_MD_howMany h2
  refine ⟨μ2, law_long h1 h2 h3 (fun q => ?_), A, hA, hC1.fr f2 (by decide) (by decide), hM1.fr f2 (by decide) (by decide)⟩
  rw [fr_at2 f2 (by decide) (by decide), h4 q, h5 q]
