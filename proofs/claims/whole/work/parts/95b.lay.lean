/-! the class lays a row -/
def cLaid (μ : kbM) (W : zW) (C : List Int) (v p : Nat) : Prop := ∀ a w, p ≤ a → a ≤ zSize v → w < W.length → μ.1 45 (a * 10 + w) = nI (f0 (rQ W C v a w)) ∧ μ.2 44 (a * 10 + w) = zL (rY W C v a w)
theorem kb_min {x y : Nat} (hx : x < 2 ^ 31) (hy : y < 2 ^ 31) : kbMin (nI x) (nI y) = nI (min x y) := by
  unfold kbMin
  by_cases h : y < x
  · rw [if_pos (by rw [nI_ltI hy hx]; exact h), Nat.min_eq_right (by omega)]
  · rw [if_neg (by rw [nI_ltI hy hx]; exact h), Nat.min_eq_left (by omega)]
theorem c_lw_in {n : Nat} (hn : 1000 ≤ n) {μ : kbM} {W : zW} {C : List Int} (hW : zWok W) (hC : zCok C) (hR : cRule μ W C) {v w cell e : Nat} (hv : v ≤ 244140624) (hw : w < W.length) (hcell : cell < 130) (he : e ≤ zSize v) (h1 : μ.1 45 cell = 0) (h1' : μ.2 44 cell = zL 0) (h2 : ∀ x, x < W.length → e * 10 + x ≠ cell ∧ μ.1 45 (e * 10 + x) = nI (f0 (rQ W C v e x)) ∧ μ.2 44 (e * 10 + x) = zL (rY W C v e x)) : ∃ ν, lp_SP_layWord_93 n (nI w) (nI cell) (nI e) n 0 μ = some ν ∧ cRule ν W C ∧ ν.1 45 cell = nI (f0 (zBig oMin none (fun x => if zJoin W C w x = true then oInc (rQ W C v e x) else none) W.length)) ∧ ν.2 44 cell = zL (zSum (fun x => if zJoin W C w x = true then rY W C v e x else 0) W.length) ∧ ∀ j, j ≠ cell → ν.1 45 j = μ.1 45 j ∧ ν.2 44 j = μ.2 44 j := by
  have h10 := hW.1
  have h12 := zSize_12.mpr hv
  exact kn_for (fun k (s : Int32 × kbM) => lp_SP_layWord_93 n (nI w) (nI cell) (nI e) k s.1 s.2) (fun i s => s.1 = nI i ∧ cRule s.2 W C ∧ s.2.1 45 cell = nI (f0 (zBig oMin none (fun x => if zJoin W C w x = true then oInc (rQ W C v e x) else none) i)) ∧ s.2.2 44 cell = zL (zSum (fun x => if zJoin W C w x = true then rY W C v e x else 0) i) ∧ ∀ j, j ≠ cell → s.2.1 45 j = μ.1 45 j ∧ s.2.2 44 j = μ.2 44 j) W.length (fun ν => cRule ν W C ∧ ν.1 45 cell = nI (f0 (zBig oMin none (fun x => if zJoin W C w x = true then oInc (rQ W C v e x) else none) W.length)) ∧ ν.2 44 cell = zL (zSum (fun x => if zJoin W C w x = true then rY W C v e x else 0) W.length) ∧ ∀ j, j ≠ cell → ν.1 45 j = μ.1 45 j ∧ ν.2 44 j = μ.2 44 j)
    (fun k s hs => by
      obtain ⟨y, ν⟩ := s
      simp only at hs
      obtain ⟨rfl, q1, q2⟩ := hs
      refine ⟨ν, ?_, q1, q2⟩
      simp only [lp_SP_layWord_93]
      rw [q1.1.1, if_pos (by rw [nI_leI (by omega) (by omega)]; omega)])
    (fun k i s hi hs => by
      obtain ⟨y, ν⟩ := s
      simp only at hs
      obtain ⟨rfl, q1, q2, q2', q3⟩ := hs
      have hx := h2 i hi
      have ev : ν.1 45 (e * 10 + i) = nI (f0 (rQ W C v e i)) := by rw [(q3 _ hx.1).1]; exact hx.2.1
      have ev' : ν.2 44 (e * 10 + i) = zL (rY W C v e i) := by rw [(q3 _ hx.1).2]; exact hx.2.2
      have hbt := rQ_bt hW C v _ e i rfl hi
      rw [zBig_s, zSum_s]
      have hXb : oBt 13 (zBig oMin none (fun x => if zJoin W C w x = true then oInc (rQ W C v e x) else none) i) := zBig_pres (oBt 13) (oBt_none _) (fun x y => oBt_min) (fun x hx => by
        split
        · exact oBt_mono (show zSize v - e + 1 ≤ 13 by omega) (oBt_inc (rQ_bt hW C v _ e x rfl (by omega)))
        · exact oBt_none _)
      generalize zBig oMin none (fun x => if zJoin W C w x = true then oInc (rQ W C v e x) else none) i = X at q2 hXb
      generalize zSum (fun x => if zJoin W C w x = true then rY W C v e x else 0) i = Y at q2'
      obtain ⟨ν1, e1, r1⟩ := jo_may (n := n) (by omega) h10 hw hi hC q1
      have f1 := fr_f_JO_mayFollow e1
      have n45 : ν1.1 45 = ν.1 45 := fr_at f1 (by decide) (by decide)
      have n44 : ν1.2 44 = ν.2 44 := fr_at2 f1 (by decide) (by decide)
      have pre : ∀ o, lp_SP_layWord_93 n (nI w) (nI cell) (nI e) (k + 1) (nI i) ν = o ↔ (if nI (f0 (rQ W C v e i)) ≤ 0 then lp_SP_layWord_93 n (nI w) (nI cell) (nI e) k (nI (i + 1)) ν else if zB (zJoin W C w i) = 0 then lp_SP_layWord_93 n (nI w) (nI cell) (nI e) k (nI (i + 1)) ν1 else if nI (f0 X) = 0 then lp_SP_layWord_93 n (nI w) (nI cell) (nI e) k (nI (i + 1)) (kbW (kbX ν1 44 cell (zL (Y + rY W C v e i))) 45 cell (nI (f0 (rQ W C v e i) + 1))) else lp_SP_layWord_93 n (nI w) (nI cell) (nI e) k (nI (i + 1)) (kbW (kbX ν1 44 cell (zL (Y + rY W C v e i))) 45 cell (kbMin (nI (f0 X)) (nI (f0 (rQ W C v e i) + 1))))) = o := by
        intro o
        simp only [lp_SP_layWord_93, jn_SP_layWord_203, jn_SP_layWord_204]
        rw [q1.1.1, if_neg (by rw [nI_leI (by omega) (by omega)]; omega), kl_10, pk_mul, nI_add, kn_inT (show e * 10 + i < 130 by omega) (by omega), kn_if_t, nI_clamp (show e * 10 + i < 2 ^ 31 by omega), ev, e1, kn_bs, kn_inT (show cell < 130 by omega) (by omega), nI_clamp (show cell < 2 ^ 31 by omega)]
        simp only [kn_if_t, kX_1, n45, n44, q2, q2', ev, ev', zL_add, nI_1]
      refine Or.inr ?_
      cases hq : rQ W C v e i with
      | none =>
        have hy := rQ_none hW C v _ e i rfl hi hq
        refine ⟨(nI (i + 1), ν), ?_, rfl, q1, ?_, ?_, q3⟩
        · simp only; rw [pre, hq, if_pos (show nI (f0 none) ≤ 0 by decide)]
        · simp only; rw [q2, show (if zJoin W C w i = true then oInc none else none) = none by cases zJoin W C w i <;> rfl, oMin_n]
        · simp only; rw [q2', hy, show (if zJoin W C w i = true then 0 else 0) = 0 by cases zJoin W C w i <;> rfl, Nat.add_zero]
      | some m =>
        have hm := hbt m hq
        have hle : ¬ nI (f0 (some m)) ≤ 0 := by show ¬ nI m ≤ 0; rw [kn_le0 (by omega)]; omega
        cases hj : zJoin W C w i
        · refine ⟨(nI (i + 1), ν1), ?_, rfl, r1, ?_, ?_, fun j hj => ?_⟩
          · simp only; rw [pre, hq, hj, if_neg hle, if_pos zF0]
          · simp only; rw [n45, q2, if_neg (by decide), oMin_n]
          · simp only; rw [n44, q2', if_neg (by decide), Nat.add_zero]
          · simp only; rw [n45, n44]; exact q3 j hj
        · have fin : ∀ x : Int32, cRule (kbW (kbX ν1 44 cell (zL (Y + rY W C v e i))) 45 cell x) W C := fun x => r1.fr (C := [44, 45]) (S := []) (kbFr.w (kbFr.x kbFr.rf (by decide)) (by decide)) (by decide)
          have fin2 : ∀ x : Int32, (kbW (kbX ν1 44 cell (zL (Y + rY W C v e i))) 45 cell x).2 44 cell = zL (Y + rY W C v e i) := fun x => by rw [kW_2]; exact kX_at
          have fin3 : ∀ (x : Int32) j, j ≠ cell → (kbW (kbX ν1 44 cell (zL (Y + rY W C v e i))) 45 cell x).1 45 j = μ.1 45 j ∧ (kbW (kbX ν1 44 cell (zL (Y + rY W C v e i))) 45 cell x).2 44 j = μ.2 44 j := fun x j hj => by
            rw [kW_no hj, kX_1, kW_2, kX_no hj, n45, n44]; exact q3 j hj
          simp only [↓reduceIte]
          cases X with
          | none =>
            refine ⟨(nI (i + 1), kbW (kbX ν1 44 cell (zL (Y + rY W C v e i))) 45 cell (nI (f0 (some m) + 1))), ?_, rfl, fin _, kW_at, fin2 _, fin3 _⟩
            simp only; rw [pre, hq, hj, if_neg hle, if_neg zT0, if_pos (show nI (f0 none) = 0 from rfl)]
          | some x =>
            have hx := hXb x rfl
            refine ⟨(nI (i + 1), kbW (kbX ν1 44 cell (zL (Y + rY W C v e i))) 45 cell (nI (min x (m + 1)))), ?_, rfl, fin _, kW_at, fin2 _, fin3 _⟩
            simp only; rw [pre, hq, hj, if_neg hle, if_neg zT0, if_neg (show ¬ nI (f0 (some x)) = 0 by show ¬ nI x = 0; rw [kn_eq0 (by omega)]; omega), show kbMin (nI (f0 (some x))) (nI (f0 (some m) + 1)) = nI (min x (m + 1)) from kb_min (x := x) (y := m + 1) (by omega) (by omega)])
    W.length 0 n (0, μ) (by omega) (by omega) ⟨rfl, hR, h1, h1', fun j _ => ⟨rfl, rfl⟩⟩
theorem c_layWord {n : Nat} (hn : 1000 ≤ n) {μ : kbM} {W : zW} {C : List Int} (hW : zWok W) (hC : zCok C) (hR : cRule μ W C) {v p w : Nat} (hv : v ≤ 244140624) (hp : p ≤ zSize v) (hw : w < W.length) (hL : cLaid μ W C v (p + 1)) : ∃ ν, f_SP_layWord n (nI v) (nI (zSize v)) (nI p) (nI w) μ = some ν ∧ cRule ν W C ∧ ν.1 45 (p * 10 + w) = nI (f0 (rQ W C v p w)) ∧ ν.2 44 (p * 10 + w) = zL (rY W C v p w) ∧ ∀ j, j ≠ p * 10 + w → ν.1 45 j = μ.1 45 j ∧ ν.2 44 j = μ.2 44 j := by
  have h10 := hW.1
  have h12 := zSize_12.mpr hv
  have z0 := hW.sz w hw
  have z6 := hW.s6 hw
  have rw' := hW.row hw
  have R0 : cRule (kbW (kbX μ 44 (p * 10 + w) 0) 45 (p * 10 + w) 0) W C := hR.fr (C := [44, 45]) (S := []) (kbFr.w (kbFr.x kbFr.rf (by decide)) (by decide)) (by decide)
  have o1 : ∀ j, j ≠ p * 10 + w → (kbW (kbX μ 44 (p * 10 + w) 0) 45 (p * 10 + w) 0).1 45 j = μ.1 45 j ∧ (kbW (kbX μ 44 (p * 10 + w) 0) 45 (p * 10 + w) 0).2 44 j = μ.2 44 j := fun j hj => by rw [kW_no hj, kX_1, kW_2, kX_no hj]; exact ⟨rfl, rfl⟩
  have z44 : (kbW (kbX μ 44 (p * 10 + w) 0) 45 (p * 10 + w) 0).2 44 (p * 10 + w) = zL 0 := by rw [kW_2]; exact kX_at
  have r14 : (kbW (kbX μ 44 (p * 10 + w) 0) 45 (p * 10 + w) 0).1 14 w = nI (zRowAt W w) := (R0.1.2 w hw).1
  unfold f_SP_layWord jn_SP_layWord_66
  rw [kl_10, pk_mul, nI_add, kn_inT (show w < 10 by omega) (by omega), kn_inT (show p * 10 + w < 130 by omega) (by omega), nI_clamp (show w < 2 ^ 31 by omega), nI_clamp (show p * 10 + w < 2 ^ 31 by omega), (hR.1.2 w hw).2.1, nI_add, r14]
  simp only [kn_if_t]
  by_cases h : p + zSize (zRowAt W w) ≤ zSize v
  · have hsl := ro_slice (v := v) (z := zSize v) (a := p) (b := p + zSize (zRowAt W w)) (by omega) (by omega) h h12
    rw [Nat.add_sub_cancel_left] at hsl
    have hlt : v / 5 ^ (zSize v - (p + zSize (zRowAt W w))) % 5 ^ zSize (zRowAt W w) < 2 ^ 31 := Nat.lt_of_lt_of_le (Nat.mod_lt _ (five_pos _)) (Nat.le_of_lt (five_lt (by omega)))
    rw [if_neg (by rw [nI_ltI (by omega) (by omega)]; omega), hsl, kn_bs]
    by_cases hs : v / 5 ^ (zSize v - (p + zSize (zRowAt W w))) % 5 ^ zSize (zRowAt W w) = zRowAt W w
    · have hst : zSa W v p w = true := by unfold zSa; rw [decide_eq_true h, hs, beq_self_eq_true]; rfl
      rw [if_pos (by rw [hs])]
      by_cases e : p + zSize (zRowAt W w) = zSize v
      · rw [if_pos (by rw [e]), rQ_e hW C hw hst e, rY_e hW C hw hst e]
        refine ⟨_, rfl, R0.fr (C := [44, 45]) (S := []) (kbFr.w (kbFr.x kbFr.rf (by decide)) (by decide)) (by decide), kW_at, by rw [kW_2]; exact kX_at, fun j hj => ?_⟩
        rw [kW_no hj, kX_1, kW_2, kX_no hj]; exact o1 j hj
      · obtain ⟨ν, q1, q2, q3, q4, q5⟩ := c_lw_in hn hW hC R0 (w := w) (cell := p * 10 + w) (e := p + zSize (zRowAt W w)) hv hw (by omega) h kW_at z44 (fun x hx => ⟨by omega, by
          rw [(o1 _ (by omega)).1, (o1 _ (by omega)).2]
          exact hL _ x (by omega) h hx⟩)
        rw [if_neg (by rw [nI_eq (by omega) (by omega)]; exact e), q1, kn_bs, rQ_s hW C hw hst e, rY_s hW C hw hst e]
        exact ⟨ν, rfl, q2, q3, q4, fun j hj => by rw [(q5 j hj).1, (q5 j hj).2]; exact o1 j hj⟩
    · have hst : zSa W v p w = false := by unfold zSa; rw [decide_eq_true h, beq_eq_false_iff_ne.mpr hs]; rfl
      rw [if_neg (by rw [nI_eq (by omega) (by omega)]; exact hs), rQ_f C hst, rY_f C hst]
      exact ⟨_, rfl, R0, kW_at, z44, o1⟩
  · have hst : zSa W v p w = false := by unfold zSa; rw [decide_eq_false h]; rfl
    rw [if_pos (by rw [nI_ltI (by omega) (by omega)]; omega), rQ_f C hst, rY_f C hst]
    exact ⟨_, rfl, R0, kW_at, z44, o1⟩
theorem c_lay_w {n : Nat} (hn : 1000 ≤ n) {μ : kbM} {W : zW} {C : List Int} (hW : zWok W) (hC : zCok C) (hR : cRule μ W C) {v p : Nat} (hv : v ≤ 244140624) (hp : p ≤ zSize v) (hL : cLaid μ W C v (p + 1)) : ∃ ν, lp_SP_lay_14 n (nI v) (nI (zSize v)) (nI p) n 0 μ = some ν ∧ cRule ν W C ∧ cLaid ν W C v p := by
  have h10 := hW.1
  have h12 := zSize_12.mpr hv
  exact kn_for (fun k (s : Int32 × kbM) => lp_SP_lay_14 n (nI v) (nI (zSize v)) (nI p) k s.1 s.2) (fun i s => s.1 = nI i ∧ cRule s.2 W C ∧ cLaid s.2 W C v (p + 1) ∧ ∀ w, w < i → s.2.1 45 (p * 10 + w) = nI (f0 (rQ W C v p w)) ∧ s.2.2 44 (p * 10 + w) = zL (rY W C v p w)) W.length (fun ν => cRule ν W C ∧ cLaid ν W C v p)
    (fun k s hs => by
      obtain ⟨y, ν⟩ := s
      simp only at hs
      obtain ⟨rfl, q1, q2, q3⟩ := hs
      refine ⟨ν, ?_, q1, fun a w h1 h2 h3 => ?_⟩
      · simp only [lp_SP_lay_14]
        rw [q1.1.1, if_pos (by rw [nI_leI (by omega) (by omega)]; omega)]
      · by_cases e : a = p
        · subst e; exact q3 w h3
        · exact q2 a w (by omega) h2 h3)
    (fun k i s hi hs => by
      obtain ⟨y, ν⟩ := s
      simp only at hs
      obtain ⟨rfl, q1, q2, q3⟩ := hs
      obtain ⟨ν1, e1, e2, e3, e4, e5⟩ := c_layWord hn hW hC q1 hv hp hi q2
      refine Or.inr ⟨(nI (i + 1), ν1), ?_, rfl, e2, fun a w h1 h2 h3 => ?_, fun w hw => ?_⟩
      · simp only [lp_SP_lay_14]
        rw [q1.1.1, if_neg (by rw [nI_leI (by omega) (by omega)]; omega), e1, kn_bs, nI_1]
      · simp only
        rw [(e5 _ (by omega)).1, (e5 _ (by omega)).2]; exact q2 a w h1 h2 h3
      · simp only
        by_cases e : w = i
        · subst e; exact ⟨e3, e4⟩
        · rw [(e5 _ (by omega)).1, (e5 _ (by omega)).2]; exact q3 w (by omega))
    W.length 0 n (0, μ) (by omega) (by omega) ⟨rfl, hR, hL, fun w hw => absurd hw (Nat.not_lt_zero w)⟩
theorem c_lay {n : Nat} (hn : 1000 ≤ n) {μ : kbM} {W : zW} {C : List Int} (hW : zWok W) (hC : zCok C) (hR : cRule μ W C) {v : Nat} (hv : v ≤ 244140624) : ∃ ν, f_SP_lay n (nI v) μ = some ν ∧ cRule ν W C ∧ cLaid ν W C v 0 := by
  have h12 := zSize_12.mpr hv
  have key : ∀ (c k : Nat) (κ : kbM), c ≤ zSize v + 1 → c < k → cRule κ W C → cLaid κ W C v c → ∃ ν, lp_SP_lay_7 n (nI v) (nI (zSize v)) k (nI c - 1) κ = some ν ∧ cRule ν W C ∧ cLaid ν W C v 0 := by
    intro c
    induction c with
    | zero =>
      intro k κ _ hk h1 h2
      obtain ⟨k, rfl⟩ : ∃ q, k = q + 1 := ⟨k - 1, by omega⟩
      refine ⟨κ, ?_, h1, h2⟩
      simp only [lp_SP_lay_7]
      rw [kn_m1, if_pos kn_m1lt]
    | succ c ih =>
      intro k κ hc hk h1 h2
      obtain ⟨k, rfl⟩ : ∃ q, k = q + 1 := ⟨k - 1, by omega⟩
      obtain ⟨κ1, e1, e2, e3⟩ := c_lay_w hn hW hC h1 hv (p := c) (by omega) h2
      obtain ⟨ν, e4, e5⟩ := ih k κ1 (by omega) (by omega) e2 e3
      refine ⟨ν, ?_, e5⟩
      simp only [lp_SP_lay_7]
      rw [nI_pred, if_neg (nI_pos (by omega)), e1, kn_bs, kn_dec]
      exact e4
  obtain ⟨ν, e1, e2⟩ := key (zSize v + 1) n μ (Nat.le_refl _) (by omega) hR (fun a w h1 h2 _ => absurd h1 (by omega))
  refine ⟨ν, ?_, e2⟩
  unfold f_SP_lay
  rw [ro_size (by omega) hv, kn_bs]
  rw [nI_pred] at e1
  rw [e1, kn_bs]
