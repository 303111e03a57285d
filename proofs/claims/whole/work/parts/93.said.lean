/-! SAID: the most worth -/
def oMax : Option Nat → Option Nat → Option Nat
  | none, y => y
  | some x, none => some x
  | some x, some y => some (max x y)
def oAdd (wt : Nat → Nat) (w : Nat) (o : Option Nat) : Option Nat := match o with | none => none | some m => some (m + wt w)
theorem oLaw (wt : Nat → Nat) : zLaw oMax none (oAdd wt) := by
  refine ⟨?_, ?_, ?_, ?_, ?_, ?_⟩
  · intro x y
    rcases x with _ | x <;> rcases y with _ | y <;> first | rfl | (show some _ = some _; congr 1; omega)
  · intro x y z
    rcases x with _ | x <;> rcases y with _ | y <;> rcases z with _ | z <;> first | rfl | (show some _ = some _; congr 1; omega)
  · intro x; rfl
  · intro w x y
    rcases x with _ | x <;> rcases y with _ | y <;> first | rfl | (show some _ = some _; congr 1; omega)
  · intro w; rfl
  · intro a b x
    rcases x with _ | x <;> first | rfl | (show some _ = some _; congr 1; omega)
def oLe (b : Nat) (o : Option Nat) : Prop := ∀ m, o = some m → m ≤ b
theorem oLe_none (b : Nat) : oLe b none := fun m h => by cases h
theorem oLe_some {b m : Nat} (h : m ≤ b) : oLe b (some m) := fun q hq => by cases hq; exact h
theorem oLe_max {b : Nat} {x y : Option Nat} (hx : oLe b x) (hy : oLe b y) : oLe b (oMax x y) := by
  rcases x with _ | x <;> rcases y with _ | y
  · exact hx
  · exact hy
  · exact hx
  · have h1 := hx x rfl
    have h2 := hy y rfl
    exact oLe_some (by omega)
theorem oLe_mono {a b : Nat} (h : a ≤ b) {x : Option Nat} (hx : oLe a x) : oLe b x := fun m hm => Nat.le_trans (hx m hm) h
theorem zBig_pres {T : Type} {op : T → T → T} {zr : T} (Q : T → Prop) (h0 : Q zr) (hop : ∀ x y, Q x → Q y → Q (op x y)) {f : Nat → T} {c : Nat} (hf : ∀ i, i < c → Q (f i)) : Q (zBig op zr f c) := by
  induction c with
  | zero => exact h0
  | succ c ih => rw [zBig_s]; exact hop _ _ (ih fun i hi => hf i (by omega)) (hf c (by omega))
theorem m1_lt {y : Nat} (h : y < 2 ^ 31) : (-1 : Int32) < nI y := Int32.lt_iff_toInt_lt.mpr (by
  rw [nI_toInt h]
  have : (-1 : Int32).toInt = -1 := by decide
  omega)
theorem m1_gt {y : Nat} (h : y < 2 ^ 31) : ¬ nI y < (-1 : Int32) := fun q => by
  have := Int32.lt_iff_toInt_lt.mp q
  rw [nI_toInt h] at this
  have : (-1 : Int32).toInt = -1 := by decide
  omega
theorem kb_max {x y : Option Nat} (hx : oLe 100000 x) (hy : oLe 100000 y) : kbMax (zFewI x) (zFewI y) = zFewI (oMax x y) := by
  unfold kbMax
  rcases x with _ | x <;> rcases y with _ | y
  · rfl
  · have := hy y rfl
    exact if_pos (m1_lt (by omega))
  · have := hx x rfl
    exact if_neg (m1_gt (by omega))
  · have h1 := hx x rfl
    have h2 := hy y rfl
    show (if nI x < nI y then nI y else nI x) = nI (max x y)
    by_cases h : x < y
    · rw [if_pos (by rw [nI_ltI (by omega) (by omega)]; exact h), Nat.max_eq_right (by omega)]
    · rw [if_neg (by rw [nI_ltI (by omega) (by omega)]; exact h), Nat.max_eq_left (by omega)]
def sN (W : zW) (C : List Int) (s a : Nat) : Option Nat := zNf oMax none (some 0) (oAdd (zWorthAt W)) (zJoin W C) (fun i => zSize (zRowAt W i)) W.length s a
def sM (W : zW) (C : List Int) (s a : Nat) : Option Nat := zNl oMax none (some 0) (oAdd (zWorthAt W)) (zJoin W C) (fun i => zSize (zRowAt W i)) W.length s a
theorem zWok.sz {W : zW} (h : zWok W) : ∀ i, i < W.length → 0 < zSize (zRowAt W i) := fun _ hi => (h.at hi).1.size.2.1
theorem zWok.s6 {W : zW} (h : zWok W) {i : Nat} (hi : i < W.length) : zSize (zRowAt W i) ≤ 6 := (h.at hi).1.size.1
theorem sN_1 {W : zW} (hW : zWok W) (C : List Int) {s a : Nat} (ha : a < W.length) (h : zSize (zRowAt W a) < s) : sN W C s a = zBig oMax none (fun v => if zJoin W C a v = true then oAdd (zWorthAt W) a (sN W C (s - zSize (zRowAt W a)) v) else none) W.length := zNf_1 (oLaw _) (hW.sz a ha) h
theorem sN_2 {W : zW} (C : List Int) {s a : Nat} (ha : a < W.length) (h : ¬ zSize (zRowAt W a) < s) : sN W C s a = if s = zSize (zRowAt W a) then oAdd (zWorthAt W) a (some 0) else none := zNf_2 (oLaw _) ha h
theorem sM_1 {W : zW} (hW : zWok W) (C : List Int) {s a : Nat} (ha : a < W.length) (h : zSize (zRowAt W a) < s) : sM W C s a = zBig oMax none (fun v => if zJoin W C v a = true then oAdd (zWorthAt W) a (sM W C (s - zSize (zRowAt W a)) v) else none) W.length := zNl_1 (oLaw _) hW.sz ha h
theorem sM_2 {W : zW} (hW : zWok W) (C : List Int) {s a : Nat} (ha : a < W.length) (h : ¬ zSize (zRowAt W a) < s) : sM W C s a = if s = zSize (zRowAt W a) then oAdd (zWorthAt W) a (some 0) else none := zNl_2 (oLaw _) hW.sz ha h
theorem oLe_add {W : zW} (hW : zWok W) {b w : Nat} {x : Option Nat} (h : oLe b x) : oLe (b + 99) (oAdd (zWorthAt W) w x) := by
  have := zWorth_le hW w
  rcases x with _ | x
  · exact oLe_none _
  · have := h x rfl
    exact oLe_some (by omega)
theorem sN_le {W : zW} (hW : zWok W) (C : List Int) : ∀ s a, a < W.length → oLe (99 * s) (sN W C s a) := by
  intro s
  induction s using Nat.strongRecOn with
  | ind s ih =>
    intro a ha
    have z0 := hW.sz a ha
    by_cases h : zSize (zRowAt W a) < s
    · rw [sN_1 hW C ha h]
      refine zBig_pres (oLe (99 * s)) (oLe_none _) (fun x y => oLe_max) (fun v hv => ?_)
      split
      · exact oLe_mono (by omega) (oLe_add hW (ih (s - zSize (zRowAt W a)) (by omega) v hv))
      · exact oLe_none _
    · rw [sN_2 C ha h]
      split
      · exact oLe_mono (by omega) (oLe_add hW (oLe_some (Nat.le_refl 0)))
      · exact oLe_none _
theorem sM_le {W : zW} (hW : zWok W) (C : List Int) : ∀ s a, a < W.length → oLe (99 * s) (sM W C s a) := by
  intro s
  induction s using Nat.strongRecOn with
  | ind s ih =>
    intro a ha
    have z0 := hW.sz a ha
    by_cases h : zSize (zRowAt W a) < s
    · rw [sM_1 hW C ha h]
      refine zBig_pres (oLe (99 * s)) (oLe_none _) (fun x y => oLe_max) (fun v hv => ?_)
      split
      · exact oLe_mono (by omega) (oLe_add hW (ih (s - zSize (zRowAt W a)) (by omega) v hv))
      · exact oLe_none _
    · rw [sM_2 hW C ha h]
      split
      · exact oLe_mono (by omega) (oLe_add hW (oLe_some (Nat.le_refl 0)))
      · exact oLe_none _
/-- the most of all that have fewer than m sounds -/
def sR (W : zW) (C : List Int) (m : Nat) : Option Nat := zFold (fun s r => oMax r (zBig oMax none (fun w => sN W C s w) W.length)) (some 0) m
theorem sR_s (W : zW) (C : List Int) (m : Nat) : sR W C (m + 1) = oMax (sR W C m) (zBig oMax none (fun w => sN W C m w) W.length) := rfl
theorem sT_le {W : zW} (hW : zWok W) (C : List Int) {s : Nat} (hs : s ≤ 12) {c : Nat} (hc : c ≤ W.length) : oLe 1188 (zBig oMax none (fun w => sN W C s w) c) := zBig_pres (oLe 1188) (oLe_none _) (fun x y => oLe_max) (fun v hv => oLe_mono (by omega) (sN_le hW C s v (by omega)))
theorem sR_le {W : zW} (hW : zWok W) (C : List Int) : ∀ m, m ≤ 13 → oLe 1188 (sR W C m) := by
  intro m
  induction m with
  | zero => intro _; exact oLe_some (by omega)
  | succ m ih => intro hm; rw [sR_s]; exact oLe_max (ih (by omega)) (sT_le hW C (by omega) (Nat.le_refl _))
theorem sR_1 {W : zW} (hW : zWok W) (C : List Int) : sR W C 1 = some 0 := by
  rw [sR_s, zBig_congr (g := fun _ => none) (fun a ha => by
    have := hW.sz a ha
    rw [sN_2 C ha (by omega), if_neg (by omega)]), zBig_zr (oLaw (zWorthAt W))]
  rfl
theorem zFewI_m1 {x : Option Nat} (h : oLe 100000 x) : zFewI x = -1 ↔ x = none := by
  rcases x with _ | x
  · simp [zFewI]
  · have := h x rfl
    simp only [zFewI]
    rw [kn_nm1 (by omega)]
    simp
theorem kn_subneg {a b : Nat} (h : a < b) (hb : b < 2 ^ 30) : nI a - nI b ≤ 0 ∧ ¬ nI a - nI b = 0 := by
  have e := pk_sub_toInt (a := a) (b := b) (by omega) hb
  have z : (0 : Int32).toInt = 0 := by decide
  refine ⟨Int32.le_iff_toInt_le.mpr (by omega), fun q => ?_⟩
  rw [q] at e
  omega
def cTab (μ : kbM) (W : zW) (C : List Int) (s : Nat) : Prop := ∀ s' w, 0 < s' → s' < s → w < W.length → μ.1 45 (s' * 10 + w) = zFewI (sN W C s' w)
theorem c_worth_in {n : Nat} (hn : 1000 ≤ n) {μ : kbM} {W : zW} {C : List Int} (hW : zWok W) (hC : zCok C) (hR : cRule μ W C) {w cell rest : Nat} (hw : w < W.length) (hcell : cell < 130) (hr0 : 0 < rest) (hr : rest < 13) (h1 : μ.1 45 cell = -1) (h2 : ∀ v, v < W.length → rest * 10 + v ≠ cell ∧ μ.1 45 (rest * 10 + v) = zFewI (sN W C rest v)) : ∃ ν, lp_SP_layWorth_47 n (nI w) (nI cell) (nI rest) n 0 μ = some ν ∧ cRule ν W C ∧ ν.1 45 cell = zFewI (zBig oMax none (fun v => if zJoin W C w v = true then oAdd (zWorthAt W) w (sN W C rest v) else none) W.length) ∧ ∀ j, j ≠ cell → ν.1 45 j = μ.1 45 j := by
  have h10 := hW.1
  exact kn_for (fun k (s : Int32 × kbM) => lp_SP_layWorth_47 n (nI w) (nI cell) (nI rest) k s.1 s.2) (fun i s => s.1 = nI i ∧ cRule s.2 W C ∧ s.2.1 45 cell = zFewI (zBig oMax none (fun v => if zJoin W C w v = true then oAdd (zWorthAt W) w (sN W C rest v) else none) i) ∧ ∀ j, j ≠ cell → s.2.1 45 j = μ.1 45 j) W.length (fun ν => cRule ν W C ∧ ν.1 45 cell = zFewI (zBig oMax none (fun v => if zJoin W C w v = true then oAdd (zWorthAt W) w (sN W C rest v) else none) W.length) ∧ ∀ j, j ≠ cell → ν.1 45 j = μ.1 45 j)
    (fun k s hs => by
      obtain ⟨v, ν⟩ := s
      simp only at hs
      obtain ⟨rfl, q1, q2, q3⟩ := hs
      refine ⟨ν, ?_, q1, q2, q3⟩
      simp only [lp_SP_layWorth_47]
      rw [if_neg (by rw [kn_le0 (by omega)]; omega), q1.1.1, if_pos (by rw [nI_leI (by omega) (by omega)]; omega)])
    (fun k i s hi hs => by
      obtain ⟨v, ν⟩ := s
      simp only at hs
      obtain ⟨rfl, q1, q2, q3⟩ := hs
      have hv := h2 i hi
      have ev : ν.1 45 (rest * 10 + i) = zFewI (sN W C rest i) := by rw [q3 _ hv.1]; exact hv.2
      have hle := oLe_mono (show 99 * rest ≤ 100000 by omega) (sN_le hW C rest i hi)
      rw [zBig_s]
      have hXle : oLe 100000 (zBig oMax none (fun v => if zJoin W C w v = true then oAdd (zWorthAt W) w (sN W C rest v) else none) i) := zBig_pres (oLe 100000) (oLe_none _) (fun x y => oLe_max) (fun v hv => by
        split
        · exact oLe_mono (show 99 * rest + 99 ≤ 100000 by omega) (oLe_add hW (sN_le hW C rest v (by omega)))
        · exact oLe_none _)
      generalize zBig oMax none (fun v => if zJoin W C w v = true then oAdd (zWorthAt W) w (sN W C rest v) else none) i = X at q2 hXle
      have hXn : oMax X none = X := (oLaw (zWorthAt W)).zr_r X
      have pre : ∀ o, lp_SP_layWorth_47 n (nI w) (nI cell) (nI rest) (k + 1) (nI i) ν = o ↔ (if zFewI (sN W C rest i) = -1 then lp_SP_layWorth_47 n (nI w) (nI cell) (nI rest) k (nI (i + 1)) ν else (f_JO_mayFollow n (nI w) (nI i) ν).bind fun x1 => if x1.1 = 0 then lp_SP_layWorth_47 n (nI w) (nI cell) (nI rest) k (nI (i + 1)) x1.2 else lp_SP_layWorth_47 n (nI w) (nI cell) (nI rest) k (nI (i + 1)) (kbW x1.2 45 cell (kbMax (x1.2.1 45 cell) (zFewI (sN W C rest i) + x1.2.1 17 w)))) = o := by
        intro o
        simp only [lp_SP_layWorth_47, jn_SP_layWorth_125]
        rw [if_neg (by rw [kn_le0 (by omega)]; omega), q1.1.1, if_neg (by rw [nI_leI (by omega) (by omega)]; omega), kl_10, pk_mul, nI_add, kn_inT (by omega) (by omega), kn_if_t, nI_clamp (by omega), ev, nI_1, kn_inT (show cell < 130 by omega) (by omega), kn_inT (show w < 10 by omega) (by omega), nI_clamp (by omega), nI_clamp (by omega)]
        simp only [kn_if_t]
      obtain ⟨ν1, e1, r1⟩ := jo_may (n := n) (by omega) h10 hw hi hC q1
      have f1 := fr_f_JO_mayFollow e1
      have n45 : ν1.1 45 = ν.1 45 := fr_at f1 (by decide) (by decide)
      have wo := (r1.1.2 w hw).2.2.2
      refine Or.inr ?_
      cases hsn : sN W C rest i with
      | none =>
        refine ⟨(nI (i + 1), ν), ?_, rfl, q1, ?_, q3⟩
        · simp only; rw [pre, hsn, if_pos (show zFewI none = -1 from rfl)]
        · simp only; rw [q2, show (if zJoin W C w i = true then oAdd (zWorthAt W) w none else none) = none by cases zJoin W C w i <;> rfl, hXn]
      | some m =>
        have hm := sN_le hW C rest i hi m hsn
        cases hj : zJoin W C w i
        · rw [hj] at e1
          refine ⟨(nI (i + 1), ν1), ?_, rfl, r1, ?_, fun j hj => by simp only; rw [n45]; exact q3 j hj⟩
          · simp only; rw [pre, hsn, if_neg (by simp only [zFewI]; rw [kn_nm1 (by omega)]; exact id), e1, kn_bs]
            simp only [zB1f, if_true]
          · simp only; rw [n45, q2, if_neg (by decide), hXn]
        · rw [hj] at e1
          have hwo := zWorth_le hW w
          have v1 : zFewI (some m) + nI (zWorthAt W w) = zFewI (oAdd (zWorthAt W) w (some m)) := by simp only [zFewI, oAdd]; rw [nI_add]
          have v2 : kbMax (zFewI X) (zFewI (oAdd (zWorthAt W) w (some m))) = zFewI (oMax X (oAdd (zWorthAt W) w (some m))) := kb_max hXle (oLe_some (by omega))
          refine ⟨(nI (i + 1), kbW ν1 45 cell (zFewI (oMax X (oAdd (zWorthAt W) w (some m))))), ?_, rfl, ?_, ?_, fun j hj => by simp only; rw [kW_no hj, n45]; exact q3 j hj⟩
          · simp only; rw [pre, hsn, if_neg (by simp only [zFewI]; rw [kn_nm1 (by omega)]; exact id), e1, kn_bs]
            simp only
            rw [if_neg zT0, n45, q2, wo, v1, v2]
          · exact r1.fr (C := [45]) (S := []) (kbFr.w kbFr.rf (by decide)) (by decide)
          · simp only [↓reduceIte]; exact kW_at)
    W.length 0 n (0, μ) (by omega) (by omega) ⟨rfl, hR, h1, fun j _ => rfl⟩
theorem c_layWorth {n : Nat} (hn : 1000 ≤ n) {μ : kbM} {W : zW} {C : List Int} (hW : zWok W) (hC : zCok C) (hR : cRule μ W C) {w len : Nat} (hw : w < W.length) (hl0 : 0 < len) (hl : len ≤ 12) (hT : cTab μ W C len) : ∃ ν, f_SP_layWorth n (nI len) (nI w) μ = some ν ∧ cRule ν W C ∧ ν.1 45 (len * 10 + w) = zFewI (sN W C len w) ∧ ∀ j, j ≠ len * 10 + w → ν.1 45 j = μ.1 45 j := by
  have h10 := hW.1
  have z0 := hW.sz w hw
  have z6 := hW.s6 hw
  have pre : ∀ v : Int32, cRule (kbW μ 45 (len * 10 + w) v) W C := fun v => hR.fr (C := [45]) (S := []) (kbFr.w kbFr.rf (by decide)) (by decide)
  obtain ⟨n', rfl⟩ : ∃ q, n = q + 1 := ⟨n - 1, by omega⟩
  unfold f_SP_layWorth jn_SP_layWorth_43 jn_SP_layWorth_131
  rw [kl_10, pk_mul, nI_add, kn_inT (show w < 10 by omega) (by omega), kn_inT (show len * 10 + w < 130 by omega) (by omega), nI_clamp (show w < 2 ^ 31 by omega), nI_clamp (show len * 10 + w < 2 ^ 31 by omega), (hR.1.2 w hw).2.1, (hR.1.2 w hw).2.2.2]
  simp only [kn_if_t]
  by_cases h1 : zSize (zRowAt W w) < len
  · obtain ⟨ν, e1, e2, e3, e4⟩ := c_worth_in hn hW hC (pre (-1)) (w := w) (cell := len * 10 + w) (rest := len - zSize (zRowAt W w)) hw (by omega) (by omega) (by omega) kW_at (fun v hv => ⟨by omega, by rw [kW_no (by omega)]; exact hT _ v (by omega) (by omega) hv⟩)
    rw [pk_sub (by omega), if_neg (by rw [kn_eq0 (by omega)]; omega), e1, kn_bs]
    exact ⟨ν, rfl, e2, by rw [e3, sN_1 hW C hw h1], fun j hj => by rw [e4 j hj, kW_no hj]⟩
  · rw [sN_2 C hw h1]
    by_cases h2 : len = zSize (zRowAt W w)
    · rw [if_pos h2, pk_sub (by omega), if_pos (by rw [kn_eq0 (by omega)]; omega)]
      refine ⟨kbW μ 45 (len * 10 + w) (nI (zWorthAt W w)), ?_, pre _, ?_, fun j hj => kW_no hj⟩
      · simp only [lp_SP_layWorth_47]
        rw [if_pos (by rw [kn_le0 (by omega)]; omega), kn_bs]
      · rw [kW_at]; simp only [oAdd, zFewI]; rw [Nat.zero_add]
    · have sn := kn_subneg (show len < zSize (zRowAt W w) by omega) (by omega)
      rw [if_neg h2, if_neg sn.2]
      refine ⟨kbW μ 45 (len * 10 + w) (-1), ?_, pre _, kW_at, fun j hj => kW_no hj⟩
      simp only [lp_SP_layWorth_47]
      rw [if_pos sn.1, kn_bs]
theorem c_most_in {n : Nat} (hn : 1000 ≤ n) (z : Int32) {μ : kbM} {W : zW} {C : List Int} (hW : zWok W) (hC : zCok C) (hR : cRule μ W C) {len : Nat} (hl0 : 0 < len) (hl : len ≤ 12) (hT : cTab μ W C len) {r : Option Nat} (hr : oLe 1188 r) : ∃ x, lp_SP_mostWorth_12 n z (nI len) n (zFewI r) 0 μ = some x ∧ x.1 = zFewI (oMax r (zBig oMax none (fun w => sN W C len w) W.length)) ∧ cRule x.2 W C ∧ cTab x.2 W C (len + 1) := by
  have h10 := hW.1
  exact kn_for (fun k (s : Int32 × Int32 × kbM) => lp_SP_mostWorth_12 n z (nI len) k s.1 s.2.1 s.2.2) (fun i s => s.1 = zFewI (oMax r (zBig oMax none (fun w => sN W C len w) i)) ∧ s.2.1 = nI i ∧ cRule s.2.2 W C ∧ cTab s.2.2 W C len ∧ ∀ w, w < i → s.2.2.1 45 (len * 10 + w) = zFewI (sN W C len w)) W.length (fun x => x.1 = zFewI (oMax r (zBig oMax none (fun w => sN W C len w) W.length)) ∧ cRule x.2 W C ∧ cTab x.2 W C (len + 1))
    (fun k s hs => by
      obtain ⟨v, u, ν⟩ := s
      simp only at hs
      obtain ⟨rfl, rfl, q1, q2, q3⟩ := hs
      refine ⟨(zFewI (oMax r (zBig oMax none (fun w => sN W C len w) W.length)), ν), ?_, rfl, q1, fun s' w h1 h2 h3 => ?_⟩
      · simp only [lp_SP_mostWorth_12]
        rw [q1.1.1, if_pos (by rw [nI_leI (by omega) (by omega)]; omega)]
      · by_cases e : s' = len
        · subst e; exact q3 w h3
        · exact q2 s' w h1 (by omega) h3)
    (fun k i s hi hs => by
      obtain ⟨v, u, ν⟩ := s
      simp only at hs
      obtain ⟨rfl, rfl, q1, q2, q3⟩ := hs
      obtain ⟨ν1, e1, e2, e3, e4⟩ := c_layWorth hn hW hC q1 hi hl0 hl q2
      refine Or.inr ⟨(zFewI (oMax r (zBig oMax none (fun w => sN W C len w) (i + 1))), nI (i + 1), ν1), ?_, rfl, rfl, e2, fun s' w h1 h2 h3 => ?_, fun w hw => ?_⟩
      · simp only [lp_SP_mostWorth_12]
        rw [q1.1.1, if_neg (by rw [nI_leI (by omega) (by omega)]; omega), e1, kn_bs, kl_10, pk_mul, nI_add, kn_inT (by omega) (by omega), kn_if_t, nI_clamp (by omega), e3, nI_1, kb_max (oLe_mono (by omega) (oLe_max hr (sT_le hW C hl (by omega)))) (oLe_mono (by omega) (sN_le hW C len i hi)), (oLaw (zWorthAt W)).2.1]
        rfl
      · simp only
        rw [e4 _ (by omega)]; exact q2 s' w h1 h2 h3
      · simp only
        by_cases e : w = i
        · subst e; exact e3
        · rw [e4 _ (by omega)]; exact q3 w (by omega))
    W.length 0 n (zFewI r, 0, μ) (by omega) (by omega) ⟨by show zFewI r = zFewI (oMax r none); rw [(oLaw (zWorthAt W)).zr_r], rfl, hR, hT, fun w hw => absurd hw (Nat.not_lt_zero w)⟩
theorem c_most {n : Nat} (hn : 1000 ≤ n) {μ : kbM} {W : zW} {C : List Int} (hW : zWok W) (hC : zCok C) (hR : cRule μ W C) {m : Nat} (hm : m ≤ 12) : ∃ ν, f_SP_mostWorth n (nI m) μ = some (zFewI (sR W C (m + 1)), ν) ∧ cRule ν W C := by
  obtain ⟨x, e1, e2, e3⟩ := kn_for (fun k (s : Int32 × Int32 × kbM) => lp_SP_mostWorth_4 n (nI m) k s.1 s.2.1 s.2.2) (fun i s => s.1 = zFewI (sR W C i) ∧ s.2.1 = nI i ∧ cRule s.2.2 W C ∧ cTab s.2.2 W C i ∧ 0 < i) (m + 1) (fun x => x.1 = zFewI (sR W C (m + 1)) ∧ cRule x.2 W C)
    (fun k s hs => by
      obtain ⟨v, u, ν⟩ := s
      simp only at hs
      obtain ⟨rfl, rfl, q1, q2, q3⟩ := hs
      refine ⟨(zFewI (sR W C (m + 1)), ν), ?_, rfl, q1⟩
      simp only [lp_SP_mostWorth_4]
      rw [if_pos (by rw [nI_ltI (by omega) (by omega)]; omega)])
    (fun k i s hi hs => by
      obtain ⟨v, u, ν⟩ := s
      simp only at hs
      obtain ⟨rfl, rfl, q1, q2, q3⟩ := hs
      obtain ⟨x, e1, e2, e3, e4⟩ := c_most_in hn (nI m) hW hC q1 q3 (by omega) q2 (sR_le hW C i (by omega))
      refine Or.inr ⟨(x.1, nI (i + 1), x.2), ?_, e2, rfl, e3, e4, by omega⟩
      simp only [lp_SP_mostWorth_4]
      rw [if_neg (by rw [nI_ltI (by omega) (by omega)]; omega), e1, kn_bs, nI_1])
    m 1 n (0, 1, μ) (by omega) (by omega) ⟨by rw [sR_1 hW C]; rfl, rfl, hR, fun s' w h1 h2 _ => absurd h2 (by omega), by omega⟩
  refine ⟨x.2, ?_, e3⟩
  unfold f_SP_mostWorth
  rw [show lp_SP_mostWorth_4 n (nI m) n 0 1 μ = some x from e1, kn_bs, e2]
/-! the model's -/
def mTab (μ : kbM) (W : zW) (C : List Int) (s : Nat) : Prop := ∀ s' w, s' < s → w < W.length → μ.1 87 (10 * s' + w) = zFewI (sM W C s' w)
theorem m_said_in {n : Nat} (hn : 1000 ≤ n) (x1 x2 x3 : Int32) {μ : kbM} {W : zW} {C : List Int} (hW : zWok W) (hC : zCok C) (hR : mRule μ W C) {w rest : Nat} (hw : w < W.length) (hr0 : 0 < rest) (hr : rest < 13) (h2 : ∀ v, v < W.length → μ.1 87 (10 * rest + v) = zFewI (sM W C rest v)) : ∃ r, lp_MD_said_79 n x1 x2 x3 (nI w) (nI rest) n (-1) 0 μ = some r ∧ r.1 = zFewI (zBig oMax none (fun v => if zJoin W C v w = true then oAdd (zWorthAt W) w (sM W C rest v) else none) W.length) ∧ mRule r.2 W C := by
  have h10 := hW.1
  exact kn_for (fun k (s : Int32 × Int32 × kbM) => lp_MD_said_79 n x1 x2 x3 (nI w) (nI rest) k s.1 s.2.1 s.2.2) (fun i s => s.1 = zFewI (zBig oMax none (fun v => if zJoin W C v w = true then oAdd (zWorthAt W) w (sM W C rest v) else none) i) ∧ s.2.1 = nI i ∧ mRule s.2.2 W C ∧ s.2.2.1 87 = μ.1 87) W.length (fun r => r.1 = zFewI (zBig oMax none (fun v => if zJoin W C v w = true then oAdd (zWorthAt W) w (sM W C rest v) else none) W.length) ∧ mRule r.2 W C)
    (fun k s hs => by
      obtain ⟨v, u, ν⟩ := s
      simp only at hs
      obtain ⟨rfl, rfl, q1, q2⟩ := hs
      refine ⟨(zFewI (zBig oMax none (fun v => if zJoin W C v w = true then oAdd (zWorthAt W) w (sM W C rest v) else none) W.length), ν), ?_, rfl, q1⟩
      simp only [lp_MD_said_79]
      rw [q1.1.1, if_pos (by rw [nI_leI (by omega) (by omega)]; omega)])
    (fun k i s hi hs => by
      obtain ⟨v, u, ν⟩ := s
      simp only at hs
      obtain ⟨rfl, rfl, q1, q2⟩ := hs
      have ev : ν.1 87 (10 * rest + i) = zFewI (sM W C rest i) := by rw [q2]; exact h2 i hi
      have hle := oLe_mono (show 99 * rest ≤ 100000 by omega) (sM_le hW C rest i hi)
      rw [zBig_s]
      have hXle : oLe 100000 (zBig oMax none (fun v => if zJoin W C v w = true then oAdd (zWorthAt W) w (sM W C rest v) else none) i) := zBig_pres (oLe 100000) (oLe_none _) (fun x y => oLe_max) (fun v hv => by
        split
        · exact oLe_mono (show 99 * rest + 99 ≤ 100000 by omega) (oLe_add hW (sM_le hW C rest v (by omega)))
        · exact oLe_none _)
      generalize zBig oMax none (fun v => if zJoin W C v w = true then oAdd (zWorthAt W) w (sM W C rest v) else none) i = X at hXle
      have hXn : oMax X none = X := (oLaw (zWorthAt W)).zr_r X
      obtain ⟨ν1, e1, r1⟩ := md_joins (n := n) (by omega) hW hi hw hC q1
      have f1 := fr_f_MD_joins e1
      have n87 : ν1.1 87 = ν.1 87 := fr_at f1 (by decide) (by decide)
      have wo := (r1.1.2 w hw).2.2
      have pre : ∀ o, lp_MD_said_79 n x1 x2 x3 (nI w) (nI rest) (k + 1) (zFewI X) (nI i) ν = o ↔ (if zFewI (sM W C rest i) < 0 then lp_MD_said_79 n x1 x2 x3 (nI w) (nI rest) k (zFewI X) (nI (i + 1)) ν else if zB (zJoin W C i w) = 0 then lp_MD_said_79 n x1 x2 x3 (nI w) (nI rest) k (zFewI X) (nI (i + 1)) ν1 else lp_MD_said_79 n x1 x2 x3 (nI w) (nI rest) k (kbMax (zFewI X) (zFewI (sM W C rest i) + nI (zWorthAt W w))) (nI (i + 1)) ν1) = o := by
        intro o
        simp only [lp_MD_said_79, jn_MD_said_148]
        rw [q1.1.1, if_neg (by rw [nI_leI (by omega) (by omega)]; omega), if_neg (by rw [kn_le0 (by omega)]; omega), kl_10, pk_mul, nI_add, kn_inT (by omega) (by omega), kn_if_t, nI_clamp (by omega), ev, e1, kn_bs, kn_inT (show w < 10 by omega) (by omega), nI_clamp (by omega)]
        simp only
        rw [n87, ev, wo, nI_1]
        simp only [kn_if_t]
      refine Or.inr ?_
      cases hsn : sM W C rest i with
      | none =>
        refine ⟨(zFewI X, nI (i + 1), ν), ?_, ?_, rfl, q1, q2⟩
        · simp only; rw [pre, hsn, if_pos (by decide)]
        · simp only; rw [show (if zJoin W C i w = true then oAdd (zWorthAt W) w none else none) = none by cases zJoin W C i w <;> rfl, hXn]
      | some m =>
        have hm := sM_le hW C rest i hi m hsn
        cases hj : zJoin W C i w
        · refine ⟨(zFewI X, nI (i + 1), ν1), ?_, ?_, rfl, r1, n87.trans q2⟩
          · simp only; rw [pre, hsn, hj, if_neg (by simp only [zFewI]; rw [kn_lt0 (by omega)]; exact id), if_pos zF0]
          · simp only; rw [if_neg (by decide), hXn]
        · have hwo := zWorth_le hW w
          have v1 : zFewI (some m) + nI (zWorthAt W w) = zFewI (oAdd (zWorthAt W) w (some m)) := by simp only [zFewI, oAdd]; rw [nI_add]
          have v2 : kbMax (zFewI X) (zFewI (oAdd (zWorthAt W) w (some m))) = zFewI (oMax X (oAdd (zWorthAt W) w (some m))) := kb_max hXle (oLe_some (by omega))
          refine ⟨(zFewI (oMax X (oAdd (zWorthAt W) w (some m))), nI (i + 1), ν1), ?_, ?_, rfl, r1, n87.trans q2⟩
          · simp only; rw [pre, hsn, hj, if_neg (by simp only [zFewI]; rw [kn_lt0 (by omega)]; exact id), if_neg zT0, v1, v2]
          · simp only [↓reduceIte])
    W.length 0 n (-1, 0, μ) (by omega) (by omega) ⟨rfl, rfl, hR, rfl⟩
theorem m_said_w {n : Nat} (hn : 1000 ≤ n) (z : Int32) {μ : kbM} {W : zW} {C : List Int} (hW : zWok W) (hC : zCok C) (hR : mRule μ W C) {s : Nat} (hs : s ≤ 12) (hT : mTab μ W C s) {r : Option Nat} (hr : oLe 1188 r) : ∃ x, lp_MD_said_35 n z (nI s) n (zFewI r) 0 μ = some x ∧ x.1 = zFewI (oMax r (zBig oMax none (fun w => sM W C s w) W.length)) ∧ mRule x.2 W C ∧ mTab x.2 W C (s + 1) := by
  have h10 := hW.1
  exact kn_for (fun k (x : Int32 × Int32 × kbM) => lp_MD_said_35 n z (nI s) k x.1 x.2.1 x.2.2) (fun i x => x.1 = zFewI (oMax r (zBig oMax none (fun w => sM W C s w) i)) ∧ x.2.1 = nI i ∧ mRule x.2.2 W C ∧ mTab x.2.2 W C s ∧ ∀ w, w < i → x.2.2.1 87 (10 * s + w) = zFewI (sM W C s w)) W.length (fun x => x.1 = zFewI (oMax r (zBig oMax none (fun w => sM W C s w) W.length)) ∧ mRule x.2 W C ∧ mTab x.2 W C (s + 1))
    (fun k x hx => by
      obtain ⟨v, u, ν⟩ := x
      simp only at hx
      obtain ⟨rfl, rfl, q1, q2, q3⟩ := hx
      refine ⟨(zFewI (oMax r (zBig oMax none (fun w => sM W C s w) W.length)), ν), ?_, rfl, q1, fun s' w h2 h3 => ?_⟩
      · simp only [lp_MD_said_35]
        rw [q1.1.1, if_pos (by rw [nI_leI (by omega) (by omega)]; omega)]
      · by_cases e : s' = s
        · subst e; exact q3 w h3
        · exact q2 s' w (by omega) h3)
    (fun k i x hi hx => by
      obtain ⟨v, u, ν⟩ := x
      simp only at hx
      obtain ⟨rfl, rfl, q1, q2, q3⟩ := hx
      have z0 := hW.sz i hi
      have z6 := hW.s6 hi
      have hle := oLe_mono (show 99 * s ≤ 100000 by omega) (sM_le hW C s i hi)
      have hTl : oLe 100000 (oMax r (zBig oMax none (fun w => sM W C s w) i)) := oLe_mono (by omega) (oLe_max hr (zBig_pres (oLe 1188) (oLe_none _) (fun x y => oLe_max) (fun v hv => oLe_mono (by omega) (sM_le hW C s v (by omega)))))
      have szi := md_sizeOf (n := n) (by omega) (hW.row hi).2.2
      have fin : ∀ (κ : kbM), mRule κ W C → κ.1 87 = ν.1 87 → jn_MD_said_154 n (lp_MD_said_35 n z (nI s) k) z (zFewI (oMax r (zBig oMax none (fun w => sM W C s w) i))) (nI s) (nI i) (zFewI (sM W C s i)) κ = lp_MD_said_35 n z (nI s) k (zFewI (oMax r (zBig oMax none (fun w => sM W C s w) (i + 1)))) (nI (i + 1)) (kbW κ 87 (10 * s + i) (zFewI (sM W C s i))) ∧ mRule (kbW κ 87 (10 * s + i) (zFewI (sM W C s i))) W C ∧ mTab (kbW κ 87 (10 * s + i) (zFewI (sM W C s i))) W C s ∧ ∀ w, w < i + 1 → (kbW κ 87 (10 * s + i) (zFewI (sM W C s i))).1 87 (10 * s + w) = zFewI (sM W C s w) := by
        intro κ k1 k2
        refine ⟨?_, k1.fr (C := [87]) (S := []) (kbFr.w kbFr.rf (by decide)) (by decide) (by decide), fun s' w h2 h3 => ?_, fun w hw => ?_⟩
        · simp only [jn_MD_said_154]
          rw [kl_10, pk_mul, nI_add, kn_inT (by omega) (by omega), kn_if_t, nI_clamp (by omega), nI_1, kb_max hTl hle, (oLaw (zWorthAt W)).2.1]
          rfl
        · rw [kW_no (by omega), k2]; exact q2 s' w h2 h3
        · by_cases e : w = i
          · subst e; exact kW_at
          · rw [kW_no (by omega), k2]; exact q3 w (by omega)
      have start : lp_MD_said_35 n z (nI s) (k + 1) (zFewI (oMax r (zBig oMax none (fun w => sM W C s w) i))) (nI i) ν = if nI s - nI (zSize (zRowAt W i)) = 0 then jn_MD_said_74 n (lp_MD_said_35 n z (nI s) k) z (zFewI (oMax r (zBig oMax none (fun w => sM W C s w) i))) (nI s) (nI i) (nI s - nI (zSize (zRowAt W i))) (nI (zWorthAt W i)) ν else jn_MD_said_74 n (lp_MD_said_35 n z (nI s) k) z (zFewI (oMax r (zBig oMax none (fun w => sM W C s w) i))) (nI s) (nI i) (nI s - nI (zSize (zRowAt W i))) (-1) ν := by
        simp only [lp_MD_said_35]
        rw [q1.1.1, if_neg (by rw [nI_leI (by omega) (by omega)]; omega), kn_inT (by omega) (by omega), kn_if_t, nI_clamp (by omega), (q1.1.2 i hi).1, szi, kn_bs, (q1.1.2 i hi).2.2, kn_if_t]
      refine Or.inr ?_
      by_cases h1 : zSize (zRowAt W i) < s
      · obtain ⟨y, e1, e2, e3⟩ := m_said_in hn z (zFewI (oMax r (zBig oMax none (fun w => sM W C s w) i))) (nI s) hW hC q1 (w := i) (rest := s - zSize (zRowAt W i)) hi (by omega) (by omega) (fun v hv => q2 _ v (by omega) hv)
        have f := fr_lp_MD_said_79 e1
        rw [← sM_1 hW C hi h1] at e2
        obtain ⟨g1, g2, g3, g4⟩ := fin y.2 e3 (fr_at f (by decide) (by decide))
        refine ⟨(zFewI (oMax r (zBig oMax none (fun w => sM W C s w) (i + 1))), nI (i + 1), kbW y.2 87 (10 * s + i) (zFewI (sM W C s i))), ?_, rfl, rfl, g2, g3, g4⟩
        simp only
        rw [start, pk_sub (by omega), if_neg (by rw [kn_eq0 (by omega)]; omega)]
        unfold jn_MD_said_74
        rw [e1, kn_bs, e2]
        exact g1
      · obtain ⟨g1, g2, g3, g4⟩ := fin ν q1 rfl
        refine ⟨(zFewI (oMax r (zBig oMax none (fun w => sM W C s w) (i + 1))), nI (i + 1), kbW ν 87 (10 * s + i) (zFewI (sM W C s i))), ?_, rfl, rfl, g2, g3, g4⟩
        simp only
        rw [start]
        obtain ⟨n', hn'⟩ : ∃ q, n = q + 1 := ⟨n - 1, by omega⟩
        have stop : ∀ (a b c v : Int32), nI s - nI (zSize (zRowAt W i)) ≤ 0 → lp_MD_said_79 n a b c (nI i) (nI s - nI (zSize (zRowAt W i))) n v 0 ν = some (v, ν) := by
          intro a b c v hle
          rw [show lp_MD_said_79 n a b c (nI i) (nI s - nI (zSize (zRowAt W i))) n v 0 ν = lp_MD_said_79 n a b c (nI i) (nI s - nI (zSize (zRowAt W i))) (n' + 1) v 0 ν by rw [← hn']]
          simp only [lp_MD_said_79]
          by_cases hq : ν.1 57 27 ≤ 0
          · rw [if_pos hq]
          · rw [if_neg hq, if_pos hle]
        have e := sM_2 hW C hi h1
        by_cases h2 : s = zSize (zRowAt W i)
        · rw [if_pos h2] at e
          have e' : zFewI (sM W C s i) = nI (zWorthAt W i) := by rw [e]; simp only [oAdd, zFewI]; rw [Nat.zero_add]
          rw [if_pos (by rw [pk_sub (by omega), kn_eq0 (by omega)]; omega)]
          unfold jn_MD_said_74
          rw [stop _ _ _ _ (by rw [pk_sub (by omega), kn_le0 (by omega)]; omega), kn_bs]
          simp only
          rw [← e']
          exact g1
        · rw [if_neg h2] at e
          have e' : zFewI (sM W C s i) = -1 := by rw [e]; rfl
          have sn := kn_subneg (show s < zSize (zRowAt W i) by omega) (by omega)
          rw [if_neg sn.2]
          unfold jn_MD_said_74
          rw [stop _ _ _ _ sn.1, kn_bs]
          simp only
          rw [← e']
          exact g1)
    W.length 0 n (zFewI r, 0, μ) (by omega) (by omega) ⟨by show zFewI r = zFewI (oMax r none); rw [(oLaw (zWorthAt W)).zr_r], rfl, hR, hT, fun w hw => absurd hw (Nat.not_lt_zero w)⟩
theorem m_most {n : Nat} (hn : 1000 ≤ n) {μ : kbM} {W : zW} {C : List Int} (hW : zWok W) (hC : zCok C) (hR : mRule μ W C) {m : Nat} (hm : m ≤ 12) : ∃ x, lp_MD_said_27 n (nI m) n 0 0 μ = some x ∧ x.1 = zFewI (sR W C (m + 1)) := by
  exact kn_for (fun k (s : Int32 × Int32 × kbM) => lp_MD_said_27 n (nI m) k s.1 s.2.1 s.2.2) (fun i s => s.1 = zFewI (sR W C i) ∧ s.2.1 = nI i ∧ mRule s.2.2 W C ∧ mTab s.2.2 W C i) (m + 1) (fun x => x.1 = zFewI (sR W C (m + 1)))
    (fun k s hs => by
      obtain ⟨v, u, ν⟩ := s
      simp only at hs
      obtain ⟨rfl, rfl, q1, q2⟩ := hs
      refine ⟨(zFewI (sR W C (m + 1)), ν), ?_, rfl⟩
      simp only [lp_MD_said_27]
      rw [if_pos (by rw [nI_ltI (by omega) (by omega)]; omega)])
    (fun k i s hi hs => by
      obtain ⟨v, u, ν⟩ := s
      simp only at hs
      obtain ⟨rfl, rfl, q1, q2⟩ := hs
      obtain ⟨x, e1, e2, e3, e4⟩ := m_said_w hn (nI m) hW hC q1 (s := i) (by omega) q2 (sR_le hW C i (by omega))
      refine Or.inr ⟨(x.1, nI (i + 1), x.2), ?_, ?_, rfl, e3, e4⟩
      · simp only [lp_MD_said_27]
        rw [if_neg (by rw [nI_ltI (by omega) (by omega)]; omega), e1, kn_bs, nI_1]
      · simp only
        rw [e2, sR_s]
        congr 2
        exact (zNf_nl (oLaw _) _ _ _ _).symm)
    (m + 1) 0 n (0, 0, μ) (by omega) (by omega) ⟨rfl, rfl, hR, fun s' w h2 _ => absurd h2 (Nat.not_lt_zero _)⟩
theorem kn_isIn12 (x : Int32) : f_MD_isIn x.toInt64 0 12 = some (zB (zIn x 13)) := by
  have := kn_isIn x (c := 13) (by decide)
  rw [show ((nI 13 - 1).toInt64) = 12 by decide] at this
  exact this
def s_said (A : zA) (u : Int32) : Int32 × Int32 := if zIn u 13 = true then (0, zFewI (sR A.1.1.1 A.2.2.2.1 (u.toNatClampNeg + 1))) else (1, 0)
theorem cl_said {n : Nat} (hn : 1000 ≤ n) {μ : kbM} {A : zA} (hA : zOk A) (h : rC μ A) (u : Int32) : ∃ μ1, f_L_said n u μ = some ((s_said A u).1, μ1) ∧ ((s_said A u).1 = 0 → μ1.2 97 0 = (s_said A u).2.toInt64) ∧ cKnown μ1 A.1.1.1 A.2.2.2.1 := by
  unfold f_L_said f_KB_said s_said jn_KB_said_10
  rcases zIn_cases u (c := 13) (by omega) with ⟨a, ha, rfl⟩ | ⟨h1, h2 | h2⟩
  · obtain ⟨ν, e, r⟩ := c_most hn hA.words hA.code h.rule (m := a) (by omega)
    rw [if_neg (nI_pos (by omega)), kl_12, if_pos (by rw [nI_leI (by omega) (by omega)]; omega), zIn_n (by omega), decide_eq_true ha, if_pos rfl, e, kn_bs, nI_clamp (by omega)]
    exact ⟨_, rfl, fun _ => kX_at, r.2.2⟩
  · rw [if_pos h2, h1]; exact ⟨μ, rfl, fun q => absurd q z1n, h.rule.2.2⟩
  · rw [if_neg h2.1, kl_12, if_neg (zIn_gt (by decide) h2.2.1), h1]; exact ⟨μ, rfl, fun q => absurd q z1n, h.rule.2.2⟩
theorem md_said {n : Nat} (hn : 1000 ≤ n) {μ : kbM} {A : zA} (hA : zOk A) (h0 : rM μ A) (u : Int32) : ∃ v μ2, f_MD_said n u μ = some (v, μ2) ∧ μ2.1 57 3 = (s_said A u).1 ∧ ((s_said A u).1 = 0 → v = (s_said A u).2) := by
  have h := h0.c0 0
  unfold f_MD_said s_said f_MD_fail
  rw [kn_isIn12, kn_bs]
  rcases zIn_cases u (c := 13) (by omega) with ⟨a, ha, rfl⟩ | ⟨h1, h2⟩
  · obtain ⟨x, e, r⟩ := m_most hn hA.words hA.code h.rule (m := a) (by omega)
    have f := fr_lp_MD_said_27 e
    rw [zIn_n (by omega), decide_eq_true ha, if_pos rfl, if_neg zT0, e, kn_bs, r, nI_clamp (by omega)]
    exact ⟨_, _, rfl, (fr_57 f (by decide) (by decide)).trans kW_at, fun _ => rfl⟩
  · rw [h1]; exact ⟨_, _, rfl, kW_at, fun q => absurd q z1n⟩
theorem op_24 {n : Nat} (hn : 5000 ≤ n) {μ : kbM} (hI : kbInv μ) (u1 : Int32) : ∃ μ', c_law_24 n u1 μ = some μ' ∧ kbInv μ' := by
  obtain ⟨A, hA, hC, hM⟩ := hI
  obtain ⟨μ1, h1, h4, hk⟩ := cl_said (n := n) (by omega) hA hC u1
  have f1 := fr_f_L_said h1
  have hC1 := hC.frk f1 (by decide) hk
  have hM1 := hM.fr f1 (by decide) (by decide)
  obtain ⟨v, μ2, h2, h3, h5⟩ := md_said (n := n) (by omega) hA hM1 u1
  have f2 := fr_f_MD_said h2
  refine ⟨μ2, law_int h1 h2 h3 (fun q => ?_), A, hA, hC1.fr f2 (by decide) (by decide), hM1.fr f2 (by decide) (by decide)⟩
  rw [fr_at2 f2 (by decide) (by decide), h4 q, h5 q]
