/-! the model's readings -/
def jA (W : zW) (C : List Int) (a w : Nat) : Bool := if a = 10 then true else zJoin W C a w
def rF (W : zW) (C : List Int) (v p a : Nat) : Option Nat := if p = zSize v then some 0 else zBig oMin none (fun w => if jA W C a w = true then rQ W C v p w else none) W.length
def rZ (W : zW) (C : List Int) (v p a : Nat) : Nat := if p = zSize v then 1 else zSum (fun w => if jA W C a w = true then rY W C v p w else 0) W.length
theorem rQ_rF {W : zW} (hW : zWok W) (C : List Int) {v p w : Nat} (hw : w < W.length) (h : zSa W v p w = true) : rQ W C v p w = oInc (rF W C v (p + zSize (zRowAt W w)) w) := by
  have h10 := hW.1
  unfold rF
  by_cases e : p + zSize (zRowAt W w) = zSize v
  · rw [rQ_e hW C hw h e, if_pos e]; rfl
  · rw [rQ_s hW C hw h e, if_neg e, zBig_inc]
    refine zBig_congr fun x _ => ?_
    unfold jA
    rw [if_neg (show ¬ w = 10 by omega)]
    cases zJoin W C w x <;> rfl
theorem rY_rZ {W : zW} (hW : zWok W) (C : List Int) {v p w : Nat} (hw : w < W.length) (h : zSa W v p w = true) : rY W C v p w = rZ W C v (p + zSize (zRowAt W w)) w := by
  have h10 := hW.1
  unfold rZ
  by_cases e : p + zSize (zRowAt W w) = zSize v
  · rw [rY_e hW C hw h e, if_pos e]
  · rw [rY_s hW C hw h e, if_neg e]
    refine zSum_congr fun x _ => ?_
    unfold jA
    rw [if_neg (show ¬ w = 10 by omega)]
def fC (o : Option Nat) : Nat := match o with | none => 100000 | some x => x
def oLt (b : Nat) (o : Option Nat) : Prop := ∀ m, o = some m → m < b
theorem oLt_none (b : Nat) : oLt b none := fun m h => by cases h
theorem oLt_some {b m : Nat} (h : m < b) : oLt b (some m) := fun q hq => by cases hq; exact h
theorem oLt_min {b : Nat} {x y : Option Nat} (hx : oLt b x) (hy : oLt b y) : oLt b (oMin x y) := by
  rcases x with _ | x <;> rcases y with _ | y
  · exact hx
  · exact hy
  · exact hx
  · have h1 := hx x rfl
    have h2 := hy y rfl
    exact oLt_some (by omega)
theorem fC_lt {b : Nat} {o : Option Nat} (h : oLt b o) : fC o < b + 100001 := by
  rcases o with _ | x
  · show 100000 < _; omega
  · have := h x rfl
    show x < _; omega
theorem fC_min {x y : Option Nat} (hx : oLt 1000 x) (hy : oLt 1000 y) : kbMin (nI (fC x)) (1 + nI (fC y)) = nI (fC (oMin x (oInc y))) := by
  have h1 := fC_lt hx
  have h2 := fC_lt hy
  rw [kn_1, nI_add, kb_min (by omega) (by omega)]
  congr 1
  rcases x with _ | x <;> rcases y with _ | y
  · rfl
  · have := hy y rfl
    show min 100000 (1 + y) = y + 1; omega
  · have := hx x rfl
    show min x (1 + 100000) = x; omega
  · show min x (1 + y) = min x (y + 1); omega
theorem rF_lt {W : zW} (hW : zWok W) (C : List Int) {v : Nat} (hv : v ≤ 244140624) (p a : Nat) : oLt 1000 (rF W C v p a) := by
  have h12 := zSize_12.mpr hv
  unfold rF
  split
  · exact oLt_some (by omega)
  · refine zBig_pres (oLt 1000) (oLt_none _) (fun x y => oLt_min) (fun w hw => ?_)
    split
    · intro m hm
      have := rQ_bt hW C v _ p w rfl hw m hm
      omega
    · exact oLt_none _
def mRd (μ : kbM) (W : zW) (C : List Int) (v p : Nat) : Prop := ∀ q a, p ≤ q → q ≤ zSize v → (a < W.length ∨ a = 10) → μ.1 77 (11 * q + a) = nI (fC (rF W C v q a)) ∧ μ.2 80 (11 * q + a) = zL (rZ W C v q a)
/-- the step of the fold -/
def rT (W : zW) (C : List Int) (v p a w : Nat) : Option Nat := if jA W C a w = true then rQ W C v p w else none
def rU (W : zW) (C : List Int) (v p a w : Nat) : Nat := if jA W C a w = true then rY W C v p w else 0
theorem rT_f {W : zW} {C : List Int} {v p a w : Nat} (h : zSa W v p w = false) : rT W C v p a w = none := by unfold rT; rw [rQ_f C h]; split <;> rfl
theorem rU_f {W : zW} {C : List Int} {v p a w : Nat} (h : zSa W v p w = false) : rU W C v p a w = 0 := by unfold rU; rw [rY_f C h]; split <;> rfl
theorem md_joinsA {n : Nat} (hn : 700 ≤ n) {μ : kbM} {W : zW} {C : List Int} {a b : Nat} (hW : zWok W) (ha : a < W.length ∨ a = 10) (hb : b < W.length) (hC : zCok C) (hR : mRule μ W C) : ∃ μ', f_MD_joins n (if nI a = 10 then -1 else nI a) (nI b) μ = some (zB (jA W C a b), μ') ∧ mRule μ' W C := by
  have h10 := hW.1
  unfold jA
  by_cases e : a = 10
  · subst e
    rw [if_pos (show nI 10 = 10 from rfl), if_pos rfl]
    refine ⟨μ, ?_, hR⟩
    unfold f_MD_joins jn_MD_joins_14
    rw [if_pos rfl]; rfl
  · rw [if_neg (show ¬ nI a = 10 by rw [kl_10, nI_eq (by omega) (by decide)]; exact e), if_neg e]
    exact md_joins hn hW (by omega) hb hC hR
theorem m_rd_in {n : Nat} (hn : 1000 ≤ n) {μ : kbM} {W : zW} {C : List Int} (hW : zWok W) (hC : zCok C) (hR : mRule μ W C) {v p a : Nat} (hv : v ≤ 244140624) (hS : mSn μ W v) (hp : p ≤ zSize v) (ha : a < W.length ∨ a = 10) (hM : mRd μ W C v (p + 1)) {X0 : Option Nat} {Y0 : Nat} (hX : oLt 1000 X0) (g1 : μ.1 77 (11 * p + a) = nI (fC X0)) (g2 : μ.2 80 (11 * p + a) = zL Y0) : ∃ ν, lp_MD_tellReadings_74 n (nI p) (nI a) (nI (11 * p + a)) n 0 μ = some ν ∧ (mRule ν W C ∧ mSn ν W v) ∧ ν.1 77 (11 * p + a) = nI (fC (zFold (fun w X => oMin X (rT W C v p a w)) X0 W.length)) ∧ ν.2 80 (11 * p + a) = zL (zFold (fun w Y => Y + rU W C v p a w) Y0 W.length) ∧ ∀ j, j ≠ 11 * p + a → ν.1 77 j = μ.1 77 j ∧ ν.2 80 j = μ.2 80 j := by
  have h10 := hW.1
  have h12 := zSize_12.mpr hv
  have hXi : ∀ i, i ≤ W.length → oLt 1000 (zFold (fun w X => oMin X (rT W C v p a w)) X0 i) := by
    intro i
    induction i with
    | zero => intro _; exact hX
    | succ i ih =>
      intro hi
      refine oLt_min (ih (by omega)) ?_
      unfold rT
      split
      · intro m hm
        have := rQ_bt hW C v _ p i rfl (by omega) m hm
        omega
      · exact oLt_none _
  exact kn_for (fun k (s : Int32 × kbM) => lp_MD_tellReadings_74 n (nI p) (nI a) (nI (11 * p + a)) k s.1 s.2) (fun i s => s.1 = nI i ∧ (mRule s.2 W C ∧ mSn s.2 W v) ∧ s.2.1 77 (11 * p + a) = nI (fC (zFold (fun w X => oMin X (rT W C v p a w)) X0 i)) ∧ s.2.2 80 (11 * p + a) = zL (zFold (fun w Y => Y + rU W C v p a w) Y0 i) ∧ ∀ j, j ≠ 11 * p + a → s.2.1 77 j = μ.1 77 j ∧ s.2.2 80 j = μ.2 80 j) W.length (fun ν => (mRule ν W C ∧ mSn ν W v) ∧ ν.1 77 (11 * p + a) = nI (fC (zFold (fun w X => oMin X (rT W C v p a w)) X0 W.length)) ∧ ν.2 80 (11 * p + a) = zL (zFold (fun w Y => Y + rU W C v p a w) Y0 W.length) ∧ ∀ j, j ≠ 11 * p + a → ν.1 77 j = μ.1 77 j ∧ ν.2 80 j = μ.2 80 j)
    (fun k s hs => by
      obtain ⟨y, ν⟩ := s
      simp only at hs
      obtain ⟨rfl, q1, q2⟩ := hs
      refine ⟨ν, ?_, q1, q2⟩
      simp only [lp_MD_tellReadings_74]
      rw [q1.1.1.1, if_pos (by rw [nI_leI (by omega) (by omega)]; omega)])
    (fun k i s hi hs => by
      obtain ⟨y, ν⟩ := s
      simp only at hs
      obtain ⟨rfl, q1, q2, q2', q3⟩ := hs
      have hXl := hXi i (by omega)
      rw [show zFold (fun w X => oMin X (rT W C v p a w)) X0 (i + 1) = oMin (zFold (fun w X => oMin X (rT W C v p a w)) X0 i) (rT W C v p a i) from rfl, show zFold (fun w Y => Y + rU W C v p a w) Y0 (i + 1) = zFold (fun w Y => Y + rU W C v p a w) Y0 i + rU W C v p a i from rfl]
      generalize zFold (fun w X => oMin X (rT W C v p a w)) X0 i = X at q2 hXl
      generalize zFold (fun w Y => Y + rU W C v p a w) Y0 i = Y at q2'
      have st := m_stands (n := n) (by omega) hW hv q1.2 hp hi
      have start : lp_MD_tellReadings_74 n (nI p) (nI a) (nI (11 * p + a)) (k + 1) (nI i) ν = jn_MD_tellReadings_97 n (lp_MD_tellReadings_74 n (nI p) (nI a) (nI (11 * p + a)) k) (nI p) (nI a) (nI (11 * p + a)) (nI i) ν := by
        simp only [lp_MD_tellReadings_74]
        rw [q1.1.1.1, if_neg (by rw [nI_leI (by omega) (by omega)]; omega)]
        rcases ha with ha | ha
        · rw [if_neg (show ¬ nI a = 10 by rw [kl_10, nI_eq (by omega) (by decide)]; omega), if_neg (by rw [nI_leI (by omega) (by omega)]; omega)]
        · rw [if_pos (show nI a = 10 by rw [ha]; rfl)]
      have s2 : jn_MD_tellReadings_97 n (lp_MD_tellReadings_74 n (nI p) (nI a) (nI (11 * p + a)) k) (nI p) (nI a) (nI (11 * p + a)) (nI i) ν = if zB (zSa W v p i) = 0 then lp_MD_tellReadings_74 n (nI p) (nI a) (nI (11 * p + a)) k (nI (i + 1)) ν else jn_MD_tellReadings_119 n (lp_MD_tellReadings_74 n (nI p) (nI a) (nI (11 * p + a)) k) (nI p) (nI a) (nI (11 * p + a)) (nI i) (if nI a = 10 then -1 else nI a) ν := by
        simp only [jn_MD_tellReadings_97, jn_MD_tellReadings_190]
        rw [st, kn_bs, nI_1]
        by_cases e : nI a = 10
        · rw [if_pos e, if_pos e]
        · rw [if_neg e, if_neg e]
      refine Or.inr ?_
      cases hst : zSa W v p i
      · refine ⟨(nI (i + 1), ν), ?_, rfl, q1, ?_, ?_, q3⟩
        · simp only; rw [start, s2, hst, if_pos zF0]
        · simp only; rw [q2, rT_f hst, oMin_n]
        · simp only; rw [q2', rU_f hst, Nat.add_zero]
      · obtain ⟨ν1, e1, r1⟩ := md_joinsA (n := n) (by omega) hW ha hi hC q1.1
        have f1 := fr_f_MD_joins e1
        have n77 : ν1.1 77 = ν.1 77 := fr_at f1 (by decide) (by decide)
        have n80 : ν1.2 80 = ν.2 80 := fr_at2 f1 (by decide) (by decide)
        have S1 : mSn ν1 W v := q1.2.fr f1 (by decide) (by decide)
        have z79 : ν1.1 79 i = nI (zSize (zRowAt W i)) := (S1.2.2 i hi).1
        have hle := zSa_le hst
        have z0 := hW.sz i hi
        have hto := hM (p + zSize (zRowAt W i)) i (by omega) hle (Or.inl hi)
        have t1 : ν.1 77 (11 * (p + zSize (zRowAt W i)) + i) = nI (fC (rF W C v (p + zSize (zRowAt W i)) i)) := by rw [(q3 _ (by omega)).1]; exact hto.1
        have t2 : ν.2 80 (11 * (p + zSize (zRowAt W i)) + i) = zL (rZ W C v (p + zSize (zRowAt W i)) i) := by rw [(q3 _ (by omega)).2]; exact hto.2
        have s3 : jn_MD_tellReadings_119 n (lp_MD_tellReadings_74 n (nI p) (nI a) (nI (11 * p + a)) k) (nI p) (nI a) (nI (11 * p + a)) (nI i) (if nI a = 10 then -1 else nI a) ν = if zB (jA W C a i) = 0 then lp_MD_tellReadings_74 n (nI p) (nI a) (nI (11 * p + a)) k (nI (i + 1)) ν1 else lp_MD_tellReadings_74 n (nI p) (nI a) (nI (11 * p + a)) k (nI (i + 1)) (kbW (kbX ν1 80 (11 * p + a) (zL (Y + rY W C v p i))) 77 (11 * p + a) (nI (fC (oMin X (rQ W C v p i))))) := by
          simp only [jn_MD_tellReadings_119, jn_MD_tellReadings_190]
          rw [e1, kn_bs]
          simp only [kX_1, z79, nI_clamp (show i < 2 ^ 31 by omega), kn_inT (show i < 10 by omega) (show i < 2 ^ 31 by omega), kn_if_t]
          rw [show (11 : Int32) = nI 11 from rfl, nI_add, pk_mul, nI_add, kn_inT (show 11 * p + a < 143 by omega) (by omega), kn_inT (show 11 * (p + zSize (zRowAt W i)) + i < 143 by omega) (by omega), nI_clamp (show 11 * p + a < 2 ^ 31 by omega), nI_clamp (show 11 * (p + zSize (zRowAt W i)) + i < 2 ^ 31 by omega), n77, n80, q2, q2', t1, t2, zL_add, fC_min hXl (rF_lt hW C hv _ _), nI_1, ← rQ_rF hW C hi hst, ← rY_rZ hW C hi hst]
          simp only [kn_if_t]
        cases hj : jA W C a i
        · refine ⟨(nI (i + 1), ν1), ?_, rfl, ⟨r1, S1⟩, ?_, ?_, fun j hj => ?_⟩
          · simp only; rw [start, s2, hst, if_neg zT0, s3, hj, if_pos zF0]
          · simp only; rw [n77, q2, show rT W C v p a i = none by unfold rT; rw [hj]; rfl, oMin_n]
          · simp only; rw [n80, q2', show rU W C v p a i = 0 by unfold rU; rw [hj]; rfl, Nat.add_zero]
          · simp only; rw [n77, n80]; exact q3 j hj
        · refine ⟨(nI (i + 1), kbW (kbX ν1 80 (11 * p + a) (zL (Y + rY W C v p i))) 77 (11 * p + a) (nI (fC (oMin X (rQ W C v p i))))), ?_, rfl, ⟨?_, ?_⟩, ?_, ?_, fun j hj => ?_⟩
          · simp only; rw [start, s2, hst, if_neg zT0, s3, hj, if_neg zT0]
          · exact r1.fr (C := [77, 80]) (S := []) (kbFr.w (kbFr.x kbFr.rf (by decide)) (by decide)) (by decide) (by decide)
          · exact S1.fr (C := [77, 80]) (S := []) (kbFr.w (kbFr.x kbFr.rf (by decide)) (by decide)) (by decide) (by decide)
          · simp only; rw [kW_at, show rT W C v p a i = rQ W C v p i by unfold rT; rw [hj]; rfl]
          · simp only; rw [kW_2, kX_at, show rU W C v p a i = rY W C v p i by unfold rU; rw [hj]; rfl]
          · simp only; rw [kW_no hj, kX_1, kW_2, kX_no hj, n77, n80]; exact q3 j hj)
    W.length 0 n (0, μ) (by omega) (by omega) ⟨rfl, ⟨hR, hS⟩, g1, g2, fun j _ => ⟨rfl, rfl⟩⟩
theorem zFold_id {α β : Type} {f : Nat → α → α} (x : α) : ∀ c, (∀ i y, i < c → f i y = y) → zFold f x c = x := by
  intro c
  induction c with
  | zero => intro _; rfl
  | succ c ih =>
    intro h
    show f c (zFold f x c) = x
    rw [ih fun i y hi => h i y (by omega), h c _ (by omega)]
theorem m_rd_a {n : Nat} (hn : 1000 ≤ n) {μ : kbM} {W : zW} {C : List Int} (hW : zWok W) (hC : zCok C) (hR : mRule μ W C) {v p : Nat} (hv : v ≤ 244140624) (hS : mSn μ W v) (hp : p ≤ zSize v) (hM : mRd μ W C v (p + 1)) : ∃ ν, lp_MD_tellReadings_16 n (nI p) n 0 μ = some ν ∧ (mRule ν W C ∧ mSn ν W v) ∧ mRd ν W C v p := by
  have h10 := hW.1
  have h12 := zSize_12.mpr hv
  exact kn_for (fun k (s : Int32 × kbM) => lp_MD_tellReadings_16 n (nI p) k s.1 s.2) (fun i s => s.1 = nI i ∧ (mRule s.2 W C ∧ mSn s.2 W v) ∧ mRd s.2 W C v (p + 1) ∧ ∀ a, a < i → (a < W.length ∨ a = 10) → s.2.1 77 (11 * p + a) = nI (fC (rF W C v p a)) ∧ s.2.2 80 (11 * p + a) = zL (rZ W C v p a)) 11 (fun ν => (mRule ν W C ∧ mSn ν W v) ∧ mRd ν W C v p)
    (fun k s hs => by
      obtain ⟨y, ν⟩ := s
      simp only at hs
      obtain ⟨rfl, q1, q2, q3⟩ := hs
      refine ⟨ν, ?_, q1, fun q a h1 h2 h3 => ?_⟩
      · simp only [lp_MD_tellReadings_16]
        rw [if_pos (by decide)]
      · by_cases e : q = p
        · subst e; exact q3 a (by omega) h3
        · exact q2 q a (by omega) h2 h3)
    (fun k i s hi hs => by
      obtain ⟨y, ν⟩ := s
      simp only at hs
      obtain ⟨rfl, q1, q2, q3⟩ := hs
      have e38 := q1.2.1
      have start : lp_MD_tellReadings_16 n (nI p) (k + 1) (nI i) ν = (lp_MD_tellReadings_74 n (nI p) (nI i) (nI (11 * p + i)) n 0 (kbW (kbX ν 80 (11 * p + i) (zL (if p = zSize v then 1 else 0))) 77 (11 * p + i) (nI (fC (if p = zSize v then some 0 else none))))).bind fun x4 => lp_MD_tellReadings_16 n (nI p) k (nI (i + 1)) x4 := by
        simp only [lp_MD_tellReadings_16, jn_MD_tellReadings_49, jn_MD_tellReadings_70, jn_MD_tellReadings_196]
        rw [if_neg (by rw [kl_10, nI_ltI (by decide) (by omega)]; omega), show (11 : Int32) = nI 11 from rfl, pk_mul, nI_add, kn_inT (show 11 * p + i < 143 by omega) (by omega), nI_clamp (show 11 * p + i < 2 ^ 31 by omega), nI_1]
        simp only [kn_if_t, kX_1, e38]
        by_cases e : p = zSize v
        · rw [if_pos (by rw [e]), if_pos (by rw [e]), if_pos e, if_pos e]; rfl
        · rw [if_neg (by rw [nI_eq (by omega) (by omega)]; exact e), if_neg (by rw [nI_eq (by omega) (by omega)]; exact e), if_neg e, if_neg e]; rfl
      have R1 : mRule (kbW (kbX ν 80 (11 * p + i) (zL (if p = zSize v then 1 else 0))) 77 (11 * p + i) (nI (fC (if p = zSize v then some 0 else none)))) W C := q1.1.fr (C := [77, 80]) (S := []) (kbFr.w (kbFr.x kbFr.rf (by decide)) (by decide)) (by decide) (by decide)
      have S1 : mSn (kbW (kbX ν 80 (11 * p + i) (zL (if p = zSize v then 1 else 0))) 77 (11 * p + i) (nI (fC (if p = zSize v then some 0 else none)))) W v := q1.2.fr (C := [77, 80]) (S := []) (kbFr.w (kbFr.x kbFr.rf (by decide)) (by decide)) (by decide) (by decide)
      have o1 : ∀ j, j ≠ 11 * p + i → (kbW (kbX ν 80 (11 * p + i) (zL (if p = zSize v then 1 else 0))) 77 (11 * p + i) (nI (fC (if p = zSize v then some 0 else none)))).1 77 j = ν.1 77 j ∧ (kbW (kbX ν 80 (11 * p + i) (zL (if p = zSize v then 1 else 0))) 77 (11 * p + i) (nI (fC (if p = zSize v then some 0 else none)))).2 80 j = ν.2 80 j := fun j hj => by rw [kW_no hj, kX_1, kW_2, kX_no hj]; exact ⟨rfl, rfl⟩
      have g1 : (kbW (kbX ν 80 (11 * p + i) (zL (if p = zSize v then 1 else 0))) 77 (11 * p + i) (nI (fC (if p = zSize v then some 0 else none)))).1 77 (11 * p + i) = nI (fC (if p = zSize v then some 0 else none)) := kW_at
      have g2 : (kbW (kbX ν 80 (11 * p + i) (zL (if p = zSize v then 1 else 0))) 77 (11 * p + i) (nI (fC (if p = zSize v then some 0 else none)))).2 80 (11 * p + i) = zL (if p = zSize v then 1 else 0) := by rw [kW_2]; exact kX_at
      generalize kbW (kbX ν 80 (11 * p + i) (zL (if p = zSize v then 1 else 0))) 77 (11 * p + i) (nI (fC (if p = zSize v then some 0 else none))) = κ at start R1 S1 o1 g1 g2
      have M1 : mRd κ W C v (p + 1) := fun q a h1 h2 h3 => by rw [(o1 _ (by omega)).1, (o1 _ (by omega)).2]; exact q2 q a h1 h2 h3
      refine Or.inr ?_
      by_cases ha : i < W.length ∨ i = 10
      · obtain ⟨ν1, k1, k2, k3, k4, k5⟩ := m_rd_in hn hW hC R1 hv S1 hp ha M1 (by split; exact oLt_some (by omega); exact oLt_none _) g1 g2
        refine ⟨(nI (i + 1), ν1), ?_, rfl, k2, fun q a h1 h2 h3 => ?_, fun a ha h3 => ?_⟩
        · simp only; rw [start, k1, kn_bs]
        · simp only; rw [(k5 _ (by omega)).1, (k5 _ (by omega)).2]; exact M1 q a h1 h2 h3
        · simp only
          by_cases e : a = i
          · subst e
            rw [k3, k4]
            unfold rF rZ
            by_cases hpz : p = zSize v
            · rw [if_pos hpz, if_pos hpz, if_pos hpz, if_pos hpz, zFold_id (β := Nat) (some 0), zFold_id (β := Nat) 1]
              · exact ⟨rfl, rfl⟩
              · intro w Y hw
                have z0 := hW.sz w hw
                rw [rU_f]
                · rfl
                · unfold zSa; rw [decide_eq_false (by omega)]; rfl
              · intro w X hw
                have z0 := hW.sz w hw
                rw [rT_f, oMin_n]
                unfold zSa; rw [decide_eq_false (by omega)]; rfl
            · rw [if_neg hpz, if_neg hpz, if_neg hpz, if_neg hpz]
              exact ⟨rfl, rfl⟩
          · rw [(k5 _ (by omega)).1, (k5 _ (by omega)).2, (o1 _ (by omega)).1, (o1 _ (by omega)).2]
            exact q3 a (by omega) h3
      · have stop : lp_MD_tellReadings_74 n (nI p) (nI i) (nI (11 * p + i)) n 0 κ = some κ := by
          obtain ⟨n', hn'⟩ : ∃ q, n = q + 1 := ⟨n - 1, by omega⟩
          rw [show lp_MD_tellReadings_74 n (nI p) (nI i) (nI (11 * p + i)) n 0 κ = lp_MD_tellReadings_74 n (nI p) (nI i) (nI (11 * p + i)) (n' + 1) 0 κ by rw [← hn']]
          simp only [lp_MD_tellReadings_74]
          rw [R1.1.1, if_neg (show ¬ nI i = 10 by rw [kl_10, nI_eq (by omega) (by decide)]; omega), if_pos (show nI W.length ≤ nI i by rw [nI_leI (by omega) (by omega)]; omega)]
          split <;> rfl
        refine ⟨(nI (i + 1), κ), ?_, rfl, ⟨R1, S1⟩, M1, fun a ha' h3 => ?_⟩
        · simp only; rw [start, stop, kn_bs]
        · simp only
          rw [(o1 _ (by omega)).1, (o1 _ (by omega)).2]
          exact q3 a (by omega) h3)
    11 0 n (0, μ) (by omega) (by omega) ⟨rfl, ⟨hR, hS⟩, hM, fun a ha => absurd ha (Nat.not_lt_zero a)⟩
theorem m_readings {n : Nat} (hn : 1000 ≤ n) {μ : kbM} {W : zW} {C : List Int} (hW : zWok W) (hC : zCok C) (hR : mRule μ W C) {v : Nat} (hv : v ≤ 244140624) : ∃ ν, f_MD_tellReadings n (nI v) μ = some ν ∧ (mRule ν W C ∧ mSn ν W v) ∧ mRd ν W C v 0 := by
  have h12 := zSize_12.mpr hv
  obtain ⟨μ1, e1, s1⟩ := m_tell (n := n) (by omega) hW hR.1 hv
  have f1 := fr_f_MD_tellSounds e1
  have R1 := hR.fr f1 (by decide) (by decide)
  have key : ∀ (c k : Nat) (κ : kbM), c ≤ zSize v + 1 → c < k → mRule κ W C → mSn κ W v → mRd κ W C v c → ∃ ν, lp_MD_tellReadings_10 n k (nI c - 1) κ = some ν ∧ (mRule ν W C ∧ mSn ν W v) ∧ mRd ν W C v 0 := by
    intro c
    induction c with
    | zero =>
      intro k κ _ hk h1 h2 h3
      obtain ⟨k, rfl⟩ : ∃ q, k = q + 1 := ⟨k - 1, by omega⟩
      refine ⟨κ, ?_, ⟨h1, h2⟩, h3⟩
      simp only [lp_MD_tellReadings_10]
      rw [kn_m1, if_pos kn_m1lt]
    | succ c ih =>
      intro k κ hc hk h1 h2 h3
      obtain ⟨k, rfl⟩ : ∃ q, k = q + 1 := ⟨k - 1, by omega⟩
      obtain ⟨κ1, e1, e2, e3⟩ := m_rd_a hn hW hC h1 hv h2 (p := c) (by omega) h3
      obtain ⟨ν, e4, e5⟩ := ih k κ1 (by omega) (by omega) e2.1 e2.2 e3
      refine ⟨ν, ?_, e5⟩
      simp only [lp_MD_tellReadings_10]
      rw [nI_pred, if_neg (nI_pos (by omega)), e1, kn_bs, kn_dec]
      exact e4
  obtain ⟨ν, e2, e3⟩ := key (zSize v + 1) n μ1 (Nat.le_refl _) (by omega) R1 s1 (fun q a h1 h2 _ => absurd h1 (by omega))
  refine ⟨ν, ?_, e3⟩
  unfold f_MD_tellReadings
  rw [e1, kn_bs, s1.1]
  rw [nI_pred] at e2
  rw [e2, kn_bs]
def rFw (W : zW) (C : List Int) (v : Nat) : Option Nat := zBig oMin none (fun w => rQ W C v 0 w) W.length
theorem rFw_0 {W : zW} (hW : zWok W) (C : List Int) : rFw W C 0 = none := by
  unfold rFw
  rw [zBig_none]
  intro i hi
  have := hW.sz i hi
  refine rQ_f C ?_
  unfold zSa
  rw [zSize_0, decide_eq_false (by omega)]; rfl
theorem rF_10 {W : zW} (C : List Int) {v : Nat} (hv : v ≠ 0) : rF W C v 0 10 = rFw W C v := by
  unfold rF rFw
  rw [if_neg (fun q => hv (zSize_pos.mp q.symm))]
  exact zBig_congr fun w _ => rfl
theorem rZ_10 {W : zW} (C : List Int) {v : Nat} (hv : v ≠ 0) : rZ W C v 0 10 = zSum (fun w => rY W C v 0 w) W.length := by
  unfold rZ
  rw [if_neg (fun q => hv (zSize_pos.mp q.symm))]
  exact zSum_congr fun w _ => rfl
theorem rFw_bt {W : zW} (hW : zWok W) (C : List Int) {v : Nat} (hv : v ≤ 244140624) : oBt 12 (rFw W C v) := by
  have h12 := zSize_12.mpr hv
  exact zBig_pres (oBt 12) (oBt_none _) (fun x y => oBt_min) (fun w hw => oBt_mono (by omega) (rQ_bt hW C v _ 0 w rfl hw))
theorem m_fewestW {n : Nat} (hn : 1000 ≤ n) {μ : kbM} {W : zW} {C : List Int} (hW : zWok W) (hC : zCok C) (hR : mRule μ W C) {v : Nat} (hv : v ≤ 244140624) : ∃ ν, f_MD_fewest n (nI v) μ = some (nI (f0 (rFw W C v)), ν) ∧ (mRule ν W C ∧ mSn ν W v) ∧ mRd ν W C v 0 := by
  obtain ⟨ν, e1, e2, e3⟩ := m_readings hn hW hC hR hv
  refine ⟨ν, ?_, e2, e3⟩
  unfold f_MD_fewest jn_MD_fewest_21 jn_MD_fewest_32
  rw [e1, kn_bs]
  by_cases h0 : v = 0
  · subst h0
    rw [if_pos (show nI 0 = 0 from rfl), rFw_0 hW C]; rfl
  · have k := (e3 0 10 (Nat.le_refl _) (Nat.zero_le _) (Or.inr rfl)).1
    rw [rF_10 C h0] at k
    rw [if_neg (by rw [kn_eq0 (by omega)]; exact h0), show ν.1 77 10 = _ from k, show (100000 : Int32) = nI 100000 from rfl]
    cases hq : rFw W C v with
    | none => rfl
    | some x =>
      have := rFw_bt hW C hv x hq
      rw [if_pos (show nI (fC (some x)) < nI 100000 by show nI x < _; rw [nI_ltI (by omega) (by omega)]; omega)]; rfl
/-! the class's answers -/
theorem c_fewestL {n : Nat} (hn : 1000 ≤ n) {μ : kbM} {W : zW} {C : List Int} (hW : zWok W) (hR : cRule μ W C) {v : Nat} (hv : v ≤ 244140624) (hL : cLaid μ W C v 0) : f_SP_fewestLaid n μ = some (nI (f0 (rFw W C v))) := by
  have h10 := hW.1
  have h12 := zSize_12.mpr hv
  have e := kn_loop (fun k (s : Option Nat) i => lp_SP_fewestLaid_4 n μ k (nI (f0 s)) (nI i)) (fun i s => oMin s (rQ W C v 0 i)) none W.length (nI (f0 (rFw W C v)))
    (fun k => by simp only [lp_SP_fewestLaid_4]; rw [hR.1.1, if_pos (by rw [nI_leI (by omega) (by omega)]; omega)]; rfl)
    (fun k i hi => by
      have k1 := (hL 0 i (Nat.le_refl _) (Nat.zero_le _) hi).1
      rw [Nat.zero_mul, Nat.zero_add] at k1
      have b1 := rQ_bt hW C v _ 0 i rfl hi
      have b2 : oBt 12 (zBig oMin none (fun w => rQ W C v 0 w) i) := zBig_pres (oBt 12) (oBt_none _) (fun x y => oBt_min) (fun w hw => oBt_mono (by omega) (rQ_bt hW C v _ 0 w rfl (by omega)))
      rw [show zFold (fun i s => oMin s (rQ W C v 0 i)) none i = zBig oMin none (fun w => rQ W C v 0 w) i from rfl]
      generalize zBig oMin none (fun w => rQ W C v 0 w) i = X at b2
      simp only [lp_SP_fewestLaid_4, jn_SP_fewestLaid_45, jn_SP_fewestLaid_38]
      rw [hR.1.1, if_neg (by rw [nI_leI (by omega) (by omega)]; omega), kn_inT (show i < 130 by omega) (by omega), nI_clamp (by omega), k1, nI_1]
      simp only [kn_if_t]
      cases hq : rQ W C v 0 i with
      | none => rw [if_pos (show nI (f0 none) ≤ 0 by decide), oMin_n]
      | some m =>
        have hm := b1 m hq
        rw [if_neg (show ¬ nI (f0 (some m)) ≤ 0 by show ¬ nI m ≤ 0; rw [kn_le0 (by omega)]; omega)]
        cases X with
        | none => rw [if_pos (show nI (f0 none) = 0 from rfl)]; rfl
        | some x =>
          have hx := b2 x rfl
          rw [if_neg (show ¬ nI (f0 (some x)) = 0 by show ¬ nI x = 0; rw [kn_eq0 (by omega)]; omega)]
          show (if nI x ≤ nI m then lp_SP_fewestLaid_4 n μ k (nI x) (nI (i + 1)) else lp_SP_fewestLaid_4 n μ k (nI m) (nI (i + 1))) = lp_SP_fewestLaid_4 n μ k (nI (min x m)) (nI (i + 1))
          by_cases hle : x ≤ m
          · rw [if_pos (by rw [nI_leI (by omega) (by omega)]; exact hle), Nat.min_eq_left hle]
          · rw [if_neg (by rw [nI_leI (by omega) (by omega)]; exact hle), Nat.min_eq_right (by omega)]) W.length 0 n (by omega) (by omega)
  unfold f_SP_fewestLaid
  rw [show lp_SP_fewestLaid_4 n μ n 0 0 = _ from e, kn_bs]
theorem c_waysL {n : Nat} (hn : 1000 ≤ n) {μ : kbM} {W : zW} {C : List Int} (hW : zWok W) (hR : cRule μ W C) {v : Nat} (hL : cLaid μ W C v 0) : f_SP_waysLaid n μ = some (zL (zSum (fun w => rY W C v 0 w) W.length)) := by
  have h10 := hW.1
  have e := kn_loop (fun k (s : Nat) i => lp_SP_waysLaid_4 n μ k (zL s) (nI i)) (fun i s => s + rY W C v 0 i) 0 W.length (zL (zSum (fun w => rY W C v 0 w) W.length))
    (fun k => by simp only [lp_SP_waysLaid_4]; rw [hR.1.1, if_pos (by rw [nI_leI (by omega) (by omega)]; omega)]; rfl)
    (fun k i hi => by
      have k1 := (hL 0 i (Nat.le_refl _) (Nat.zero_le _) hi).2
      rw [Nat.zero_mul, Nat.zero_add] at k1
      simp only [lp_SP_waysLaid_4]
      rw [hR.1.1, if_neg (by rw [nI_leI (by omega) (by omega)]; omega), kn_inT (show i < 130 by omega) (by omega), nI_clamp (by omega), k1, nI_1, zL_add]
      rfl) W.length 0 n (by omega) (by omega)
  unfold f_SP_waysLaid
  rw [show lp_SP_waysLaid_4 n μ n 0 0 = _ from e, kn_bs]
def s_read (A : zA) (u1 u2 : Int32) : Int32 × Int64 := if zIn u2 2 = true then (if zIsRow u1 = true then (0, if u2 = 0 then zL (zSum (fun w => rY A.1.1.1 A.2.2.2.1 u1.toNatClampNeg 0 w) A.1.1.1.length) else (nI (f0 (rFw A.1.1.1 A.2.2.2.1 u1.toNatClampNeg))).toInt64) else (2, 0)) else (1, 0)
theorem cl_read {n : Nat} (hn : 1000 ≤ n) {μ : kbM} {A : zA} (hA : zOk A) (h : rC μ A) (u1 u2 : Int32) : ∃ μ1, f_L_read n u1 u2 μ = some ((s_read A u1 u2).1, μ1) ∧ ((s_read A u1 u2).1 = 0 → μ1.2 97 0 = (s_read A u1 u2).2) ∧ cKnown μ1 A.1.1.1 A.2.2.2.1 := by
  unfold f_L_read f_KB_read s_read jn_KB_read_39
  rw [show f_KB_needWhat n u2 2 μ = _ from kb_needWhat n μ u2 (c := 2) (by decide)]
  cases q2 : zIn u2 2
  · exact ⟨μ, rfl, fun q => absurd q z1n, h.rule.2.2⟩
  · simp only [↓reduceIte, kn_or_r]
    rw [kb_needRow (by omega)]
    cases q1 : zIsRow u1
    · exact ⟨μ, rfl, fun q => absurd q z2n, h.rule.2.2⟩
    · obtain ⟨v, rfl, hr, hv⟩ := zIsRow_t q1
      obtain ⟨ν, e1, e2, e3⟩ := c_lay hn hA.words hA.code h.rule hv
      simp only [↓reduceIte, kn_or_r]
      rw [e1, kn_bs, c_waysL hn hA.words e2 e3, c_fewestL hn hA.words e2 hv e3, nI_clamp (by omega)]
      simp only [kn_bs]
      by_cases q0 : u2 = 0
      · rw [if_pos q0, if_pos q0]; exact ⟨_, rfl, fun _ => kX_at, e2.2.2⟩
      · rw [if_neg q0, if_neg q0]; exact ⟨_, rfl, fun _ => kX_at, e2.2.2⟩
theorem rY_zero {W : zW} (hW : zWok W) (C : List Int) {v : Nat} (h : rFw W C v = none) : zSum (fun w => rY W C v 0 w) W.length = 0 := by
  unfold rFw at h
  rw [zBig_none] at h
  rw [zSum_congr (g := fun _ => 0) (fun w hw => rQ_none hW C v _ 0 w rfl hw (h w hw)), zSum_z]
theorem md_read {n : Nat} (hn : 1000 ≤ n) {μ : kbM} {A : zA} (hA : zOk A) (h0 : rM μ A) (u1 u2 : Int32) : ∃ v μ2, f_MD_read n u1 u2 μ = some (v, μ2) ∧ μ2.1 57 3 = (s_read A u1 u2).1 ∧ ((s_read A u1 u2).1 = 0 → v = (s_read A u1 u2).2) := by
  have h := h0.c0 0
  unfold f_MD_read s_read jn_MD_read_14 jn_MD_read_65 f_MD_fail
  rw [md_isRow (by omega)]
  simp only [kn_bs]
  rcases zIn_2 u2 with ⟨k1, k2⟩ | ⟨k1, k2, k3⟩ | ⟨k1, k2, k3, k4⟩
  · rw [if_pos k1, k2]; exact ⟨_, _, rfl, kW_at, fun q => absurd q z1n⟩
  · rw [if_neg k1, if_neg k2, k3]; exact ⟨_, _, rfl, kW_at, fun q => absurd q z1n⟩
  · rw [if_neg k1, if_pos k2, k3]
    simp only [↓reduceIte]
    cases q1 : zIsRow u1
    · rw [if_pos zF0]; exact ⟨_, _, rfl, kW_at, fun q => absurd q z2n⟩
    · obtain ⟨v, rfl, hr, hv⟩ := zIsRow_t q1
      obtain ⟨ν, e1, e2, e3⟩ := m_fewestW hn hA.words hA.code h.rule hv
      have f := fr_f_MD_fewest e1
      have k57 : ν.1 57 3 = 0 := (fr_57 f (by decide) (by decide)).trans kW_at
      rw [if_neg zT0, e1, kn_bs, nI_clamp (by omega)]
      simp only [↓reduceIte]
      cases hq : rFw A.1.1.1 A.2.2.2.1 v with
      | none =>
        rw [if_pos (show nI (f0 none) = 0 from rfl), rY_zero hA.words _ hq]
        refine ⟨_, _, rfl, k57, fun _ => ?_⟩
        (try simp only)
        by_cases q0 : u2 = 0
        · rw [if_pos q0]; rfl
        · rw [if_neg q0]; rfl
      | some x =>
        have hx := rFw_bt hA.words _ hv x hq
        have hv0 : v ≠ 0 := fun q => by rw [q, rFw_0 hA.words] at hq; cases hq
        have k := (e3 0 10 (Nat.le_refl _) (Nat.zero_le _) (Or.inr rfl)).2
        rw [rZ_10 _ hv0] at k
        rw [if_neg (show ¬ nI (f0 (some x)) = 0 by show ¬ nI x = 0; rw [kn_eq0 (by omega)]; omega), show ν.2 80 10 = _ from k]
        by_cases q0 : u2 = 0
        · rw [if_pos q0, if_pos q0]; exact ⟨_, _, rfl, k57, fun _ => rfl⟩
        · rw [if_neg q0, if_neg q0]; exact ⟨_, _, rfl, k57, fun _ => rfl⟩
theorem op_7 {n : Nat} (hn : 5000 ≤ n) {μ : kbM} (hI : kbInv μ) (u1 u2 : Int32) : ∃ μ', c_law_7 n u1 u2 μ = some μ' ∧ kbInv μ' := by
  obtain ⟨A, hA, hC, hM⟩ := hI
  obtain ⟨μ1, h1, h4, hk⟩ := cl_read (n := n) (by omega) hA hC u1 u2
  have f1 := fr_f_L_read h1
  have hC1 := hC.frk f1 (by decide) hk
  have hM1 := hM.fr f1 (by decide) (by decide)
  obtain ⟨v, μ2, h2, h3, h5⟩ := md_read (n := n) (by omega) hA hM1 u1 u2
  have f2 := fr_f_MD_read h2
  refine ⟨μ2, law_long h1 h2 h3 (fun q => ?_), A, hA, hC1.fr f2 (by decide) (by decide), hM1.fr f2 (by decide) (by decide)⟩
  rw [fr_at2 f2 (by decide) (by decide), h4 q, h5 q]
