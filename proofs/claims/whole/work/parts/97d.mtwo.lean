/-! the model: two ways -/
def mT (μ : kbM) (T : Nat → Nat) (B : Nat) : Prop := (∀ t, t < 3125 → μ.1 86 t = nI (T t) ∧ T t ≤ 100000) ∧ μ.1 57 45 = nI B ∧ B ≤ 100000
def tM (W : zW) (T : Nat → Nat) (B : Nat) : Prop := (∀ t, t < 3125 → T t < 100000 → ∃ k, tR W k t (T t)) ∧ (B < 100000 → ∃ k, tR W k 0 B)
theorem mW.w86 {μ : kbM} {W : zW} (h : mWords μ W) (k : Nat) (v : Int32) : mWords (kbW μ 86 k v) W := h.fr (C := [86]) (S := []) (kbFr.w kbFr.rf (by decide)) (by decide) (by decide)
theorem mW.w45 {μ : kbM} {W : zW} (h : mWords μ W) (v : Int32) : mWords (kbW μ 57 45 v) W := h.fr (C := []) (S := [45]) (kbFr.w57 kbFr.rf (by decide)) (by decide) (by decide)
def tSm (T : Nat → Nat) : Nat := zSum T 3125
/-- a tail with its cost: what becomes of the state -/
def tT (T : Nat → Nat) (u s : Nat) : Nat → Nat := if u ≠ 0 ∧ s < T u then tU T u s else T
def tB (B u s : Nat) : Nat := if u = 0 then min B s else B
theorem tT_le (T : Nat → Nat) (u s t : Nat) : tT T u s t ≤ T t := by
  unfold tT
  split
  · rename_i h
    by_cases e : t = u
    · subst e; rw [tU_at]; omega
    · rw [tU_no e]; exact Nat.le_refl _
  · exact Nat.le_refl _
theorem tT_u {T : Nat → Nat} {u s : Nat} (h : u ≠ 0) : tT T u s u ≤ s := by
  unfold tT
  split
  · rw [tU_at]; exact Nat.le_refl _
  · rename_i q
    have : ¬ s < T u := fun z => q ⟨h, z⟩
    omega
theorem tB_le (B u s : Nat) : tB B u s ≤ B := by unfold tB; split <;> omega
theorem m_isTail {μ : kbM} {W : zW} (hc : mWords μ W) {T : Nat → Nat} {B u s : Nat} (h : mT μ T B) (hu : u < 3125) (hs : s ≤ 200000) : ∃ ν, f_MD_isTail (nI u) (nI s) μ = some (zB (decide (u ≠ 0 ∧ s < T u)), ν) ∧ mWords ν W ∧ mT ν (tT T u s) (tB B u s) := by
  have a := h.1 u hu
  have hb := h.2.2
  unfold f_MD_isTail tT tB
  by_cases e : u = 0
  · subst e
    rw [if_pos (show nI 0 = 0 from rfl), h.2.1, kb_min (by omega) (by omega), decide_eq_false (fun q => q.1 rfl), if_neg (fun q => q.1 rfl), if_pos rfl]
    refine ⟨_, rfl, mW.w45 hc _, fun t ht => ?_, kW_at, by omega⟩
    rw [kW_ne (by decide)]; exact h.1 t ht
  · rw [if_neg (by rw [kn_eq0 (by omega)]; exact e), kn_inT hu (by omega), kn_if_t, nI_clamp (by omega), a.1, if_neg e]
    by_cases hlt : s < T u
    · rw [if_pos (by rw [nI_ltI (by omega) (by omega)]; exact hlt), decide_eq_true ⟨e, hlt⟩, if_pos ⟨e, hlt⟩]
      refine ⟨_, rfl, mW.w86 hc _ _, fun t ht => ?_, ?_, hb⟩
      · by_cases et : t = u
        · subst et; rw [tU_at]; exact ⟨kW_at, by omega⟩
        · rw [tU_no et, kW_no et]; exact h.1 t ht
      · rw [kW_ne (by decide)]; exact h.2.1
    · rw [if_neg (by rw [nI_ltI (by omega) (by omega)]; exact hlt), decide_eq_false (fun q => hlt q.2), if_neg (fun q => hlt q.2)]
      exact ⟨_, rfl, hc, h⟩
theorem tM_up {W : zW} {T : Nat → Nat} {B u s : Nat} (h : tM W T B) (hr : ∃ k, tR W k u s) : tM W (tT T u s) (tB B u s) := by
  refine ⟨fun t ht hlt => ?_, fun hlt => ?_⟩
  · unfold tT at hlt ⊢
    split at hlt <;> rename_i q
    · rw [if_pos q]
      by_cases e : t = u
      · subst e; rw [tU_at]; exact hr
      · rw [tU_no e] at hlt ⊢; exact h.1 t ht hlt
    · rw [if_neg q]; exact h.1 t ht hlt
  · unfold tB at hlt ⊢
    split at hlt <;> rename_i q
    · rw [if_pos q]
      by_cases c : B ≤ s
      · rw [Nat.min_eq_left c] at hlt ⊢; exact h.2 hlt
      · rw [Nat.min_eq_right (by omega)]; rw [q] at hr; exact hr
    · rw [if_neg q]; exact h.2 hlt
theorem zBo_lt {v r u : Nat} (h : zBo v r = some u) (hv : v < 2 ^ 31) : u < 2 ^ 31 := by
  unfold zBo at h
  split at h
  · cases h; exact Nat.lt_of_le_of_lt (Nat.mod_le _ _) hv
  · cases h
theorem zFewI_n1 {o : Option Nat} (h : ∀ u, o = some u → u < 2 ^ 31) : zFewI o = -1 ↔ o = none := by
  cases o with
  | none => simp [zFewI]
  | some u =>
    have := h u rfl
    show nI u = -1 ↔ _
    rw [kn_nm1 this]
    simp
/-- the beginning -/
theorem m_two_in {n : Nat} (hn : 1000 ≤ n) {μ : kbM} {W : zW} (hW : zWok W) (hc : mWords μ W) {T : Nat → Nat} {B : Nat} (hT : mT μ T B) (hM : tM W T B) {a : Nat} (ha : a < W.length) : ∃ ν, lp_MD_twoWays_46 n (nI a) n 0 μ = some ν ∧ ∃ T' B', mWords ν W ∧ mT ν T' B' ∧ tM W T' B' ∧ (∀ t, T' t ≤ T t) ∧ ∀ b t, b < W.length → a ≠ b → zBo (zRowAt W b) (zRowAt W a) = some t → T' t ≤ zSize (zRowAt W b) := by
  have h10 := hW.1
  exact kn_for (fun k (s : Int32 × kbM) => lp_MD_twoWays_46 n (nI a) k s.1 s.2) (fun i s => s.1 = nI i ∧ ∃ T' B', mWords s.2 W ∧ mT s.2 T' B' ∧ tM W T' B' ∧ (∀ t, T' t ≤ T t) ∧ ∀ b t, b < i → a ≠ b → zBo (zRowAt W b) (zRowAt W a) = some t → T' t ≤ zSize (zRowAt W b)) W.length (fun ν => ∃ T' B', mWords ν W ∧ mT ν T' B' ∧ tM W T' B' ∧ (∀ t, T' t ≤ T t) ∧ ∀ b t, b < W.length → a ≠ b → zBo (zRowAt W b) (zRowAt W a) = some t → T' t ≤ zSize (zRowAt W b))
    (fun k s hs => by
      obtain ⟨y, ν⟩ := s
      obtain ⟨e, T', B', q1, q2⟩ := hs
      simp only at e q1 q2
      subst e
      refine ⟨ν, ?_, T', B', q1, q2⟩
      simp only [lp_MD_twoWays_46]
      rw [q1.1, if_pos (by rw [nI_leI (by omega) (by omega)]; omega)])
    (fun k i s hi hs => by
      obtain ⟨y, ν⟩ := s
      obtain ⟨e, T', B', q1, q2, q3, q4, q5⟩ := hs
      simp only at e q1 q2
      subst e
      have si := hW.s6 hi
      have rr := hW.row hi
      have bh := md_behind (n := n) (by omega) (hW.row hi).1 (hW.row ha).1
      rw [zBeh_o] at bh
      have szi := md_sizeOf (n := n) (by omega) rr.2.2
      refine Or.inr ?_
      by_cases hai : a = i
      · refine ⟨(nI (i + 1), ν), ?_, rfl, T', B', q1, q2, q3, q4, fun b t hb hab hz => ?_⟩
        · simp only [lp_MD_twoWays_46, jn_MD_twoWays_78, jn_MD_twoWays_99]
          rw [q1.1, if_neg (by rw [nI_leI (by omega) (by omega)]; omega), if_pos (by rw [hai]), if_pos trivial, nI_1]
        · exact q5 b t (by omega) hab hz
      · cases hz : zBo (zRowAt W i) (zRowAt W a) with
        | none =>
          rw [hz] at bh
          refine ⟨(nI (i + 1), ν), ?_, rfl, T', B', q1, q2, q3, q4, fun b t hb hab hz' => ?_⟩
          · simp only [lp_MD_twoWays_46, jn_MD_twoWays_78, jn_MD_twoWays_99]
            rw [q1.1, if_neg (by rw [nI_leI (by omega) (by omega)]; omega), if_neg (by rw [nI_eq (by omega) (by omega)]; exact hai), kn_inT (show i < 10 by omega) (by omega), kn_inT (show a < 10 by omega) (by omega), kn_if_t, kn_if_t, nI_clamp (show i < 2 ^ 31 by omega), nI_clamp (show a < 2 ^ 31 by omega), (q1.2 i hi).1, (q1.2 a ha).1, bh, kn_bs, if_pos (show zFewI none = -1 from rfl), nI_1]
          · by_cases e : b = i
            · subst e; rw [hz] at hz'; cases hz'
            · exact q5 b t (by omega) hab hz'
        | some u =>
          rw [hz] at bh
          have ti := t_init hW ha hi hai hz
          have ult : u < 3125 := by rw [← ti.2.1]; exact tl_lt hW ti.1
          have u0 : u ≠ 0 := by rw [← ti.2.1]; exact tl_pos hW ti.1
          obtain ⟨ν1, e1, g1, g2⟩ := m_isTail q1 q2 (u := u) (s := zSize (zRowAt W i)) ult (by omega)
          refine ⟨(nI (i + 1), ν1), ?_, rfl, tT T' u (zSize (zRowAt W i)), tB B' u (zSize (zRowAt W i)), g1, g2, tM_up q3 ⟨0, a, i, ha, hi, hai, hz, rfl⟩, fun t => Nat.le_trans (tT_le _ _ _ _) (q4 t), fun b t hb hab hz' => ?_⟩
          · simp only [lp_MD_twoWays_46, jn_MD_twoWays_78, jn_MD_twoWays_99]
            rw [q1.1, if_neg (by rw [nI_leI (by omega) (by omega)]; omega), if_neg (by rw [nI_eq (by omega) (by omega)]; exact hai), kn_inT (show i < 10 by omega) (by omega), kn_inT (show a < 10 by omega) (by omega), kn_if_t, kn_if_t, nI_clamp (show i < 2 ^ 31 by omega), nI_clamp (show a < 2 ^ 31 by omega), (q1.2 i hi).1, (q1.2 a ha).1, bh, kn_bs, show zFewI (some u) = nI u from rfl, if_neg (by rw [kn_nm1 (by omega)]; exact id), szi, kn_if_t, kn_bs, e1, kn_bs, nI_1]
          · by_cases e : b = i
            · subst e
              rw [hz] at hz'
              cases hz'
              exact tT_u u0
            · exact Nat.le_trans (tT_le _ _ _ _) (q5 b t (by omega) hab hz'))
    W.length 0 n (0, μ) (by omega) (by omega) ⟨rfl, T, B, hc, hT, hM, fun _ => Nat.le_refl _, fun b t hb => absurd hb (Nat.not_lt_zero b)⟩
theorem m_twoI {n : Nat} (hn : 10000 ≤ n) {μ : kbM} {W : zW} (hW : zWok W) (hc : mWords μ W) (h45 : μ.1 57 45 = nI 100000) : ∃ μ1 ν T B, lp_MD_twoWays_13 n n 0 μ = some μ1 ∧ lp_MD_twoWays_36 n n 0 μ1 = some ν ∧ mWords ν W ∧ mT ν T B ∧ tM W T B ∧ ∀ a b t, a < W.length → b < W.length → a ≠ b → zBo (zRowAt W b) (zRowAt W a) = some t → T t ≤ zSize (zRowAt W b) := by
  have h10 := hW.1
  obtain ⟨μ1, e1, c1, k1⟩ := kn_for (fun k (s : Int32 × kbM) => lp_MD_twoWays_13 n k s.1 s.2) (fun i s => s.1 = nI i ∧ mWords s.2 W ∧ s.2.1 57 45 = nI 100000 ∧ ∀ j, j < i → s.2.1 86 j = nI 100000) 3125 (fun ν => mWords ν W ∧ ν.1 57 45 = nI 100000 ∧ ∀ j, j < 3125 → ν.1 86 j = nI 100000)
    (fun k s hs => by
      obtain ⟨y, ν⟩ := s
      simp only at hs
      obtain ⟨rfl, q1, q3⟩ := hs
      refine ⟨ν, ?_, q1, q3⟩
      simp only [lp_MD_twoWays_13]
      rw [if_pos (by decide)])
    (fun k i s hi hs => by
      obtain ⟨y, ν⟩ := s
      simp only at hs
      obtain ⟨rfl, q1, q2, q3⟩ := hs
      refine Or.inr ⟨(nI (i + 1), kbW ν 86 i 100000), ?_, rfl, mW.w86 q1 _ _, ?_, fun j hj => ?_⟩
      · simp only [lp_MD_twoWays_13]
        rw [show (3125 : Int32) = nI 3125 from rfl, if_neg (by rw [nI_leI (by decide) (by omega)]; omega), kn_inT hi (by omega), kn_if_t, nI_clamp (by omega), nI_1]
      · simp only; rw [kW_ne (by decide)]; exact q2
      · simp only
        by_cases e : j = i
        · subst e; exact kW_at
        · rw [kW_no e]; exact q3 j (by omega))
    3125 0 n (0, μ) (by omega) (by omega) ⟨rfl, hc, h45, fun j hj => absurd hj (Nat.not_lt_zero j)⟩
  obtain ⟨ν, e2, T, B, q⟩ := kn_for (fun k (s : Int32 × kbM) => lp_MD_twoWays_36 n k s.1 s.2) (fun i s => s.1 = nI i ∧ ∃ T B, mWords s.2 W ∧ mT s.2 T B ∧ tM W T B ∧ ∀ a b t, a < i → b < W.length → a ≠ b → zBo (zRowAt W b) (zRowAt W a) = some t → T t ≤ zSize (zRowAt W b)) W.length (fun ν => ∃ T B, mWords ν W ∧ mT ν T B ∧ tM W T B ∧ ∀ a b t, a < W.length → b < W.length → a ≠ b → zBo (zRowAt W b) (zRowAt W a) = some t → T t ≤ zSize (zRowAt W b))
    (fun k s hs => by
      obtain ⟨y, ν⟩ := s
      obtain ⟨e, T', B', q1, q2⟩ := hs
      simp only at e q1 q2
      subst e
      refine ⟨ν, ?_, T', B', q1, q2⟩
      simp only [lp_MD_twoWays_36]
      rw [q1.1, if_pos (by rw [nI_leI (by omega) (by omega)]; omega)])
    (fun k i s hi hs => by
      obtain ⟨y, ν⟩ := s
      obtain ⟨e, T', B', q1, q2, q3, q4⟩ := hs
      simp only at e q1 q2
      subst e
      obtain ⟨ν1, e1, T1, B1, g1, g2, g3, g4, g5⟩ := m_two_in (n := n) (by omega) hW q1 q2 q3 hi
      refine Or.inr ⟨(nI (i + 1), ν1), ?_, rfl, T1, B1, g1, g2, g3, fun a b t ha hb hab hz => ?_⟩
      · simp only [lp_MD_twoWays_36]
        rw [q1.1, if_neg (by rw [nI_leI (by omega) (by omega)]; omega), e1, kn_bs, nI_1]
      · by_cases e : a = i
        · subst e; exact g5 b t hb hab hz
        · exact Nat.le_trans (g4 t) (q4 a b t (by omega) hb hab hz))
    W.length 0 n (0, μ1) (by omega) (by omega) ⟨rfl, fun _ => 100000, 100000, c1, ⟨fun t ht => ⟨k1.2 t ht, Nat.le_refl _⟩, k1.1, Nat.le_refl _⟩, ⟨fun t _ h => absurd h (Nat.lt_irrefl _), fun h => absurd h (Nat.lt_irrefl _)⟩, fun a b t ha => absurd ha (Nat.not_lt_zero a)⟩
  exact ⟨μ1, ν, T, B, e1, e2, q⟩
/-- within a pass that began with T0 -/
def tGo (T0 T : Nat → Nat) (fl : Bool) : Prop := (∀ t, T t ≤ T0 t) ∧ (fl = false → T = T0) ∧ (fl = true → tSm T < tSm T0)
theorem tGo_up {T0 T : Nat → Nat} {fl : Bool} (h : tGo T0 T fl) {u s : Nat} (hu : u < 3125) : tGo T0 (tT T u s) (fl || decide (u ≠ 0 ∧ s < T u)) := by
  refine ⟨fun t => Nat.le_trans (tT_le _ _ _ _) (h.1 t), fun q => ?_, fun q => ?_⟩
  · have q' : fl = false ∧ decide (u ≠ 0 ∧ s < T u) = false := by simpa using q
    have c : ¬ (u ≠ 0 ∧ s < T u) := of_decide_eq_false q'.2
    unfold tT
    rw [if_neg c]; exact h.2.1 q'.1
  · by_cases c : u ≠ 0 ∧ s < T u
    · have lt : tSm (tT T u s) < tSm T := zSum_lt (j := u) (fun t _ => tT_le _ _ _ _) hu (by
        unfold tT; rw [if_pos c, tU_at]; exact c.2)
      have le : tSm T ≤ tSm T0 := zSum_mono fun t _ => h.1 t
      omega
    · unfold tT
      rw [if_neg c]
      rw [decide_eq_false c, Bool.or_false] at q
      exact h.2.2 q
theorem m_goOn {n : Nat} (hn : 1000 ≤ n) {μ : kbM} {W : zW} (hW : zWok W) (hc : mWords μ W) {T0 T : Nat → Nat} {B t : Nat} {fl : Bool} (hT : mT μ T B) (hM : tM W T B) (hG : tGo T0 T fl) (ht0 : t ≠ 0) (ht : t < 3125) (hlt : T t < 100000) : ∃ r, f_MD_goOn n (nI t) μ = some r ∧ ∃ T' B' f', r.1 = zB f' ∧ mWords r.2 W ∧ mT r.2 T' B' ∧ tM W T' B' ∧ tGo T0 T' (fl || f') ∧ B' ≤ B ∧ ((fl || f') = false → ∀ x u d, x < W.length → tN W t x = some (u, d) → (u ≠ 0 → T0 u ≤ T0 t + d) ∧ (u = 0 → B' ≤ T0 t)) := by
  have h10 := hW.1
  obtain ⟨kk, hkk⟩ := hM.1 t ht hlt
  obtain ⟨l, hl, hlt2⟩ := tR_lead hW kk t _ hkk ht0
  have kt := (hT.1 t ht).1
  have small : ∀ x u d, x < W.length → tN W t x = some (u, d) → u < 3125 ∧ d ≤ 6 ∧ (u = 0 → d = 0) := by
    intro x u d hx hn'
    have sx := hW.s6 hx
    rw [← hlt2] at hn'
    rcases t_step hW hl hx hn' with q | q | q
    · omega
    · exact ⟨by rw [← q.2.2.2.2]; exact tl_lt hW q.2.2.2.1, by omega, fun _ => q.2.1⟩
    · exact ⟨by rw [← q.2.2.2.2]; exact tl_lt hW q.2.2.2.1, by omega, fun z => by rw [← q.2.2.2.2] at z; exact absurd z (tl_pos hW q.2.2.2.1)⟩
  obtain ⟨r, e1, T', B', f', e2, q⟩ := kn_for (fun k (s : Int32 × Int32 × kbM) => lp_MD_goOn_12 n (nI t) (nI (T t)) k s.1 s.2.1 s.2.2) (fun i s => ∃ T' B' f', s.1 = zB f' ∧ s.2.1 = nI i ∧ mWords s.2.2 W ∧ mT s.2.2 T' B' ∧ tM W T' B' ∧ tGo T0 T' (fl || f') ∧ B' ≤ B ∧ ((fl || f') = false → ∀ x u d, x < i → tN W t x = some (u, d) → (u ≠ 0 → T0 u ≤ T0 t + d) ∧ (u = 0 → B' ≤ T0 t))) W.length (fun r => ∃ T' B' f', r.1 = zB f' ∧ mWords r.2 W ∧ mT r.2 T' B' ∧ tM W T' B' ∧ tGo T0 T' (fl || f') ∧ B' ≤ B ∧ ((fl || f') = false → ∀ x u d, x < W.length → tN W t x = some (u, d) → (u ≠ 0 → T0 u ≤ T0 t + d) ∧ (u = 0 → B' ≤ T0 t)))
    (fun k s hs => by
      obtain ⟨x, y, ν⟩ := s
      obtain ⟨T', B', f', e1, e2, q1, q2⟩ := hs
      simp only at e1 e2 q1 q2
      subst e1 e2
      refine ⟨(zB f', ν), ?_, T', B', f', rfl, q1, q2⟩
      simp only [lp_MD_goOn_12]
      rw [q1.1, if_pos (by rw [nI_leI (by omega) (by omega)]; omega)])
    (fun k i s hi hs => by
      obtain ⟨x, y, ν⟩ := s
      obtain ⟨T', B', f', e1, e2, q1, q2, q3, q4, q5, q6⟩ := hs
      simp only at e1 e2 q1 q2
      subst e1 e2
      have ri := hW.row hi
      have bh1 := md_behind (n := n) (v := t) (r := zRowAt W i) (by omega) (by omega) ri.1
      have bh2 := md_behind (n := n) (v := zRowAt W i) (r := t) (by omega) ri.1 (by omega)
      rw [zBeh_o] at bh1 bh2
      -- the state once tail u with cost d more is told
      have fin : ∀ (u d : Nat), tN W t i = some (u, d) → ∃ ν1, f_MD_isTail (nI u) (nI (T t + d)) ν = some (zB (decide (u ≠ 0 ∧ T t + d < T' u)), ν1) ∧ ∃ T1 B1, mWords ν1 W ∧ mT ν1 T1 B1 ∧ tM W T1 B1 ∧ tGo T0 T1 (fl || (f' || decide (u ≠ 0 ∧ T t + d < T' u))) ∧ B1 ≤ B ∧ ((fl || (f' || decide (u ≠ 0 ∧ T t + d < T' u))) = false → ∀ x u d, x < i + 1 → tN W t x = some (u, d) → (u ≠ 0 → T0 u ≤ T0 t + d) ∧ (u = 0 → B1 ≤ T0 t)) := by
        intro u d hn'
        obtain ⟨s1, s2, s3⟩ := small i u d hi hn'
        obtain ⟨ν1, e1, g1, g2⟩ := m_isTail q1 q2 (u := u) (s := T t + d) s1 (by omega)
        refine ⟨ν1, e1, tT T' u (T t + d), tB B' u (T t + d), g1, g2, tM_up q3 ⟨kk + 1, t, T t, i, d, hkk, ht0, hi, hn', rfl⟩, ?_, Nat.le_trans (tB_le _ _ _) q5, fun hf x u' d' hx hn2 => ?_⟩
        · have := tGo_up q4 (u := u) (s := T t + d) s1
          rw [Bool.or_assoc] at this
          exact this
        · have hf' : fl = false ∧ f' = false ∧ decide (u ≠ 0 ∧ T t + d < T' u) = false := by simpa using hf
          have hfl : (fl || f') = false := by rw [hf'.1, hf'.2.1]; rfl
          have eT : T = T0 := hG.2.1 hf'.1
          have eT' : T' = T0 := q4.2.1 hfl
          by_cases e : x = i
          · subst e
            rw [hn'] at hn2
            simp only [Option.some.injEq, Prod.mk.injEq] at hn2
            obtain ⟨rfl, rfl⟩ := hn2
            have c := of_decide_eq_false hf'.2.2
            refine ⟨fun h0 => ?_, fun h0 => ?_⟩
            · have : ¬ T t + d < T' u := fun z => c ⟨h0, z⟩
              rw [eT', eT] at this
              omega
            · have d0 := s3 h0
              unfold tB
              rw [if_pos h0, d0, Nat.add_zero, ← eT]
              exact Nat.min_le_right _ _
          · have q := q6 hfl x u' d' (by omega) hn2
            exact ⟨q.1, fun h0 => Nat.le_trans (tB_le _ _ _) (q.2 h0)⟩
      have hu1 : ∀ u, zBo t (zRowAt W i) = some u → u < 2 ^ 31 := fun u h => zBo_lt h (by omega)
      have hu2 : ∀ u, zBo (zRowAt W i) t = some u → u < 2 ^ 31 := fun u h => zBo_lt h ri.2.2
      have start : lp_MD_goOn_12 n (nI t) (nI (T t)) (k + 1) (zB f') (nI i) ν = if zFewI (zBo t (zRowAt W i)) = -1 then (if zFewI (zBo (zRowAt W i) t) = -1 then lp_MD_goOn_12 n (nI t) (nI (T t)) k (zB f') (nI (i + 1)) ν else (f_MD_sizeOf n (zFewI (zBo (zRowAt W i) t))).bind fun x3 => (f_MD_isTail (zFewI (zBo (zRowAt W i) t)) (nI (T t) + x3) ν).bind fun x4 => lp_MD_goOn_12 n (nI t) (nI (T t)) k (zB f' ||| x4.1) (nI (i + 1)) x4.2) else (f_MD_isTail (zFewI (zBo t (zRowAt W i))) (nI (T t)) ν).bind fun x5 => lp_MD_goOn_12 n (nI t) (nI (T t)) k (zB f' ||| x5.1) (nI (i + 1)) x5.2 := by
        simp only [lp_MD_goOn_12, jn_MD_goOn_88]
        rw [q1.1, if_neg (by rw [nI_leI (by omega) (by omega)]; omega), kn_inT (show i < 10 by omega) (by omega), nI_clamp (show i < 2 ^ 31 by omega), (q1.2 i hi).1, bh1, bh2, nI_1]
        simp only [kn_if_t, kn_bs]
      refine Or.inr ?_
      cases h1 : zBo t (zRowAt W i) with
      | some u =>
        have hn' : tN W t i = some (u, 0) := by unfold tN; rw [h1]
        obtain ⟨ν1, e1, T1, B1, g1, g2, g3, g4, g5, g6⟩ := fin u 0 hn'
        refine ⟨(zB (f' || decide (u ≠ 0 ∧ T t + 0 < T' u)), nI (i + 1), ν1), ?_, T1, B1, f' || decide (u ≠ 0 ∧ T t + 0 < T' u), rfl, rfl, g1, g2, g3, g4, g5, g6⟩
        simp only
        rw [Nat.add_zero] at e1
        rw [start, h1, if_neg (fun z => by have := (zFewI_n1 (o := some u) (fun u' h => hu1 u' (by rw [h1]; exact h))).mp z; cases this), show zFewI (some u) = nI u from rfl, e1, kn_bs, zB_or]
        rfl
      | none =>
        cases h2 : zBo (zRowAt W i) t with
        | some u =>
          have hn' : tN W t i = some (u, zSize u) := by unfold tN; rw [h1]; simp only; rw [h2]
          obtain ⟨ν1, e1, T1, B1, g1, g2, g3, g4, g5, g6⟩ := fin u (zSize u) hn'
          have ul := hu2 u h2
          refine ⟨(zB (f' || decide (u ≠ 0 ∧ T t + zSize u < T' u)), nI (i + 1), ν1), ?_, T1, B1, f' || decide (u ≠ 0 ∧ T t + zSize u < T' u), rfl, rfl, g1, g2, g3, g4, g5, g6⟩
          simp only
          rw [start, h1, if_pos (show zFewI none = -1 from rfl), h2, show zFewI (some u) = nI u from rfl, if_neg (by rw [kn_nm1 ul]; exact id), md_sizeOf (by omega) ul, kn_bs, nI_add, e1, kn_bs, zB_or]
        | none =>
          have hn' : tN W t i = none := by unfold tN; rw [h1]; simp only; rw [h2]
          refine ⟨(zB f', nI (i + 1), ν), ?_, T', B', f', rfl, rfl, q1, q2, q3, q4, q5, fun hf x u d hx hn2 => ?_⟩
          · simp only
            rw [start, h1, if_pos (show zFewI none = -1 from rfl), h2, if_pos (show zFewI none = -1 from rfl)]
          · by_cases e : x = i
            · subst e; rw [hn'] at hn2; cases hn2
            · exact q6 hf x u d (by omega) hn2)
    W.length 0 n (0, 0, μ) (by omega) (by omega) ⟨T, B, false, rfl, rfl, hc, hT, hM, by rw [Bool.or_false]; exact hG, Nat.le_refl _, fun _ x u d hx => absurd hx (Nat.not_lt_zero x)⟩
  refine ⟨r, ?_, T', B', f', e2, q⟩
  unfold f_MD_goOn
  rw [kn_inT ht (by omega), kn_if_t, nI_clamp (by omega), kt, show lp_MD_goOn_12 n (nI t) (nI (T t)) n 0 0 μ = some r from e1, kn_bs, e2]
  obtain ⟨r1, r2⟩ := r
  simp only at e2
  subst e2
  cases f' <;> rfl
theorem m_pass {n : Nat} (hn : 10000 ≤ n) {μ : kbM} {W : zW} (hW : zWok W) (hc : mWords μ W) {T : Nat → Nat} {B : Nat} (hT : mT μ T B) (hM : tM W T B) : ∃ r, lp_MD_twoWays_121 n n 0 1 μ = some r ∧ ∃ T' B' fl, r.1 = zB fl ∧ mWords r.2 W ∧ mT r.2 T' B' ∧ tM W T' B' ∧ tGo T T' fl ∧ (fl = false → tSt W T B') := by
  have h10 := hW.1
  exact kn_for (fun k (s : Int32 × Int32 × kbM) => lp_MD_twoWays_121 n k s.1 s.2.1 s.2.2) (fun i s => 0 < i ∧ ∃ T' B' fl, s.1 = zB fl ∧ s.2.1 = nI i ∧ mWords s.2.2 W ∧ mT s.2.2 T' B' ∧ tM W T' B' ∧ tGo T T' fl ∧ (fl = false → ∀ t x u d, t ≠ 0 → t < i → x < W.length → T t < B' → tN W t x = some (u, d) → (u ≠ 0 → T u ≤ T t + d) ∧ (u = 0 → B' ≤ T t))) 3125 (fun r => ∃ T' B' fl, r.1 = zB fl ∧ mWords r.2 W ∧ mT r.2 T' B' ∧ tM W T' B' ∧ tGo T T' fl ∧ (fl = false → tSt W T B'))
    (fun k s hs => by
      obtain ⟨x, y, ν⟩ := s
      obtain ⟨i0, T', B', fl, e1, e2, q1, q2, q3, q4, q5⟩ := hs
      simp only at e1 e2 q1 q2
      subst e1 e2
      refine ⟨(zB fl, ν), ?_, T', B', fl, rfl, q1, q2, q3, q4, fun hf t x u d h0 ht hx hlt hn' => q5 hf t x u d h0 ht hx hlt hn'⟩
      simp only [lp_MD_twoWays_121]
      rw [if_pos (by decide)])
    (fun k i s hi hs => by
      obtain ⟨x, y, ν⟩ := s
      obtain ⟨i0, T', B', fl, e1, e2, q1, q2, q3, q4, q5⟩ := hs
      simp only at e1 e2 q1 q2
      subst e1 e2
      have a1 := q2.1 i hi
      have b1 := q2.2
      have start : lp_MD_twoWays_121 n (k + 1) (zB fl) (nI i) ν = if nI 100000 ≤ nI (T' i) then lp_MD_twoWays_121 n k (zB fl) (nI (i + 1)) ν else if nI B' ≤ nI (T' i) then lp_MD_twoWays_121 n k (zB fl) (nI (i + 1)) ν else (f_MD_goOn n (nI i) ν).bind fun x7 => lp_MD_twoWays_121 n k (zB fl ||| x7.1) (nI (i + 1)) x7.2 := by
        simp only [lp_MD_twoWays_121, jn_MD_twoWays_160]
        rw [show (3125 : Int32) = nI 3125 from rfl, if_neg (by rw [nI_leI (by decide) (by omega)]; omega), kn_inT hi (by omega), kn_if_t, kn_if_t, nI_clamp (by omega), a1.1, b1.1, nI_1]
        rfl
      refine Or.inr ?_
      by_cases c1 : T' i < 100000 ∧ T' i < B' ∧ i ≠ 0
      · obtain ⟨r, e1, T1, B1, f1, g1, g2, g3, g4, g5, g6, g7⟩ := m_goOn (n := n) (by omega) hW q1 q2 q3 q4 c1.2.2 hi c1.1
        refine ⟨(zB (fl || f1), nI (i + 1), r.2), ?_, by omega, T1, B1, fl || f1, rfl, rfl, g2, g3, g4, g5, fun hf t x u d h0 ht hx hlt hn' => ?_⟩
        · simp only
          rw [start, if_neg (by rw [nI_leI (by decide) (by omega)]; omega), if_neg (by rw [nI_leI (by omega) (by omega)]; omega), e1, kn_bs, g1, zB_or]
        · by_cases e : t = i
          · subst e; exact g7 hf x u d hx hn'
          · have hf' : fl = false := by
              have : fl = false ∧ f1 = false := by simpa using hf
              exact this.1
            have q := q5 hf' t x u d h0 (by omega) hx (by omega) hn'
            exact ⟨q.1, fun z => Nat.le_trans g6 (q.2 z)⟩
      · have skip : lp_MD_twoWays_121 n (k + 1) (zB fl) (nI i) ν = lp_MD_twoWays_121 n k (zB fl) (nI (i + 1)) ν := by
          by_cases h1 : 100000 ≤ T' i
          · rw [start, if_pos (by rw [nI_leI (by decide) (by omega)]; exact h1)]
          · rw [start, if_neg (by rw [nI_leI (by decide) (by omega)]; exact h1), if_pos (by rw [nI_leI (by omega) (by omega)]; omega)]
        refine ⟨(zB fl, nI (i + 1), ν), skip, by omega, T', B', fl, rfl, rfl, q1, q2, q3, q4, fun hf t x u d h0 ht hx hlt hn' => ?_⟩
        by_cases e : t = i
        · subst e
          rw [← q4.2.1 hf] at hlt
          omega
        · exact q5 hf t x u d h0 (by omega) hx hlt hn')
    3124 1 n (0, 1, μ) (by omega) (by omega) ⟨by omega, T, B, false, rfl, rfl, hc, hT, hM, ⟨fun _ => Nat.le_refl _, fun _ => rfl, fun q => by (cases q)⟩, fun _ t x u d h0 ht => absurd ht (by omega)⟩
def tMod (W : zW) (v : Int32) : Prop := (v = -1 ∧ ∀ k s, tR W k 0 s → 100000 ≤ s) ∨ ∃ s, v = nI s ∧ s < 100000 ∧ (∃ k, tR W k 0 s) ∧ ∀ k s', tR W k 0 s' → s ≤ s'
theorem tMod_eq {W : zW} {v v' : Int32} (h : tAns W v) (h' : tMod W v') : v = v' := by
  rcases h with ⟨e, h⟩ | ⟨s, e, h1, ⟨k, h2⟩, h3⟩
  · rcases h' with ⟨e', -⟩ | ⟨s', e', -, ⟨k', h2'⟩, -⟩
    · rw [e, e']
    · exact absurd h2' (h k' s')
  · rcases h' with ⟨e', h'⟩ | ⟨s', e', -, ⟨k', h2'⟩, h3'⟩
    · have := h' k s h2
      omega
    · have a := h3 k' s' h2'
      have b := h3' k s h2
      rw [e, e', show s = s' by omega]
theorem m_two {n : Nat} (hn : 400000000 ≤ n) {μ : kbM} {W : zW} (hW : zWok W) (hc : mWords μ W) : ∃ r, f_MD_twoWays n μ = some r ∧ tMod W r.1 := by
  have h10 := hW.1
  have c0 : mWords (kbW (kbW μ 57 3 0) 57 45 100000) W := mW.w45 (hc.fr (C := []) (S := [3]) (kbFr.w57 kbFr.rf (by decide)) (by decide) (by decide)) _
  obtain ⟨μ1, μ2, T, B, e1, e2, c2, t2, m2, i2⟩ := m_twoI (n := n) (by omega) hW c0 (by rw [kW_at]; rfl)
  have key : ∀ (m k : Nat) (κ : kbM) (T : Nat → Nat) (B : Nat), tSm T = m → m + 2 ≤ k → mWords κ W → mT κ T B → tM W T B → (∀ a b t, a < W.length → b < W.length → a ≠ b → zBo (zRowAt W b) (zRowAt W a) = some t → T t ≤ zSize (zRowAt W b)) → ∃ ν T' B', lp_MD_twoWays_113 n k 1 κ = some ν ∧ mT ν T' B' ∧ tM W T' B' ∧ tSt W T' B' ∧ ∀ a b t, a < W.length → b < W.length → a ≠ b → zBo (zRowAt W b) (zRowAt W a) = some t → T' t ≤ zSize (zRowAt W b) := by
    intro m
    induction m using Nat.strongRecOn with
    | ind m ih =>
      intro k κ T B hm hk h1 h2 h3 h4
      obtain ⟨k, rfl⟩ : ∃ q, k = q + 1 := ⟨k - 1, by omega⟩
      obtain ⟨r, e1, T1, B1, f1, g1, g2, g3, g4, g5, g6⟩ := m_pass (n := n) (by omega) hW h1 h2 h3
      have start : lp_MD_twoWays_113 n (k + 1) 1 κ = lp_MD_twoWays_113 n k (zB f1) r.2 := by
        simp only [lp_MD_twoWays_113]
        rw [if_neg (by decide), e1, kn_bs, g1]
      cases f1 with
      | false =>
        obtain ⟨k, rfl⟩ : ∃ q, k = q + 1 := ⟨k - 1, by omega⟩
        have eT := g5.2.1 rfl
        subst eT
        refine ⟨r.2, T1, B1, ?_, g3, g4, g6 rfl, h4⟩
        rw [start]
        simp only [lp_MD_twoWays_113]
        rw [if_pos zF0]
      | true =>
        have lt := g5.2.2 rfl
        obtain ⟨ν, T', B', e2, q⟩ := ih (tSm T1) (by omega) k r.2 T1 B1 rfl (by omega) g2 g3 g4 (fun a b t ha hb hab hz => Nat.le_trans (g5.1 t) (h4 a b t ha hb hab hz))
        exact ⟨ν, T', B', by rw [start]; exact e2, q⟩
  have hsm : tSm T ≤ 312500000 := Nat.le_trans (zSum_le (b := 100000) 3125 (fun t ht => (t2.1 t ht).2)) (by omega)
  obtain ⟨ν, T', B', e3, t3, m3, s3, i3⟩ := key (tSm T) n μ2 T B rfl (by omega) c2 t2 m2 i2
  have hb := t3.2.2
  have path := tSt_path hW s3 i3
  unfold f_MD_twoWays jn_MD_twoWays_186
  rw [e1, kn_bs, e2, kn_bs, e3, kn_bs, t3.2.1, show (100000 : Int32) = nI 100000 from rfl]
  by_cases hlt : B' < 100000
  · rw [if_pos (by rw [nI_ltI (by omega) (by decide)]; exact hlt)]
    exact ⟨_, rfl, Or.inr ⟨B', rfl, hlt, m3.2 hlt, fun k s' hr => (path k 0 s' hr).2 rfl⟩⟩
  · rw [if_neg (by rw [nI_ltI (by omega) (by decide)]; exact hlt)]
    refine ⟨_, rfl, Or.inl ⟨rfl, fun k s hr => ?_⟩⟩
    have := (path k 0 s hr).2 rfl
    omega
theorem op_18 {n : Nat} (hn : 400000000 ≤ n) {μ : kbM} (hI : kbInv μ) : ∃ μ', c_law_18 n μ = some μ' ∧ kbInv μ' := by
  obtain ⟨A, hA, hC, hM⟩ := hI
  obtain ⟨r, e1, h1⟩ := c_two (n := n) (by omega) hA.words hC.words
  have f1 := fr_f_CO_shortestAmbiguous e1
  have hC1 := hC.fr f1 (by decide) (by decide)
  have hM1 := hM.fr f1 (by decide) (by decide)
  obtain ⟨r2, e2, h2⟩ := m_two hn hA.words hM1.words
  have f2 := fr_f_MD_twoWays e2
  refine ⟨r2.2, ?_, A, hA, hC1.fr f2 (by decide) (by decide), hM1.fr f2 (by decide) (by decide)⟩
  unfold c_law_18 f_KB_twoWays
  rw [e1, kn_bs, kn_bs, e2, kn_bs, if_pos (tMod_eq h1 h2)]
