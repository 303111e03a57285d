/-! THE READING, word by word -/
theorem zFind_p (p : Nat → Bool) (c : Nat) : ∀ (j i q : Nat), zFind p c j i = some q → p q = true := by
  intro j
  induction j with
  | zero => intro i q h; cases h
  | succ j ih =>
    intro i q h
    simp only [zFind] at h
    by_cases hi : i < c
    · rw [if_pos hi] at h
      by_cases hp : p i = true
      · rw [if_pos hp] at h; cases h; exact hp
      · rw [if_neg hp] at h; exact ih _ _ h
    · rw [if_neg hi] at h; cases h
theorem zFind_end (p : Nat → Bool) (c : Nat) : zFind p c (c - c) c = none := by rw [Nat.sub_self]; rfl
theorem zFind_go {p : Nat → Bool} {c i : Nat} (hi : i < c) : zFind p c (c - i) i = if p i = true then some i else zFind p c (c - (i + 1)) (i + 1) := by
  rw [show c - i = (c - (i + 1)) + 1 by omega]
  simp only [zFind]
  rw [if_pos hi]
def rPx (W : zW) (C : List Int) (v p a m w : Nat) : Bool := decide (rQ W C v p w = some m) && jA W C a w
def rNx (W : zW) (C : List Int) (v p a m : Nat) : Option Nat := zFind (fun w => rPx W C v p a m w) W.length W.length 0
def rSq (W : zW) (C : List Int) (v F : Nat) : Nat → Nat × Nat
  | 0 => (0, 10)
  | k + 1 => match rNx W C v (rSq W C v F k).1 (rSq W C v F k).2 (F - k) with | some w => ((rSq W C v F k).1 + zSize (zRowAt W w), w) | none => rSq W C v F k
def aI (a : Nat) : Int32 := if a = 10 then -1 else nI a
theorem rNx_ex {W : zW} (hW : zWok W) (C : List Int) {v p a m : Nat} (hm : 0 < m) (h : rF W C v p a = some m) : ∃ w, w < W.length ∧ rNx W C v p a m = some w ∧ rQ W C v p w = some m ∧ jA W C a w = true := by
  unfold rF at h
  have hp : ¬ p = zSize v := fun q => by rw [if_pos q] at h; cases h; omega
  rw [if_neg hp] at h
  obtain ⟨i, hi, q⟩ := zBig_hit W.length h
  have qj : jA W C a i = true ∧ rQ W C v p i = some m := by
    cases hj : jA W C a i
    · rw [hj, if_neg (by decide)] at q; cases q
    · rw [hj, if_pos rfl] at q; exact ⟨rfl, q⟩
  cases hn : rNx W C v p a m with
  | none =>
    have := (zFind_spec (fun w => rPx W C v p a m w) W.length W.length 0 (Nat.zero_add _)).mp hn i (Nat.zero_le _) hi
    (try simp only at this)
    unfold rPx at this
    rw [qj.1, qj.2] at this
    simp at this
  | some w =>
    have h1 := zFind_lt _ _ _ _ _ hn
    have h2 := zFind_p _ _ _ _ _ hn
    (try simp only at h2)
    unfold rPx at h2
    simp only [Bool.and_eq_true, decide_eq_true_eq] at h2
    exact ⟨w, h1, rfl, h2.1, h2.2⟩
theorem rQ_st {W : zW} {C : List Int} {v p w m : Nat} (h : rQ W C v p w = some m) : zSa W v p w = true := by
  cases hs : zSa W v p w with
  | true => rfl
  | false => rw [rQ_f C hs] at h; cases h
theorem rSq_ok {W : zW} (hW : zWok W) (C : List Int) {v F : Nat} (hv0 : v ≠ 0) (hF : rFw W C v = some F) : ∀ k, k ≤ F → (rSq W C v F k).1 ≤ zSize v ∧ ((rSq W C v F k).2 < W.length ∨ (rSq W C v F k).2 = 10) ∧ rF W C v (rSq W C v F k).1 (rSq W C v F k).2 = some (F - k) := by
  intro k
  induction k with
  | zero => intro _; exact ⟨Nat.zero_le _, Or.inr rfl, by show rF W C v 0 10 = some F; rw [rF_10 C hv0]; exact hF⟩
  | succ k ih =>
    intro hk
    obtain ⟨h1, h2, h3⟩ := ih (by omega)
    obtain ⟨w, k1, k2, k3, k4⟩ := rNx_ex hW C (by omega) h3
    have e : rSq W C v F (k + 1) = ((rSq W C v F k).1 + zSize (zRowAt W w), w) := by
      show (match rNx W C v (rSq W C v F k).1 (rSq W C v F k).2 (F - k) with | some w => ((rSq W C v F k).1 + zSize (zRowAt W w), w) | none => rSq W C v F k) = _
      rw [k2]
    rw [e]
    have hst := rQ_st k3
    refine ⟨zSa_le hst, Or.inl k1, ?_⟩
    rw [rQ_rF hW C k1 hst] at k3
    simp only
    cases hz : rF W C v ((rSq W C v F k).1 + zSize (zRowAt W w)) w with
    | none => rw [hz] at k3; cases k3
    | some x =>
      rw [hz] at k3
      have : x + 1 = F - k := Option.some.inj k3
      congr 1
      omega
theorem rSq_s {W : zW} (hW : zWok W) (C : List Int) {v F : Nat} (hv0 : v ≠ 0) (hF : rFw W C v = some F) {k : Nat} (hk : k < F) : ∃ w, w < W.length ∧ rNx W C v (rSq W C v F k).1 (rSq W C v F k).2 (F - k) = some w ∧ rSq W C v F (k + 1) = ((rSq W C v F k).1 + zSize (zRowAt W w), w) := by
  obtain ⟨h1, h2, h3⟩ := rSq_ok hW C hv0 hF k (by omega)
  obtain ⟨w, k1, k2, k3, k4⟩ := rNx_ex hW C (by omega) h3
  refine ⟨w, k1, k2, ?_⟩
  show (match rNx W C v (rSq W C v F k).1 (rSq W C v F k).2 (F - k) with | some w => ((rSq W C v F k).1 + zSize (zRowAt W w), w) | none => rSq W C v F k) = _
  rw [k2]
theorem f0_eq {x : Option Nat} (h : oBt 100 x) {m : Nat} (hm : 0 < m) (hm2 : m ≤ 100) : (nI (f0 x) = nI m) ↔ x = some m := by
  rcases x with _ | x
  · show nI 0 = nI m ↔ _
    rw [nI_eq (by decide) (by omega)]
    constructor
    · intro q; omega
    · intro q; cases q
  · have := h x rfl
    show nI x = nI m ↔ _
    rw [nI_eq (by omega) (by omega)]
    constructor
    · intro q; rw [q]
    · intro q; cases q; rfl
theorem c_first {n : Nat} (hn : 1000 ≤ n) {μ : kbM} {W : zW} {C : List Int} (hW : zWok W) (hC : zCok C) (hR : cRule μ W C) {v p a m : Nat} (hv : v ≤ 244140624) (hp : p ≤ zSize v) (ha : a < W.length ∨ a = 10) (hm : 0 < m) (hm2 : m ≤ 12) (hL : cLaid μ W C v 0) {w : Nat} (hw : rNx W C v p a m = some w) : ∃ ν, f_SP_firstLaid n (nI p) (aI a) (nI m) μ = some (nI w, ν) ∧ cRule ν W C ∧ cLaid ν W C v 0 := by
  have h10 := hW.1
  have h12 := zSize_12.mpr hv
  obtain ⟨r, e1, w', ν, e2, e3, e4, e5⟩ := kn_for (fun k (s : Int32 × kbM) => lp_SP_firstLaid_3 n (nI p) (aI a) (nI m) k s.1 s.2) (fun i s => s.1 = nI i ∧ cRule s.2 W C ∧ cLaid s.2 W C v 0 ∧ rNx W C v p a m = zFind (fun w => rPx W C v p a m w) W.length (W.length - i) i) W.length (fun r => ∃ w' ν, r = .inl (nI w', ν) ∧ rNx W C v p a m = some w' ∧ cRule ν W C ∧ cLaid ν W C v 0)
    (fun k s hs => by
      obtain ⟨y, ν⟩ := s
      simp only at hs
      obtain ⟨rfl, q1, q2, q3⟩ := hs
      rw [zFind_end, hw] at q3
      cases q3)
    (fun k i s hi hs => by
      obtain ⟨y, ν⟩ := s
      simp only at hs
      obtain ⟨rfl, q1, q2, q3⟩ := hs
      rw [zFind_go hi] at q3
      have k1 := (q2 p i (Nat.zero_le _) hp hi).1
      have fe := f0_eq (oBt_mono (show zSize v - p ≤ 100 by omega) (rQ_bt hW C v _ p i rfl hi)) hm (by omega)
      have start : lp_SP_firstLaid_3 n (nI p) (aI a) (nI m) (k + 1) (nI i) ν = if nI (f0 (rQ W C v p i)) = nI m then (if aI a = -1 then some (.inl (nI i, ν)) else (f_JO_mayFollow n (aI a) (nI i) ν).bind fun x1 => if x1.1 = 0 then lp_SP_firstLaid_3 n (nI p) (aI a) (nI m) k (nI (i + 1)) x1.2 else some (.inl (nI i, x1.2))) else lp_SP_firstLaid_3 n (nI p) (aI a) (nI m) k (nI (i + 1)) ν := by
        simp only [lp_SP_firstLaid_3, jn_SP_firstLaid_42, jn_SP_firstLaid_67, jn_SP_firstLaid_70]
        rw [kl_12, if_neg (by rw [nI_ltI (by decide) (by omega)]; omega), q1.1.1, if_neg (by rw [nI_leI (by omega) (by omega)]; omega), kl_10, pk_mul, nI_add, kn_inT (show p * 10 + i < 130 by omega) (by omega), kn_if_t, nI_clamp (by omega), k1, nI_1, if_neg (show ¬ (1 : Int32) = 0 by decide), if_pos trivial]
      by_cases hq : rQ W C v p i = some m
      · rw [start, if_pos (fe.mpr hq)]
        rcases ha with ha | ha
        · have ea : aI a = nI a := by unfold aI; rw [if_neg (by omega)]
          rw [ea, if_neg (by rw [kn_nm1 (by omega)]; exact id)]
          obtain ⟨ν1, e1, r1⟩ := jo_may (n := n) (by omega) h10 ha hi hC q1
          have f1 := fr_f_JO_mayFollow e1
          have L1 : cLaid ν1 W C v 0 := fun b w h1 h2 h3 => by rw [show ν1.1 45 = ν.1 45 from fr_at f1 (by decide) (by decide), show ν1.2 44 = ν.2 44 from fr_at2 f1 (by decide) (by decide)]; exact q2 b w h1 h2 h3
          rw [e1, kn_bs]
          simp only
          have ej : jA W C a i = zJoin W C a i := by unfold jA; rw [if_neg (by omega)]
          cases hj : zJoin W C a i
          · refine Or.inr ⟨(nI (i + 1), ν1), ?_, rfl, r1, L1, ?_⟩
            · rw [if_pos zF0]
            · rw [q3, if_neg (show ¬ rPx W C v p a m i = true by unfold rPx; rw [ej, hj]; simp)]
          · refine Or.inl ⟨.inl (nI i, ν1), ?_, i, ν1, rfl, ?_, r1, L1⟩
            · rw [if_neg zT0]
            · rw [q3, if_pos (show rPx W C v p a m i = true by unfold rPx; rw [ej, hj, hq]; simp)]
        · have ea : aI a = -1 := by unfold aI; rw [if_pos ha]
          rw [ea, if_pos rfl]
          refine Or.inl ⟨_, rfl, i, ν, rfl, ?_, q1, q2⟩
          rw [q3, if_pos (show rPx W C v p a m i = true by unfold rPx jA; rw [if_pos ha, hq]; simp)]
      · refine Or.inr ⟨(nI (i + 1), ν), ?_, rfl, q1, q2, ?_⟩
        · rw [start, if_neg (fun q => hq (fe.mp q))]
        · rw [q3, if_neg (show ¬ rPx W C v p a m i = true by unfold rPx; rw [decide_eq_false hq]; simp)])
    W.length 0 n (0, μ) (by omega) (by omega) ⟨rfl, hR, hL, rfl⟩
  refine ⟨ν, ?_, e4, e5⟩
  unfold f_SP_firstLaid
  rw [hw] at e3
  cases e3
  rw [show lp_SP_firstLaid_3 n (nI p) (aI a) (nI m) n 0 μ = some r from e1, e2]
  rfl
theorem c_wordL {n : Nat} (hn : 1000 ≤ n) {μ : kbM} {W : zW} {C : List Int} (hW : zWok W) (hC : zCok C) (hR : cRule μ W C) {v F i : Nat} (hv : v ≤ 244140624) (hv0 : v ≠ 0) (hF : rFw W C v = some F) (hi : i < F) (hL : cLaid μ W C v 0) : ∃ ν, f_SP_wordLaid n (nI i) μ = some (aI (rSq W C v F (i + 1)).2, ν) ∧ cRule ν W C := by
  have h10 := hW.1
  have h12 := zSize_12.mpr hv
  have hF12 := rFw_bt hW C hv F hF
  obtain ⟨r, e1, ν, e2, e3⟩ := kn_for (fun k (s : Int32 × Int32 × Int32 × kbM) => lp_SP_wordLaid_13 n (nI i) (nI F) k s.1 s.2.1 s.2.2.1 s.2.2.2) (fun j s => s.1 = nI (rSq W C v F j).1 ∧ s.2.1 = aI (rSq W C v F j).2 ∧ s.2.2.1 = nI j ∧ cRule s.2.2.2 W C ∧ cLaid s.2.2.2 W C v 0) (i + 1) (fun r => ∃ ν, r = .inr (aI (rSq W C v F (i + 1)).2, ν) ∧ cRule ν W C)
    (fun k s hs => by
      obtain ⟨x, y, z, ν⟩ := s
      simp only at hs
      obtain ⟨rfl, rfl, rfl, q1, q2⟩ := hs
      refine ⟨.inr (aI (rSq W C v F (i + 1)).2, ν), ?_, ν, rfl, q1⟩
      simp only [lp_SP_wordLaid_13]
      rw [if_pos (by rw [nI_ltI (by omega) (by omega)]; omega)])
    (fun k j s hj hs => by
      obtain ⟨x, y, z, ν⟩ := s
      simp only at hs
      obtain ⟨rfl, rfl, rfl, q1, q2⟩ := hs
      obtain ⟨h1, h2, h3⟩ := rSq_ok hW C hv0 hF j (by omega)
      obtain ⟨w, k1, k2, k3⟩ := rSq_s hW C hv0 hF (k := j) (by omega)
      obtain ⟨ν1, e1, r1, L1⟩ := c_first hn hW hC q1 hv h1 h2 (by omega) (by omega) q2 k2
      refine Or.inr ⟨(nI (rSq W C v F (j + 1)).1, aI (rSq W C v F (j + 1)).2, nI (j + 1), ν1), ?_, rfl, rfl, rfl, r1, L1⟩
      simp only [lp_SP_wordLaid_13]
      rw [if_neg (by rw [nI_ltI (by omega) (by omega)]; omega), kl_12, if_neg (by rw [nI_leI (by decide) (by omega)]; omega), pk_sub (by omega), e1, kn_bs]
      simp only
      rw [if_neg (by rw [kn_nm1 (by omega)]; exact id), kn_inT (by omega) (by omega), kn_if_t, nI_clamp (by omega), (r1.1.2 w k1).2.1, nI_add, nI_1, k3]
      unfold aI
      rw [if_neg (show ¬ w = 10 by omega)])
    (i + 1) 0 n (0, -1, 0, μ) (by omega) (by omega) ⟨rfl, rfl, rfl, hR, hL⟩
  refine ⟨ν, ?_, e3⟩
  unfold f_SP_wordLaid jn_SP_wordLaid_66
  rw [c_fewestL hn hW hR hv hL, kn_bs, hF, show lp_SP_wordLaid_13 n (nI i) (nI (f0 (some F))) n 0 (-1) 0 μ = some r from e1, e2]
  rfl
/-! the model's -/
theorem m_next {n : Nat} (hn : 1000 ≤ n) (z : Int32) {μ : kbM} {W : zW} {C : List Int} (hW : zWok W) (hC : zCok C) (hR : mRule μ W C) {v p a F j : Nat} (hv : v ≤ 244140624) (hS : mSn μ W v) (hM : mRd μ W C v 0) (hp : p ≤ zSize v) (ha : a < W.length ∨ a = 10) (hj : j < F) (hF : F ≤ 12) {w : Nat} (hw : rNx W C v p a (F - j) = some w) : ∃ r, lp_MD_reading_64 n z (nI F) (nI p) (aI a) (nI j) n (-1) 0 μ = some r ∧ r.1 = nI w ∧ (mRule r.2 W C ∧ mSn r.2 W v) ∧ mRd r.2 W C v 0 := by
  have h10 := hW.1
  have h12 := zSize_12.mpr hv
  have eai : aI a = (if nI a = 10 then -1 else nI a) := by
    unfold aI
    by_cases e : a = 10
    · rw [if_pos e, if_pos (by rw [e]; rfl)]
    · rw [if_neg e, if_neg (by rw [kl_10, nI_eq (by omega) (by decide)]; exact e)]
  exact kn_for (fun k (s : Int32 × Int32 × kbM) => lp_MD_reading_64 n z (nI F) (nI p) (aI a) (nI j) k s.1 s.2.1 s.2.2) (fun i s => s.2.1 = nI i ∧ ((mRule s.2.2 W C ∧ mSn s.2.2 W v) ∧ mRd s.2.2 W C v 0) ∧ ((s.1 = -1 ∧ rNx W C v p a (F - j) = zFind (fun w => rPx W C v p a (F - j) w) W.length (W.length - i) i) ∨ s.1 = nI w)) W.length (fun r => r.1 = nI w ∧ (mRule r.2 W C ∧ mSn r.2 W v) ∧ mRd r.2 W C v 0)
    (fun k s hs => by
      obtain ⟨x, y, ν⟩ := s
      simp only at hs
      obtain ⟨rfl, q1, q2⟩ := hs
      rcases q2 with ⟨-, q2⟩ | rfl
      · rw [zFind_end, hw] at q2; cases q2
      · refine ⟨(nI w, ν), ?_, rfl, q1.1, q1.2⟩
        simp only [lp_MD_reading_64]
        rw [q1.1.1.1.1, if_pos (by rw [nI_leI (by omega) (by omega)]; omega)])
    (fun k i s hi hs => by
      obtain ⟨x, y, ν⟩ := s
      simp only at hs
      obtain ⟨rfl, q1, q2⟩ := hs
      rcases q2 with ⟨rfl, q2⟩ | rfl
      · rw [zFind_go hi] at q2
        have st := m_stands (n := n) (by omega) hW hv q1.1.2 hp hi
        obtain ⟨ν1, e1, r1⟩ := md_joinsA (n := n) (by omega) hW ha hi hC q1.1.1
        rw [← eai] at e1
        have f1 := fr_f_MD_joins e1
        have S1 : mSn ν1 W v := q1.1.2.fr f1 (by decide) (by decide)
        have M1 : mRd ν1 W C v 0 := fun b w h1 h2 h3 => by rw [show ν1.1 77 = ν.1 77 from fr_at f1 (by decide) (by decide), show ν1.2 80 = ν.2 80 from fr_at2 f1 (by decide) (by decide)]; exact q1.2 b w h1 h2 h3
        have z79 : ν1.1 79 i = nI (zSize (zRowAt W i)) := (S1.2.2 i hi).1
        refine Or.inr ?_
        cases hst : zSa W v p i
        · rw [hst] at st
          refine ⟨(-1, nI (i + 1), ν), ?_, rfl, q1, Or.inl ⟨rfl, ?_⟩⟩
          · simp only [lp_MD_reading_64, jn_MD_reading_135]
            rw [q1.1.1.1.1, if_neg (by rw [nI_leI (by omega) (by omega)]; omega), if_pos trivial, st, kn_bs, if_pos zF0, nI_1]
          · rw [q2, if_neg (show ¬ rPx W C v p a (F - j) i = true by unfold rPx; rw [rQ_f C hst]; simp)]
        · rw [hst] at st
          have hle := zSa_le hst
          have s6 := hW.s6 hi
          have t1 := (M1 (p + zSize (zRowAt W i)) i (Nat.zero_le _) hle (Or.inl hi)).1
          have hlt := rF_lt hW C hv (p + zSize (zRowAt W i)) i
          have eq : (nI (fC (rF W C v (p + zSize (zRowAt W i)) i)) = nI F - nI j - 1) ↔ rQ W C v p i = some (F - j) := by
            rw [rQ_rF hW C hi hst, pk_sub (by omega), kn_sub1 (by omega)]
            cases hz : rF W C v (p + zSize (zRowAt W i)) i with
            | none =>
              show nI 100000 = _ ↔ none = _
              rw [nI_eq (by decide) (by omega)]
              constructor
              · intro q; omega
              · intro q; cases q
            | some x =>
              have := hlt x hz
              show nI x = _ ↔ some (x + 1) = _
              rw [nI_eq (by omega) (by omega)]
              constructor
              · intro q; congr 1; omega
              · intro q; have := Option.some.inj q; omega
          have start : lp_MD_reading_64 n z (nI F) (nI p) (aI a) (nI j) (k + 1) (-1) (nI i) ν = if zB (jA W C a i) = 0 then lp_MD_reading_64 n z (nI F) (nI p) (aI a) (nI j) k (-1) (nI (i + 1)) ν1 else if nI (fC (rF W C v (p + zSize (zRowAt W i)) i)) = nI F - nI j - 1 then lp_MD_reading_64 n z (nI F) (nI p) (aI a) (nI j) k (nI i) (nI (i + 1)) ν1 else lp_MD_reading_64 n z (nI F) (nI p) (aI a) (nI j) k (-1) (nI (i + 1)) ν1 := by
            simp only [lp_MD_reading_64, jn_MD_reading_135]
            rw [q1.1.1.1.1, if_neg (by rw [nI_leI (by omega) (by omega)]; omega), if_pos trivial, st, kn_bs, if_neg zT0, e1, kn_bs]
            simp only [z79, nI_clamp (show i < 2 ^ 31 by omega), kn_inT (show i < 10 by omega) (show i < 2 ^ 31 by omega), kn_if_t]
            rw [show (11 : Int32) = nI 11 from rfl, nI_add, pk_mul, nI_add, kn_inT (show 11 * (p + zSize (zRowAt W i)) + i < 143 by omega) (by omega), kn_if_t, nI_clamp (show 11 * (p + zSize (zRowAt W i)) + i < 2 ^ 31 by omega), t1, nI_1]
          cases hja : jA W C a i
          · refine ⟨(-1, nI (i + 1), ν1), ?_, rfl, ⟨⟨r1, S1⟩, M1⟩, Or.inl ⟨rfl, ?_⟩⟩
            · simp only; rw [start, hja, if_pos zF0]
            · rw [q2, if_neg (show ¬ rPx W C v p a (F - j) i = true by unfold rPx; rw [hja]; simp)]
          · by_cases hq : rQ W C v p i = some (F - j)
            · refine ⟨(nI i, nI (i + 1), ν1), ?_, rfl, ⟨⟨r1, S1⟩, M1⟩, Or.inr ?_⟩
              · simp only; rw [start, hja, if_neg zT0, if_pos (eq.mpr hq)]
              · rw [if_pos (show rPx W C v p a (F - j) i = true by unfold rPx; rw [hja, hq]; simp), hw] at q2
                cases q2; rfl
            · refine ⟨(-1, nI (i + 1), ν1), ?_, rfl, ⟨⟨r1, S1⟩, M1⟩, Or.inl ⟨rfl, ?_⟩⟩
              · simp only; rw [start, hja, if_neg zT0, if_neg (fun q => hq (eq.mp q))]
              · rw [q2, if_neg (show ¬ rPx W C v p a (F - j) i = true by unfold rPx; rw [decide_eq_false hq]; simp)]
      · have hwl := zFind_lt _ _ _ _ _ hw
        refine Or.inl ⟨(nI w, ν), ?_, rfl, q1.1, q1.2⟩
        simp only [lp_MD_reading_64]
        rw [q1.1.1.1.1, if_neg (by rw [nI_leI (by omega) (by omega)]; omega), if_neg (by rw [kn_nm1 (by omega)]; exact id)])
    W.length 0 n (-1, 0, μ) (by omega) (by omega) ⟨rfl, ⟨⟨hR, hS⟩, hM⟩, Or.inl ⟨rfl, rfl⟩⟩
theorem m_wordR {n : Nat} (hn : 1000 ≤ n) {μ : kbM} {W : zW} {C : List Int} (hW : zWok W) (hC : zCok C) (hR : mRule μ W C) {v F i : Nat} (hv : v ≤ 244140624) (hv0 : v ≠ 0) (hF : rFw W C v = some F) (hi : i < F) (hS : mSn μ W v) (hM : mRd μ W C v 0) : ∃ r, lp_MD_reading_52 n (nI i) (nI F) n 0 (-1) 0 μ = some r ∧ r.1 = aI (rSq W C v F (i + 1)).2 := by
  have h10 := hW.1
  have h12 := zSize_12.mpr hv
  have hF12 := rFw_bt hW C hv F hF
  exact kn_for (fun k (s : Int32 × Int32 × Int32 × kbM) => lp_MD_reading_52 n (nI i) (nI F) k s.1 s.2.1 s.2.2.1 s.2.2.2) (fun j s => s.1 = nI (rSq W C v F j).1 ∧ s.2.1 = aI (rSq W C v F j).2 ∧ s.2.2.1 = nI j ∧ (mRule s.2.2.2 W C ∧ mSn s.2.2.2 W v) ∧ mRd s.2.2.2 W C v 0) (i + 1) (fun r => r.1 = aI (rSq W C v F (i + 1)).2)
    (fun k s hs => by
      obtain ⟨x, y, z, ν⟩ := s
      simp only at hs
      obtain ⟨rfl, rfl, rfl, q1, q2⟩ := hs
      refine ⟨(aI (rSq W C v F (i + 1)).2, ν), ?_, rfl⟩
      simp only [lp_MD_reading_52]
      rw [if_pos (by rw [nI_ltI (by omega) (by omega)]; omega)])
    (fun k j s hj hs => by
      obtain ⟨x, y, z, ν⟩ := s
      simp only at hs
      obtain ⟨rfl, rfl, rfl, q1, q2⟩ := hs
      obtain ⟨h1, h2, h3⟩ := rSq_ok hW C hv0 hF j (by omega)
      obtain ⟨w, k1, k2, k3⟩ := rSq_s hW C hv0 hF (k := j) (by omega)
      obtain ⟨r, e1, e2, e3, e4⟩ := m_next hn (nI i) hW hC q1.1 hv q1.2 q2 h1 h2 (by omega) (by omega) k2
      refine Or.inr ⟨(nI (rSq W C v F (j + 1)).1, aI (rSq W C v F (j + 1)).2, nI (j + 1), r.2), ?_, rfl, rfl, rfl, e3, e4⟩
      simp only [lp_MD_reading_52, jn_MD_reading_141]
      rw [if_neg (by rw [nI_ltI (by omega) (by omega)]; omega), e1, kn_bs, e2, kn_inT (by omega) (by omega), kn_if_t, nI_clamp (by omega), (e3.2.2.2 w k1).1, nI_add, nI_1, k3]
      unfold aI
      rw [if_neg (show ¬ w = 10 by omega)])
    (i + 1) 0 n (0, -1, 0, μ) (by omega) (by omega) ⟨rfl, rfl, rfl, ⟨hR, hS⟩, hM⟩
def s_reading (A : zA) (u1 u2 : Int32) : Int32 × Int32 := if zIsRow u1 = true then (if zIn u2 (f0 (rFw A.1.1.1 A.2.2.2.1 u1.toNatClampNeg)) = true then (0, aI (rSq A.1.1.1 A.2.2.2.1 u1.toNatClampNeg (f0 (rFw A.1.1.1 A.2.2.2.1 u1.toNatClampNeg)) (u2.toNatClampNeg + 1)).2) else (2, 0)) else (1, 0)
theorem f0_le {W : zW} (hW : zWok W) (C : List Int) {v : Nat} (hv : v ≤ 244140624) : f0 (rFw W C v) ≤ 12 := by
  cases h : rFw W C v with
  | none => exact Nat.zero_le _
  | some x => exact (rFw_bt hW C hv x h).2
theorem f0_pos {W : zW} (hW : zWok W) (C : List Int) {v i : Nat} (h : i < f0 (rFw W C v)) : v ≠ 0 ∧ rFw W C v = some (f0 (rFw W C v)) := by
  cases hq : rFw W C v with
  | none => rw [hq] at h; exact absurd h (Nat.not_lt_zero _)
  | some x =>
    refine ⟨fun q => ?_, rfl⟩
    rw [q, rFw_0 hW] at hq; cases hq
theorem cl_reading {n : Nat} (hn : 1000 ≤ n) {μ : kbM} {A : zA} (hA : zOk A) (h : rC μ A) (u1 u2 : Int32) : ∃ μ1, f_L_reading n u1 u2 μ = some ((s_reading A u1 u2).1, μ1) ∧ ((s_reading A u1 u2).1 = 0 → μ1.2 97 0 = (s_reading A u1 u2).2.toInt64) ∧ cKnown μ1 A.1.1.1 A.2.2.2.1 := by
  unfold f_L_reading f_KB_reading s_reading jn_KB_reading_27
  rw [kb_needRow (by omega)]
  cases q1 : zIsRow u1
  · exact ⟨μ, rfl, fun q => absurd q z1n, h.rule.2.2⟩
  · obtain ⟨v, rfl, hr, hv⟩ := zIsRow_t q1
    obtain ⟨ν, e1, e2, e3⟩ := c_lay hn hA.words hA.code h.rule hv
    have hle := f0_le hA.words A.2.2.2.1 hv
    simp only [↓reduceIte, kn_or_r]
    rw [e1, kn_bs, c_fewestL hn hA.words e2 hv e3, nI_clamp (by omega)]
    simp only [kn_bs]
    rcases zIn_cases u2 (c := f0 (rFw A.1.1.1 A.2.2.2.1 v)) (by omega) with ⟨i, hi, rfl⟩ | ⟨h1, h2 | h2⟩
    · obtain ⟨hv0, hF⟩ := f0_pos hA.words A.2.2.2.1 hi
      obtain ⟨ν1, e4, e5⟩ := c_wordL hn hA.words hA.code e2 hv hv0 hF hi e3
      rw [if_neg (nI_pos (by omega)), if_pos (by rw [nI_ltI (by omega) (by omega)]; exact hi), zIn_n (by omega), decide_eq_true hi, if_pos rfl, e4, kn_bs, nI_clamp (by omega)]
      exact ⟨_, rfl, fun _ => kX_at, e5.2.2⟩
    · rw [if_pos h2, h1]; exact ⟨ν, rfl, fun q => absurd q z2n, e2.2.2⟩
    · rw [if_neg h2.1, if_neg h2.2.2, h1]; exact ⟨ν, rfl, fun q => absurd q z2n, e2.2.2⟩
theorem md_reading {n : Nat} (hn : 1000 ≤ n) {μ : kbM} {A : zA} (hA : zOk A) (h0 : rM μ A) (u1 u2 : Int32) : ∃ v μ2, f_MD_reading n u1 u2 μ = some (v, μ2) ∧ μ2.1 57 3 = (s_reading A u1 u2).1 ∧ ((s_reading A u1 u2).1 = 0 → v = (s_reading A u1 u2).2) := by
  have h := h0.c0 0
  unfold f_MD_reading s_reading f_MD_fail
  rw [md_isRow (by omega), kn_bs]
  cases q1 : zIsRow u1
  · rw [if_pos zF0]; exact ⟨_, _, rfl, kW_at, fun q => absurd q z1n⟩
  · obtain ⟨v, rfl, hr, hv⟩ := zIsRow_t q1
    obtain ⟨ν, e1, e2, e3⟩ := m_fewestW hn hA.words hA.code h.rule hv
    have f := fr_f_MD_fewest e1
    have k57 : ν.1 57 3 = 0 := (fr_57 f (by decide) (by decide)).trans kW_at
    have hle := f0_le hA.words A.2.2.2.1 hv
    rw [if_neg zT0, e1, kn_bs]
    simp only [↓reduceIte]
    rw [kn_isIn u2 (by omega), kn_bs, nI_clamp (by omega)]
    rcases zIn_cases u2 (c := f0 (rFw A.1.1.1 A.2.2.2.1 v)) (by omega) with ⟨i, hi, rfl⟩ | ⟨h1, h2⟩
    · obtain ⟨hv0, hF⟩ := f0_pos hA.words A.2.2.2.1 hi
      obtain ⟨r, e4, e5⟩ := m_wordR hn hA.words hA.code e2.1 hv hv0 hF hi e2.2 e3
      have f2 := fr_lp_MD_reading_52 e4
      rw [zIn_n (by omega), decide_eq_true hi, if_neg zT0, if_pos rfl, e4, kn_bs, e5, nI_clamp (by omega)]
      exact ⟨_, _, rfl, (fr_57 f2 (by decide) (by decide)).trans k57, fun _ => rfl⟩
    · rw [h1, if_pos zF0]
      exact ⟨_, _, rfl, kW_at, fun q => absurd q z2n⟩
theorem op_8 {n : Nat} (hn : 5000 ≤ n) {μ : kbM} (hI : kbInv μ) (u1 u2 : Int32) : ∃ μ', c_law_8 n u1 u2 μ = some μ' ∧ kbInv μ' := by
  obtain ⟨A, hA, hC, hM⟩ := hI
  obtain ⟨μ1, h1, h4, hk⟩ := cl_reading (n := n) (by omega) hA hC u1 u2
  have f1 := fr_f_L_reading h1
  have hC1 := hC.frk f1 (by decide) hk
  have hM1 := hM.fr f1 (by decide) (by decide)
  obtain ⟨v, μ2, h2, h3, h5⟩ := md_reading (n := n) (by omega) hA hM1 u1 u2
  have f2 := fr_f_MD_reading h2
  refine ⟨μ2, law_int h1 h2 h3 (fun q => ?_), A, hA, hC1.fr f2 (by decide) (by decide), hM1.fr f2 (by decide) (by decide)⟩
  rw [fr_at2 f2 (by decide) (by decide), h4 q, h5 q]
