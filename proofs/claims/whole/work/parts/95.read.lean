/-! READ: sounds, words that stand at a place -/
theorem dig_ext : ∀ z x y : Nat, x < 5 ^ z → y < 5 ^ z → (∀ k, k < z → x / 5 ^ k % 5 = y / 5 ^ k % 5) → x = y := by
  intro z
  induction z with
  | zero => intro x y hx hy _; simp at hx hy; omega
  | succ z ih =>
    intro x y hx hy h
    have h0 := h 0 (by omega)
    simp only [Nat.pow_zero, Nat.div_one] at h0
    rw [Nat.pow_succ] at hx hy
    have := ih (x / 5) (y / 5) (by omega) (by omega) (fun k hk => by
      have := h (k + 1) (by omega)
      rw [Nat.pow_succ, Nat.mul_comm, ← Nat.div_div_eq_div_mul, ← Nat.div_div_eq_div_mul] at this
      exact this)
    omega
theorem dig_slice (u a z k : Nat) (hk : k < z) : u / 5 ^ a % 5 ^ z / 5 ^ k % 5 = u / 5 ^ (a + k) % 5 := by
  have e : 5 ^ z = 5 ^ k * 5 ^ (z - k) := by rw [← Nat.pow_add]; congr 1; omega
  have d : (5 : Nat) ∣ 5 ^ (z - k) := by
    obtain ⟨j, hj⟩ : ∃ j, z - k = j + 1 := ⟨z - k - 1, by omega⟩
    rw [hj, Nat.pow_succ]
    exact Nat.dvd_mul_left 5 _
  rw [e, Nat.mod_mul_right_div_self, Nat.mod_mod_of_dvd _ d, Nat.div_div_eq_div_mul, ← Nat.pow_add]
/-- word w stands in v at p -/
def zSa (W : zW) (v p w : Nat) : Bool := decide (p + zSize (zRowAt W w) ≤ zSize v) && (v / 5 ^ (zSize v - (p + zSize (zRowAt W w))) % 5 ^ zSize (zRowAt W w) == zRowAt W w)
theorem zSa_dig {W : zW} {v p w : Nat} (h : p + zSize (zRowAt W w) ≤ zSize v) : zSa W v p w = zAll (fun k => zDg v (p + k) == zDg (zRowAt W w) k) (zSize (zRowAt W w)) := by
  unfold zSa
  rw [decide_eq_true h, Bool.true_and]
  apply Bool.eq_iff_iff.mpr
  rw [zAll_iff, beq_iff_eq]
  have hd : ∀ k, k < zSize (zRowAt W w) → v / 5 ^ (zSize v - (p + zSize (zRowAt W w))) % 5 ^ zSize (zRowAt W w) / 5 ^ (zSize (zRowAt W w) - 1 - k) % 5 = zDg v (p + k) := by
    intro k hk
    rw [dig_slice _ _ _ _ (by omega)]
    unfold zDg
    congr 3
    omega
  constructor
  · intro e k hk
    rw [beq_iff_eq, ← hd k hk, e]
    rfl
  · intro e
    refine dig_ext (zSize (zRowAt W w)) _ _ (Nat.mod_lt _ (five_pos _)) ((zSize_le _ _).mp (Nat.le_refl _)) (fun k hk => ?_)
    have := hd (zSize (zRowAt W w) - 1 - k) (by omega)
    rw [show zSize (zRowAt W w) - 1 - (zSize (zRowAt W w) - 1 - k) = k by omega] at this
    rw [this, beq_iff_eq.mp (e (zSize (zRowAt W w) - 1 - k) (by omega))]
    unfold zDg
    rw [show zSize (zRowAt W w) - 1 - (zSize (zRowAt W w) - 1 - k) = k by omega]
/-! the model's sounds -/
def mSn (μ : kbM) (W : zW) (v : Nat) : Prop := μ.1 57 38 = nI (zSize v) ∧ zSnd (μ.1 76) v ∧ ∀ w, w < W.length → μ.1 79 w = nI (zSize (zRowAt W w)) ∧ ∀ k, k < zSize (zRowAt W w) → μ.1 78 (6 * w + k) = nI (zDg (zRowAt W w) k)
theorem md_ts_lp (n : Nat) : ∀ (c k u : Nat) (μ : kbM), c ≤ 12 → c < k → u < 2 ^ 31 → ∃ μ', lp_MD_tellSounds_17 n k (nI u) (nI c - 1) μ = some μ' ∧ (∀ j, j < c → μ'.1 76 j = nI (u / 5 ^ (c - 1 - j) % 5)) ∧ ∀ j, c ≤ j → μ'.1 76 j = μ.1 76 j := by
  intro c
  induction c with
  | zero =>
    intro k u μ _ hk _
    obtain ⟨k, rfl⟩ : ∃ q, k = q + 1 := ⟨k - 1, by omega⟩
    refine ⟨μ, ?_, fun j h => absurd h (by omega), fun _ _ => rfl⟩
    unfold lp_MD_tellSounds_17
    rw [kn_m1, if_pos kn_m1lt]
  | succ c ih =>
    intro k u μ hc hk hu
    obtain ⟨k, rfl⟩ : ∃ q, k = q + 1 := ⟨k - 1, by omega⟩
    obtain ⟨μ', e, h1, h2⟩ := ih k (u / 5) (kbW μ 76 c (nI (u % 5))) (by omega) (by omega) (by omega)
    refine ⟨μ', ?_, fun j hj => ?_, fun j hj => ?_⟩
    · unfold lp_MD_tellSounds_17
      rw [nI_pred, if_neg (nI_pos (by omega)), kn_in (by omega), decide_eq_true (by omega), kn_if_t, nI_clamp (by omega), show (5 : Int32) = nI 5 from rfl, kn_rem hu (by decide) (by decide), kn_div hu (by decide) (by decide), kn_dec]
      exact e
    · by_cases hjc : j = c
      · subst hjc
        rw [h2 j (Nat.le_refl _), kW_at]
        simp
      · rw [h1 j (by omega), Nat.div_div_eq_div_mul, show c + 1 - 1 - j = (c - 1 - j) + 1 by omega, Nat.pow_succ, Nat.mul_comm]
    · rw [h2 j (by omega), kW_no (by omega)]
theorem md_tw_lp (n : Nat) {w : Nat} (hw : w < 10) : ∀ (c k u : Nat) (μ : kbM), c ≤ 6 → c < k → u < 2 ^ 31 → ∃ μ', lp_MD_tellSounds_83 n (nI w) k (nI u) (nI c - 1) μ = some μ' ∧ (∀ j, j < c → μ'.1 78 (6 * w + j) = nI (u / 5 ^ (c - 1 - j) % 5)) ∧ (∀ j, j < 6 * w ∨ 6 * w + c ≤ j → μ'.1 78 j = μ.1 78 j) := by
  intro c
  induction c with
  | zero =>
    intro k u μ _ hk _
    obtain ⟨k, rfl⟩ : ∃ q, k = q + 1 := ⟨k - 1, by omega⟩
    refine ⟨μ, ?_, fun j h => absurd h (by omega), fun _ _ => rfl⟩
    unfold lp_MD_tellSounds_83
    rw [kn_m1, if_pos kn_m1lt]
  | succ c ih =>
    intro k u μ hc hk hu
    obtain ⟨k, rfl⟩ : ∃ q, k = q + 1 := ⟨k - 1, by omega⟩
    obtain ⟨μ', e, h1, h2⟩ := ih k (u / 5) (kbW μ 78 (6 * w + c) (nI (u % 5))) (by omega) (by omega) (by omega)
    refine ⟨μ', ?_, fun j hj => ?_, fun j hj => ?_⟩
    · unfold lp_MD_tellSounds_83
      rw [nI_pred, if_neg (nI_pos (by omega)), kl_6, pk_mul, nI_add, kn_in (by omega), decide_eq_true (by omega), kn_if_t, nI_clamp (by omega), show (5 : Int32) = nI 5 from rfl, kn_rem hu (by decide) (by decide), kn_div hu (by decide) (by decide), kn_dec]
      exact e
    · by_cases hjc : j = c
      · subst hjc
        rw [h2 _ (Or.inr (Nat.le_refl _)), kW_at]
        simp
      · rw [h1 j (by omega), Nat.div_div_eq_div_mul, show c + 1 - 1 - j = (c - 1 - j) + 1 by omega, Nat.pow_succ, Nat.mul_comm]
    · rw [h2 j (by omega), kW_no (by omega)]
theorem m_tell {n : Nat} (hn : 100 ≤ n) {μ : kbM} {W : zW} (hW : zWok W) (hc : mWords μ W) {v : Nat} (hv : v ≤ 244140624) : ∃ ν, f_MD_tellSounds n (nI v) μ = some ν ∧ mSn ν W v := by
  have h10 := hW.1
  have h12 := zSize_12.mpr hv
  have sz := md_sizeOf (n := n) (v := v) (by omega) (by omega)
  obtain ⟨μ1, e1, q1, -⟩ := md_ts_lp n (zSize v) n v (kbW μ 57 38 (nI (zSize v))) h12 (by omega) (by omega)
  have f1 := fr_lp_MD_tellSounds_17 e1
  have c0 : mWords (kbW μ 57 38 (nI (zSize v))) W := hc.fr (C := []) (S := [38]) (kbFr.w57 kbFr.rf (by decide)) (by decide) (by decide)
  have c1 := c0.fr f1 (by decide) (by decide)
  have k38 : μ1.1 57 38 = nI (zSize v) := (fr_57 f1 (by decide) (by decide)).trans kW_at
  obtain ⟨ν, e2, q2⟩ := kn_for (fun k (s : Int32 × kbM) => lp_MD_tellSounds_42 n k s.1 s.2) (fun i s => s.1 = nI i ∧ mWords s.2 W ∧ s.2.1 57 38 = nI (zSize v) ∧ zSnd (s.2.1 76) v ∧ ∀ w, w < i → s.2.1 79 w = nI (zSize (zRowAt W w)) ∧ ∀ k, k < zSize (zRowAt W w) → s.2.1 78 (6 * w + k) = nI (zDg (zRowAt W w) k)) W.length (fun ν => mSn ν W v)
    (fun k s hs => by
      obtain ⟨x, ν⟩ := s
      simp only at hs
      obtain ⟨rfl, h1, h2⟩ := hs
      refine ⟨ν, ?_, h2⟩
      simp only [lp_MD_tellSounds_42]
      rw [h1.1, if_pos (by rw [nI_leI (by omega) (by omega)]; omega)])
    (fun k i s hi hs => by
      obtain ⟨x, ν⟩ := s
      simp only at hs
      obtain ⟨rfl, h1, h2, h3, h4⟩ := hs
      have s6 := hW.s6 hi
      have szi := md_sizeOf (n := n) (by omega) (hW.row hi).2.2
      obtain ⟨ν1, e3, q3, q4⟩ := md_tw_lp n (w := i) (by omega) (zSize (zRowAt W i)) n (zRowAt W i) (kbW ν 79 i (nI (zSize (zRowAt W i)))) s6 (by omega) (hW.row hi).2.2
      have f3 := fr_lp_MD_tellSounds_83 e3
      have d0 : mWords (kbW ν 79 i (nI (zSize (zRowAt W i)))) W := h1.fr (C := [79]) (S := []) (kbFr.w kbFr.rf (by decide)) (by decide) (by decide)
      have n79 : ν1.1 79 = (kbW ν 79 i (nI (zSize (zRowAt W i)))).1 79 := fr_at f3 (by decide) (by decide)
      have n76 : ν1.1 76 = ν.1 76 := (fr_at f3 (by decide) (by decide)).trans (kW_ne (by decide))
      refine Or.inr ⟨(nI (i + 1), ν1), ?_, rfl, d0.fr f3 (by decide) (by decide), ?_, ?_, fun w hw => ?_⟩
      · simp only [lp_MD_tellSounds_42]
        rw [h1.1, if_neg (by rw [nI_leI (by omega) (by omega)]; omega), kn_inT (show i < 10 by omega) (by omega), kn_if_t, nI_clamp (by omega), (h1.2 i hi).1, szi, kn_bs, kW_ne (by decide), (h1.2 i hi).1, kW_at, e3, nI_1]
        rfl
      · simp only
        rw [fr_57 f3 (by decide) (by decide), kW_ne (by decide)]; exact h2
      · simp only
        rw [n76]; exact h3
      · simp only
        rw [n79]
        by_cases e : w = i
        · subst e
          exact ⟨kW_at, q3⟩
        · rw [kW_no e]
          refine ⟨(h4 w (by omega)).1, fun k hk => ?_⟩
          have s6' := hW.s6 (show w < W.length by omega)
          rw [q4 _ (Or.inl (by omega)), kW_ne (by decide)]
          exact (h4 w (by omega)).2 k hk)
    W.length 0 n (0, μ1) (by omega) (by omega) ⟨rfl, c1, k38, q1, fun w hw => absurd hw (Nat.not_lt_zero w)⟩
  refine ⟨ν, ?_, q2⟩
  unfold f_MD_tellSounds
  rw [sz, kn_bs, kW_at, e1, kn_bs, show lp_MD_tellSounds_42 n n 0 μ1 = some ν from e2, kn_bs]
theorem mSn.fr {C S : List Nat} {μ μ' : kbM} {W : zW} {v : Nat} (h : kbFr C S μ μ') (hc : ∀ a ∈ [57, 76, 78, 79], a ∉ C) (hs : 38 ∉ S) (q : mSn μ W v) : mSn μ' W v := by
  unfold mSn at *
  rw [fr_57 h (hc 57 (by decide)) hs, fr_at h (hc 76 (by decide)) (by decide), fr_at h (hc 78 (by decide)) (by decide), fr_at h (hc 79 (by decide)) (by decide)]
  exact q
theorem m_stands {n : Nat} (hn : 100 ≤ n) {μ : kbM} {W : zW} (hW : zWok W) {v : Nat} (hv : v ≤ 244140624) (hs : mSn μ W v) {p w : Nat} (hp : p ≤ zSize v) (hw : w < W.length) : f_MD_standsAt n (nI w) (nI p) μ = some (zB (zSa W v p w)) := by
  have h10 := hW.1
  have h12 := zSize_12.mpr hv
  have s6 := hW.s6 hw
  have g := hs.2.2 w hw
  unfold f_MD_standsAt
  rw [kn_inT (show w < 10 by omega) (by omega), kn_if_t, nI_clamp (by omega), g.1, hs.1, nI_add]
  by_cases h : p + zSize (zRowAt W w) ≤ zSize v
  · have key := kn_all (lp := fun k i => lp_MD_standsAt_19 n (nI w) (nI p) μ k (nI i)) (fun k => zDg v (p + k) == zDg (zRowAt W w) k) (zSize (zRowAt W w)) (.inr ()) (.inl 0)
      (fun k => by
        simp only [lp_MD_standsAt_19]
        rw [kn_inT (show w < 10 by omega) (by omega), kn_if_t, nI_clamp (by omega), g.1, if_pos (by rw [nI_leI (by omega) (by omega)]; omega)])
      (fun k i hi hp => by
        have d1 := zDg_lt v (p + i)
        have d2 := zDg_lt (zRowAt W w) i
        have e : ¬ zDg v (p + i) = zDg (zRowAt W w) i := by simpa using hp
        simp only [lp_MD_standsAt_19]
        rw [kn_inT (show w < 10 by omega) (by omega), kn_if_t, nI_clamp (by omega), g.1, if_neg (by rw [nI_leI (by omega) (by omega)]; omega), nI_add, kn_inT (show p + i < 12 by omega) (by omega), kn_if_t, kl_6, pk_mul, nI_add, kn_inT (show 6 * w + i < 60 by omega) (by omega), kn_if_t, nI_clamp (by omega), nI_clamp (by omega), hs.2.1 (p + i) (by omega), g.2 i hi, if_neg (by rw [nI_eq (by omega) (by omega)]; exact e)])
      (fun k i hi hp => by
        have e : zDg v (p + i) = zDg (zRowAt W w) i := by simpa using hp
        simp only [lp_MD_standsAt_19]
        rw [kn_inT (show w < 10 by omega) (by omega), kn_if_t, nI_clamp (by omega), g.1, if_neg (by rw [nI_leI (by omega) (by omega)]; omega), nI_add, kn_inT (show p + i < 12 by omega) (by omega), kn_if_t, kl_6, pk_mul, nI_add, kn_inT (show 6 * w + i < 60 by omega) (by omega), kn_if_t, nI_clamp (by omega), nI_clamp (by omega), hs.2.1 (p + i) (by omega), g.2 i hi, if_pos (by rw [e]), nI_1])
      (zSize (zRowAt W w)) 0 n (by omega) (by omega) rfl
    rw [if_pos (by rw [nI_leI (by omega) (by omega)]; exact h), show lp_MD_standsAt_19 n (nI w) (nI p) μ n 0 = _ from key, zSa_dig h]
    cases zAll (fun k => zDg v (p + k) == zDg (zRowAt W w) k) (zSize (zRowAt W w)) <;> rfl
  · rw [if_neg (by rw [nI_leI (by omega) (by omega)]; exact h)]
    unfold zSa
    rw [decide_eq_false h]
    rfl
/-! ways and fewest words -/
def oMin : Option Nat → Option Nat → Option Nat
  | none, y => y
  | some x, none => some x
  | some x, some y => some (min x y)
def oInc (o : Option Nat) : Option Nat := match o with | none => none | some x => some (x + 1)
def f0 (o : Option Nat) : Nat := match o with | none => 0 | some x => x
theorem oMin_n (x : Option Nat) : oMin x none = x := by cases x <;> rfl
/-- from p on, by words of which the first one is w: the fewest -/
def rQ (W : zW) (C : List Int) (v p w : Nat) : Option Nat :=
  if _h : (0 < zSize (zRowAt W w) ∧ p + zSize (zRowAt W w) ≤ zSize v) ∧ zSa W v p w = true then (if p + zSize (zRowAt W w) = zSize v then some 1 else zBig oMin none (fun x => if zJoin W C w x = true then oInc (rQ W C v (p + zSize (zRowAt W w)) x) else none) W.length) else none
termination_by zSize v - p
decreasing_by omega
def rY (W : zW) (C : List Int) (v p w : Nat) : Nat :=
  if _h : (0 < zSize (zRowAt W w) ∧ p + zSize (zRowAt W w) ≤ zSize v) ∧ zSa W v p w = true then (if p + zSize (zRowAt W w) = zSize v then 1 else zSum (fun x => if zJoin W C w x = true then rY W C v (p + zSize (zRowAt W w)) x else 0) W.length) else 0
termination_by zSize v - p
decreasing_by omega
theorem zSa_le {W : zW} {v p w : Nat} (h : zSa W v p w = true) : p + zSize (zRowAt W w) ≤ zSize v := by
  unfold zSa at h
  simp only [Bool.and_eq_true, decide_eq_true_eq] at h
  exact h.1
theorem rQ_f {W : zW} (C : List Int) {v p w : Nat} (h : zSa W v p w = false) : rQ W C v p w = none := by
  rw [rQ, dif_neg (fun q => by rw [h] at q; exact absurd q.2 (by decide))]
theorem rY_f {W : zW} (C : List Int) {v p w : Nat} (h : zSa W v p w = false) : rY W C v p w = 0 := by
  rw [rY, dif_neg (fun q => by rw [h] at q; exact absurd q.2 (by decide))]
theorem rQ_e {W : zW} (hW : zWok W) (C : List Int) {v p w : Nat} (hw : w < W.length) (h : zSa W v p w = true) (e : p + zSize (zRowAt W w) = zSize v) : rQ W C v p w = some 1 := by
  rw [rQ, dif_pos ⟨⟨hW.sz w hw, by omega⟩, h⟩, if_pos e]
theorem rY_e {W : zW} (hW : zWok W) (C : List Int) {v p w : Nat} (hw : w < W.length) (h : zSa W v p w = true) (e : p + zSize (zRowAt W w) = zSize v) : rY W C v p w = 1 := by
  rw [rY, dif_pos ⟨⟨hW.sz w hw, by omega⟩, h⟩, if_pos e]
theorem rQ_s {W : zW} (hW : zWok W) (C : List Int) {v p w : Nat} (hw : w < W.length) (h : zSa W v p w = true) (e : p + zSize (zRowAt W w) ≠ zSize v) : rQ W C v p w = zBig oMin none (fun x => if zJoin W C w x = true then oInc (rQ W C v (p + zSize (zRowAt W w)) x) else none) W.length := by
  rw [rQ, dif_pos ⟨⟨hW.sz w hw, zSa_le h⟩, h⟩, if_neg e]
theorem rY_s {W : zW} (hW : zWok W) (C : List Int) {v p w : Nat} (hw : w < W.length) (h : zSa W v p w = true) (e : p + zSize (zRowAt W w) ≠ zSize v) : rY W C v p w = zSum (fun x => if zJoin W C w x = true then rY W C v (p + zSize (zRowAt W w)) x else 0) W.length := by
  rw [rY, dif_pos ⟨⟨hW.sz w hw, zSa_le h⟩, h⟩, if_neg e]
/-- at least one, at most so many as sounds are left -/
def oBt (b : Nat) (o : Option Nat) : Prop := ∀ m, o = some m → 0 < m ∧ m ≤ b
theorem oBt_none (b : Nat) : oBt b none := fun m h => by cases h
theorem oBt_some {b m : Nat} (h0 : 0 < m) (h : m ≤ b) : oBt b (some m) := fun q hq => by cases hq; exact ⟨h0, h⟩
theorem oBt_min {b : Nat} {x y : Option Nat} (hx : oBt b x) (hy : oBt b y) : oBt b (oMin x y) := by
  rcases x with _ | x <;> rcases y with _ | y
  · exact hx
  · exact hy
  · exact hx
  · have h1 := hx x rfl
    have h2 := hy y rfl
    exact oBt_some (by omega) (by omega)
theorem oBt_inc {b : Nat} {x : Option Nat} (hx : oBt b x) : oBt (b + 1) (oInc x) := by
  rcases x with _ | x
  · exact oBt_none _
  · have := hx x rfl
    exact oBt_some (by omega) (by omega)
theorem oBt_mono {a b : Nat} (h : a ≤ b) {x : Option Nat} (hx : oBt a x) : oBt b x := fun m hm => ⟨(hx m hm).1, Nat.le_trans (hx m hm).2 h⟩
theorem rQ_bt {W : zW} (hW : zWok W) (C : List Int) (v : Nat) : ∀ d p w, zSize v - p = d → w < W.length → oBt (zSize v - p) (rQ W C v p w) := by
  intro d
  induction d using Nat.strongRecOn with
  | ind d ih =>
    intro p w hd hw
    have z0 := hW.sz w hw
    cases h : zSa W v p w
    · rw [rQ_f C h]; exact oBt_none _
    · have hle := zSa_le h
      by_cases e : p + zSize (zRowAt W w) = zSize v
      · rw [rQ_e hW C hw h e]; exact oBt_some (by omega) (by omega)
      · rw [rQ_s hW C hw h e]
        refine zBig_pres (oBt (zSize v - p)) (oBt_none _) (fun x y => oBt_min) (fun x hx => ?_)
        split
        · exact oBt_mono (by omega) (oBt_inc (ih (zSize v - (p + zSize (zRowAt W w))) (by omega) (p + zSize (zRowAt W w)) x rfl hx))
        · exact oBt_none _
theorem zBig_none {f : Nat → Option Nat} : ∀ c, zBig oMin none f c = none ↔ ∀ i, i < c → f i = none := by
  intro c
  induction c with
  | zero => exact ⟨fun _ i hi => absurd hi (Nat.not_lt_zero i), fun _ => rfl⟩
  | succ c ih =>
    rw [zBig_s]
    constructor
    · intro h
      have h1 : zBig oMin none f c = none ∧ f c = none := by
        cases e1 : zBig oMin none f c <;> cases e2 : f c <;> rw [e1, e2] at h <;> first | exact ⟨rfl, rfl⟩ | cases h
      intro i hi
      by_cases e : i = c
      · subst e; exact h1.2
      · exact ih.mp h1.1 i (by omega)
    · intro h
      rw [ih.mpr (fun i hi => h i (by omega)), h c (by omega)]; rfl
theorem zBig_hit {f : Nat → Option Nat} {m : Nat} : ∀ c, zBig oMin none f c = some m → ∃ i, i < c ∧ f i = some m := by
  intro c
  induction c with
  | zero => intro h; cases h
  | succ c ih =>
    intro h
    rw [zBig_s] at h
    cases e1 : zBig oMin none f c with
    | none =>
      rw [e1] at h
      exact ⟨c, by omega, h⟩
    | some x =>
      rw [e1] at h
      cases e2 : f c with
      | none =>
        rw [e2] at h
        obtain ⟨i, hi, q⟩ := ih (by rw [e1]; exact h)
        exact ⟨i, by omega, q⟩
      | some y =>
        rw [e2] at h
        have hm : min x y = m := Option.some.inj h
        by_cases hxy : x ≤ y
        · obtain ⟨i, hi, q⟩ := ih (by rw [e1]; congr 1; omega)
          exact ⟨i, by omega, q⟩
        · exact ⟨c, by omega, by rw [e2]; congr 1; omega⟩
theorem zBig_inc (f : Nat → Option Nat) : ∀ c, oInc (zBig oMin none f c) = zBig oMin none (fun i => oInc (f i)) c := by
  intro c
  induction c with
  | zero => rfl
  | succ c ih =>
    rw [zBig_s, zBig_s, ← ih]
    cases zBig oMin none f c <;> cases f c <;> first | rfl | (show some _ = some _; congr 1; omega)
theorem rQ_none {W : zW} (hW : zWok W) (C : List Int) (v : Nat) : ∀ d p w, zSize v - p = d → w < W.length → rQ W C v p w = none → rY W C v p w = 0 := by
  intro d
  induction d using Nat.strongRecOn with
  | ind d ih =>
    intro p w hd hw hq
    have z0 := hW.sz w hw
    cases h : zSa W v p w
    · exact rY_f C h
    · have hle := zSa_le h
      by_cases e : p + zSize (zRowAt W w) = zSize v
      · rw [rQ_e hW C hw h e] at hq; cases hq
      · rw [rQ_s hW C hw h e, zBig_none] at hq
        rw [rY_s hW C hw h e, zSum_congr (g := fun _ => 0) (fun x hx => ?_), zSum_z]
        have := hq x hx
        cases hj : zJoin W C w x
        · rfl
        · rw [hj, if_pos rfl] at this
          rw [if_pos rfl]
          refine ih (zSize v - (p + zSize (zRowAt W w))) (by omega) _ x rfl hx ?_
          cases hz : rQ W C v (p + zSize (zRowAt W w)) x with
          | none => rfl
          | some y => rw [hz] at this; cases this
