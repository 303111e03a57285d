/-! SOUNDS of a row, from the left -/
def zDg (v j : Nat) : Nat := v / 5 ^ (zSize v - 1 - j) % 5
theorem zDg_lt (v j : Nat) : zDg v j < 5 := Nat.mod_lt _ (by decide)
theorem kn_dec (c : Nat) : nI c + (-1) = nI c - 1 := by rw [Int32.sub_eq_add_neg]
theorem kn_m1 : nI 0 - 1 = -1 := by decide
theorem kn_m1lt : (-1 : Int32) < 0 := by decide
/-- the sounds of v lie in cell a -/
def zSnd (f : Nat → Int32) (v : Nat) : Prop := ∀ j, j < zSize v → f j = nI (zDg v j)

theorem ro_spread40_lp (n : Nat) (z : Int32) : ∀ (c k u : Nat) (μ : kbM), c ≤ 12 → c < k → u < 2 ^ 31 → ∃ μ', lp_RO_spread_40_12 n z k (nI u) (nI c - 1) μ = some μ' ∧ (∀ j, j < c → μ'.1 40 j = nI (u / 5 ^ (c - 1 - j) % 5)) ∧ ∀ j, c ≤ j → μ'.1 40 j = μ.1 40 j := by
  intro c
  induction c with
  | zero =>
    intro k u μ _ hk _
    obtain ⟨k, rfl⟩ : ∃ q, k = q + 1 := ⟨k - 1, by omega⟩
    refine ⟨μ, ?_, fun j h => absurd h (by omega), fun _ _ => rfl⟩
    unfold lp_RO_spread_40_12
    rw [kn_m1, if_pos kn_m1lt]
  | succ c ih =>
    intro k u μ hc hk hu
    obtain ⟨k, rfl⟩ : ∃ q, k = q + 1 := ⟨k - 1, by omega⟩
    obtain ⟨μ', e, h1, h2⟩ := ih k (u / 5) (kbW μ 40 c (nI (u % 5))) (by omega) (by omega) (by omega)
    refine ⟨μ', ?_, fun j hj => ?_, fun j hj => ?_⟩
    · unfold lp_RO_spread_40_12 jn_RO_spread_40_31
      rw [nI_pred, if_neg (nI_pos (by omega)), if_neg (by rw [show (12 : Int32) = nI 12 from rfl, nI_leI (by decide) (by omega)]; omega), kn_in (by omega), decide_eq_true (by omega), kn_if_t, nI_clamp (by omega), show (5 : Int32) = nI 5 from rfl, kn_rem hu (by decide) (by decide), kn_div hu (by decide) (by decide), kn_dec]
      exact e
    · by_cases hjc : j = c
      · subst hjc
        rw [h2 j (Nat.le_refl _), kW_at]
        simp
      · rw [h1 j (by omega), Nat.div_div_eq_div_mul, show c + 1 - 1 - j = (c - 1 - j) + 1 by omega, Nat.pow_succ, Nat.mul_comm]
    · rw [h2 j (by omega), kW_no (by omega)]

theorem ro_spread40 {n : Nat} (hn : 20 ≤ n) {v : Nat} (hv : v ≤ 244140624) (μ : kbM) : ∃ μ', f_RO_spread_40 n (nI v) μ = some (nI (zSize v), μ') ∧ zSnd (μ'.1 40) v := by
  have h12 := zSize_12.mpr hv
  obtain ⟨μ', e, h1, -⟩ := ro_spread40_lp n (nI (zSize v)) (zSize v) n v μ h12 (by omega) (by omega)
  refine ⟨μ', ?_, h1⟩
  unfold f_RO_spread_40
  rw [ro_size hn hv, kn_bs, e, kn_bs]

theorem ro_spread41_lp (n : Nat) (z : Int32) : ∀ (c k u : Nat) (μ : kbM), c ≤ 12 → c < k → u < 2 ^ 31 → ∃ μ', lp_RO_spread_41_12 n z k (nI u) (nI c - 1) μ = some μ' ∧ (∀ j, j < c → μ'.1 41 j = nI (u / 5 ^ (c - 1 - j) % 5)) ∧ ∀ j, c ≤ j → μ'.1 41 j = μ.1 41 j := by
  intro c
  induction c with
  | zero =>
    intro k u μ _ hk _
    obtain ⟨k, rfl⟩ : ∃ q, k = q + 1 := ⟨k - 1, by omega⟩
    refine ⟨μ, ?_, fun j h => absurd h (by omega), fun _ _ => rfl⟩
    unfold lp_RO_spread_41_12
    rw [kn_m1, if_pos kn_m1lt]
  | succ c ih =>
    intro k u μ hc hk hu
    obtain ⟨k, rfl⟩ : ∃ q, k = q + 1 := ⟨k - 1, by omega⟩
    obtain ⟨μ', e, h1, h2⟩ := ih k (u / 5) (kbW μ 41 c (nI (u % 5))) (by omega) (by omega) (by omega)
    refine ⟨μ', ?_, fun j hj => ?_, fun j hj => ?_⟩
    · unfold lp_RO_spread_41_12 jn_RO_spread_41_31
      rw [nI_pred, if_neg (nI_pos (by omega)), if_neg (by rw [show (12 : Int32) = nI 12 from rfl, nI_leI (by decide) (by omega)]; omega), kn_in (by omega), decide_eq_true (by omega), kn_if_t, nI_clamp (by omega), show (5 : Int32) = nI 5 from rfl, kn_rem hu (by decide) (by decide), kn_div hu (by decide) (by decide), kn_dec]
      exact e
    · by_cases hjc : j = c
      · subst hjc
        rw [h2 j (Nat.le_refl _), kW_at]
        simp
      · rw [h1 j (by omega), Nat.div_div_eq_div_mul, show c + 1 - 1 - j = (c - 1 - j) + 1 by omega, Nat.pow_succ, Nat.mul_comm]
    · rw [h2 j (by omega), kW_no (by omega)]

theorem ro_spread41 {n : Nat} (hn : 20 ≤ n) {v : Nat} (hv : v ≤ 244140624) (μ : kbM) : ∃ μ', f_RO_spread_41 n (nI v) μ = some (nI (zSize v), μ') ∧ zSnd (μ'.1 41) v := by
  have h12 := zSize_12.mpr hv
  obtain ⟨μ', e, h1, -⟩ := ro_spread41_lp n (nI (zSize v)) (zSize v) n v μ h12 (by omega) (by omega)
  refine ⟨μ', ?_, h1⟩
  unfold f_RO_spread_41
  rw [ro_size hn hv, kn_bs, e, kn_bs]

theorem ro_spread46_lp (n : Nat) (z : Int32) : ∀ (c k u : Nat) (μ : kbM), c ≤ 12 → c < k → u < 2 ^ 31 → ∃ μ', lp_RO_spread_46_12 n z k (nI u) (nI c - 1) μ = some μ' ∧ (∀ j, j < c → μ'.1 46 j = nI (u / 5 ^ (c - 1 - j) % 5)) ∧ ∀ j, c ≤ j → μ'.1 46 j = μ.1 46 j := by
  intro c
  induction c with
  | zero =>
    intro k u μ _ hk _
    obtain ⟨k, rfl⟩ : ∃ q, k = q + 1 := ⟨k - 1, by omega⟩
    refine ⟨μ, ?_, fun j h => absurd h (by omega), fun _ _ => rfl⟩
    unfold lp_RO_spread_46_12
    rw [kn_m1, if_pos kn_m1lt]
  | succ c ih =>
    intro k u μ hc hk hu
    obtain ⟨k, rfl⟩ : ∃ q, k = q + 1 := ⟨k - 1, by omega⟩
    obtain ⟨μ', e, h1, h2⟩ := ih k (u / 5) (kbW μ 46 c (nI (u % 5))) (by omega) (by omega) (by omega)
    refine ⟨μ', ?_, fun j hj => ?_, fun j hj => ?_⟩
    · unfold lp_RO_spread_46_12 jn_RO_spread_46_31
      rw [nI_pred, if_neg (nI_pos (by omega)), if_neg (by rw [show (12 : Int32) = nI 12 from rfl, nI_leI (by decide) (by omega)]; omega), kn_in (by omega), decide_eq_true (by omega), kn_if_t, nI_clamp (by omega), show (5 : Int32) = nI 5 from rfl, kn_rem hu (by decide) (by decide), kn_div hu (by decide) (by decide), kn_dec]
      exact e
    · by_cases hjc : j = c
      · subst hjc
        rw [h2 j (Nat.le_refl _), kW_at]
        simp
      · rw [h1 j (by omega), Nat.div_div_eq_div_mul, show c + 1 - 1 - j = (c - 1 - j) + 1 by omega, Nat.pow_succ, Nat.mul_comm]
    · rw [h2 j (by omega), kW_no (by omega)]

theorem ro_spread46 {n : Nat} (hn : 20 ≤ n) {v : Nat} (hv : v ≤ 244140624) (μ : kbM) : ∃ μ', f_RO_spread_46 n (nI v) μ = some (nI (zSize v), μ') ∧ zSnd (μ'.1 46) v := by
  have h12 := zSize_12.mpr hv
  obtain ⟨μ', e, h1, -⟩ := ro_spread46_lp n (nI (zSize v)) (zSize v) n v μ h12 (by omega) (by omega)
  refine ⟨μ', ?_, h1⟩
  unfold f_RO_spread_46
  rw [ro_size hn hv, kn_bs, e, kn_bs]

theorem md_tell82_lp (n : Nat) (z : Int32) : ∀ (c k u : Nat) (μ : kbM), c ≤ 12 → c < k → u < 2 ^ 31 → ∃ μ', lp_MD_tellRow_82_12 n z k (nI u) (nI c - 1) μ = some μ' ∧ (∀ j, j < c → μ'.1 82 j = nI (u / 5 ^ (c - 1 - j) % 5)) ∧ ∀ j, c ≤ j → μ'.1 82 j = μ.1 82 j := by
  intro c
  induction c with
  | zero =>
    intro k u μ _ hk _
    obtain ⟨k, rfl⟩ : ∃ q, k = q + 1 := ⟨k - 1, by omega⟩
    refine ⟨μ, ?_, fun j h => absurd h (by omega), fun _ _ => rfl⟩
    unfold lp_MD_tellRow_82_12
    rw [kn_m1, if_pos kn_m1lt]
  | succ c ih =>
    intro k u μ hc hk hu
    obtain ⟨k, rfl⟩ : ∃ q, k = q + 1 := ⟨k - 1, by omega⟩
    obtain ⟨μ', e, h1, h2⟩ := ih k (u / 5) (kbW μ 82 c (nI (u % 5))) (by omega) (by omega) (by omega)
    refine ⟨μ', ?_, fun j hj => ?_, fun j hj => ?_⟩
    · unfold lp_MD_tellRow_82_12
      rw [nI_pred, if_neg (nI_pos (by omega)), kn_in (by omega), decide_eq_true (by omega), kn_if_t, nI_clamp (by omega), show (5 : Int32) = nI 5 from rfl, kn_rem hu (by decide) (by decide), kn_div hu (by decide) (by decide), kn_dec]
      exact e
    · by_cases hjc : j = c
      · subst hjc
        rw [h2 j (Nat.le_refl _), kW_at]
        simp
      · rw [h1 j (by omega), Nat.div_div_eq_div_mul, show c + 1 - 1 - j = (c - 1 - j) + 1 by omega, Nat.pow_succ, Nat.mul_comm]
    · rw [h2 j (by omega), kW_no (by omega)]

theorem md_tell82 {n : Nat} (hn : 20 ≤ n) {v : Nat} (hv : v ≤ 244140624) (μ : kbM) : ∃ μ', f_MD_tellRow_82 n (nI v) μ = some (nI (zSize v), μ') ∧ zSnd (μ'.1 82) v := by
  have h12 := zSize_12.mpr hv
  obtain ⟨μ', e, h1, -⟩ := md_tell82_lp n (nI (zSize v)) (zSize v) n v μ h12 (by omega) (by omega)
  refine ⟨μ', ?_, h1⟩
  unfold f_MD_tellRow_82
  rw [md_sizeOf hn (by omega), kn_bs, e, kn_bs]

theorem md_tell83_lp (n : Nat) (z : Int32) : ∀ (c k u : Nat) (μ : kbM), c ≤ 12 → c < k → u < 2 ^ 31 → ∃ μ', lp_MD_tellRow_83_12 n z k (nI u) (nI c - 1) μ = some μ' ∧ (∀ j, j < c → μ'.1 83 j = nI (u / 5 ^ (c - 1 - j) % 5)) ∧ ∀ j, c ≤ j → μ'.1 83 j = μ.1 83 j := by
  intro c
  induction c with
  | zero =>
    intro k u μ _ hk _
    obtain ⟨k, rfl⟩ : ∃ q, k = q + 1 := ⟨k - 1, by omega⟩
    refine ⟨μ, ?_, fun j h => absurd h (by omega), fun _ _ => rfl⟩
    unfold lp_MD_tellRow_83_12
    rw [kn_m1, if_pos kn_m1lt]
  | succ c ih =>
    intro k u μ hc hk hu
    obtain ⟨k, rfl⟩ : ∃ q, k = q + 1 := ⟨k - 1, by omega⟩
    obtain ⟨μ', e, h1, h2⟩ := ih k (u / 5) (kbW μ 83 c (nI (u % 5))) (by omega) (by omega) (by omega)
    refine ⟨μ', ?_, fun j hj => ?_, fun j hj => ?_⟩
    · unfold lp_MD_tellRow_83_12
      rw [nI_pred, if_neg (nI_pos (by omega)), kn_in (by omega), decide_eq_true (by omega), kn_if_t, nI_clamp (by omega), show (5 : Int32) = nI 5 from rfl, kn_rem hu (by decide) (by decide), kn_div hu (by decide) (by decide), kn_dec]
      exact e
    · by_cases hjc : j = c
      · subst hjc
        rw [h2 j (Nat.le_refl _), kW_at]
        simp
      · rw [h1 j (by omega), Nat.div_div_eq_div_mul, show c + 1 - 1 - j = (c - 1 - j) + 1 by omega, Nat.pow_succ, Nat.mul_comm]
    · rw [h2 j (by omega), kW_no (by omega)]

theorem md_tell83 {n : Nat} (hn : 20 ≤ n) {v : Nat} (hv : v ≤ 244140624) (μ : kbM) : ∃ μ', f_MD_tellRow_83 n (nI v) μ = some (nI (zSize v), μ') ∧ zSnd (μ'.1 83) v := by
  have h12 := zSize_12.mpr hv
  obtain ⟨μ', e, h1, -⟩ := md_tell83_lp n (nI (zSize v)) (zSize v) n v μ h12 (by omega) (by omega)
  refine ⟨μ', ?_, h1⟩
  unfold f_MD_tellRow_83
  rw [md_sizeOf hn (by omega), kn_bs, e, kn_bs]

/-! HOW FAR APART: by the steps -/
def zE (x y : Nat → Nat) : Nat → Nat → Nat
  | 0, j => j
  | i + 1, 0 => i + 1
  | i + 1, j + 1 => min (min (zE x y i (j + 1)) (zE x y (i + 1) j) + 1) (zE x y i j + (if x i = y j then 0 else 1))
termination_by i j => i + j
theorem zE_0 (x y : Nat → Nat) (j : Nat) : zE x y 0 j = j := by rw [zE]
theorem zE_l (x y : Nat → Nat) (i : Nat) : zE x y i 0 = i := by
  cases i with
  | zero => rw [zE]
  | succ i => rw [zE]
theorem zE_s (x y : Nat → Nat) (i j : Nat) : zE x y (i + 1) (j + 1) = min (min (zE x y i (j + 1)) (zE x y (i + 1) j) + 1) (zE x y i j + (if x i = y j then 0 else 1)) := by rw [zE]
theorem zE_le (x y : Nat → Nat) : ∀ i j : Nat, zE x y i j ≤ i + j := by
  intro i
  induction i with
  | zero => intro j; rw [zE_0]; omega
  | succ i ih =>
    intro j
    cases j with
    | zero => rw [zE_l]; omega
    | succ j =>
      rw [zE_s]
      have := ih (j + 1)
      omega
/-- at least the sounds that one has more -/
theorem zE_ge (x y : Nat → Nat) : ∀ i j : Nat, i ≤ zE x y i j + j ∧ j ≤ zE x y i j + i := by
  intro i
  induction i with
  | zero => intro j; rw [zE_0]; omega
  | succ i ih =>
    intro j
    induction j with
    | zero => rw [zE_l]; omega
    | succ j jh =>
      rw [zE_s]
      have h1 := ih (j + 1)
      have h2 := ih j
      split <;> omega
def zDist (v u : Nat) : Nat := zE (zDg v) (zDg u) (zSize v) (zSize u)
theorem zDist_le {v u : Nat} (hv : v ≤ 244140624) (hu : u ≤ 244140624) : zDist v u ≤ 24 := by
  have h1 := zSize_12.mpr hv
  have h2 := zSize_12.mpr hu
  have := zE_le (zDg v) (zDg u) (zSize v) (zSize u)
  unfold zDist
  omega
theorem ru_init (n : Nat) (z : Int32) {m : Nat} (hm : m ≤ 12) : ∀ (c k j : Nat) (μ : kbM), j + c = m + 1 → c < k → (∀ q, q < j → μ.1 42 q = nI q) → ∃ μ', lp_RU_stepsFromLeft_12 n z (nI m) k (nI j) μ = some μ' ∧ ∀ q, q ≤ m → μ'.1 42 q = nI q := by
  intro c
  induction c with
  | zero =>
    intro k j μ h hk hq
    obtain ⟨k, rfl⟩ : ∃ q, k = q + 1 := ⟨k - 1, by omega⟩
    refine ⟨μ, ?_, fun q h9 => hq q (by omega)⟩
    unfold lp_RU_stepsFromLeft_12
    rw [if_pos (by rw [nI_ltI (by omega) (by omega)]; omega)]
  | succ c ih =>
    intro k j μ h hk hq
    obtain ⟨k, rfl⟩ : ∃ q, k = q + 1 := ⟨k - 1, by omega⟩
    unfold lp_RU_stepsFromLeft_12
    rw [if_neg (by rw [nI_ltI (by omega) (by omega)]; omega), kn_in (by omega), decide_eq_true (by omega), kn_if_t, nI_clamp (by omega), nI_1]
    refine ih k (j + 1) _ (by omega) (by omega) (fun q h9 => ?_)
    by_cases e : q = j
    · subst e; exact kW_at
    · rw [kW_no e]; exact hq q (by omega)
theorem kn_ite {α : Type} {c : Prop} [Decidable c] {f : α → Option (kbM)} {a b : α} : (if c then f a else f b) = f (if c then a else b) := by split <;> rfl
theorem ru_inner (n : Nat) (z : Int32) {x y : Nat → Nat} {i m : Nat} (hi : i < 12) (hm : m ≤ 12) : ∀ (c k j : Nat) (μ : kbM), j + c = m → c < k → μ.1 40 i = nI (x i) → x i < 5 → (∀ q, q < m → μ.1 41 q = nI (y q) ∧ y q < 5) →
    (∀ q, q ≤ j → μ.1 42 q = nI (zE x y (i + 1) q)) → (∀ q, j < q → q ≤ m → μ.1 42 q = nI (zE x y i q)) → ∃ μ', lp_RU_stepsFromLeft_63 n z (nI m) (nI i) k (nI (zE x y i j)) (nI j) μ = some μ' ∧ ∀ q, q ≤ m → μ'.1 42 q = nI (zE x y (i + 1) q) := by
  intro c
  induction c with
  | zero =>
    intro k j μ h hk hx hx5 hy h1 h2
    obtain ⟨k, rfl⟩ : ∃ q, k = q + 1 := ⟨k - 1, by omega⟩
    refine ⟨μ, ?_, fun q hq => h1 q (by omega)⟩
    unfold lp_RU_stepsFromLeft_63
    rw [if_pos (by rw [nI_leI (by omega) (by omega)]; omega)]
  | succ c ih =>
    intro k j μ h hk hx hx5 hy h1 h2
    obtain ⟨k, rfl⟩ : ∃ q, k = q + 1 := ⟨k - 1, by omega⟩
    have b1 := zE_le x y i j
    have b2 := zE_le x y i (j + 1)
    have b3 := zE_le x y (i + 1) j
    have hyj := hy j (by omega)
    have go : ∃ μ', lp_RU_stepsFromLeft_63 n z (nI m) (nI i) k (nI (zE x y i (j + 1))) (nI (j + 1)) (kbW μ 42 (j + 1) (nI (zE x y (i + 1) (j + 1)))) = some μ' ∧ ∀ q, q ≤ m → μ'.1 42 q = nI (zE x y (i + 1) q) := by
      refine ih k (j + 1) _ (by omega) (by omega) (by rw [kW_ne (by decide)]; exact hx) hx5 (fun q hq => by rw [kW_ne (by decide)]; exact hy q hq) (fun q hq => ?_) (fun q hq hq2 => ?_)
      · by_cases e : q = j + 1
        · subst e; exact kW_at
        · rw [kW_no e]; exact h1 q (by omega)
      · rw [kW_no (by omega)]; exact h2 q (by omega) hq2
    have fin : ∀ w : Nat, w ≤ 40 → zE x y (i + 1) (j + 1) = min (min (zE x y i (j + 1)) (zE x y (i + 1) j) + 1) w → ∃ μ', jn_RU_stepsFromLeft_95 n (lp_RU_stepsFromLeft_63 n z (nI m) (nI i) k) z (nI m) (nI i) (nI j) (nI w) μ = some μ' ∧ ∀ q, q ≤ m → μ'.1 42 q = nI (zE x y (i + 1) q) := by
      intro w hw40 hw
      unfold jn_RU_stepsFromLeft_95 jn_RU_stepsFromLeft_132 jn_RU_stepsFromLeft_158
      rw [nI_1, kn_in (a := j + 1) (by omega), decide_eq_true (by omega), kn_in (a := j) (by omega), decide_eq_true (by omega)]
      simp only [kn_if_t, nI_clamp (show j < 2 ^ 31 by omega), nI_clamp (show j + 1 < 2 ^ 31 by omega), h1 j (Nat.le_refl _), h2 (j + 1) (by omega) (by omega), nI_1]
      by_cases q1 : zE x y (i + 1) j ≤ zE x y i (j + 1)
      · rw [if_pos (by rw [nI_leI (by omega) (by omega)]; exact q1)]
        by_cases q2 : zE x y (i + 1) j + 1 ≤ w
        · rw [if_pos (by rw [nI_leI (by omega) (by omega)]; exact q2), show zE x y (i + 1) j + 1 = zE x y (i + 1) (j + 1) by omega]; exact go
        · rw [if_neg (by rw [nI_leI (by omega) (by omega)]; exact q2), show w = zE x y (i + 1) (j + 1) by omega]; exact go
      · rw [if_neg (by rw [nI_leI (by omega) (by omega)]; exact q1)]
        by_cases q2 : zE x y i (j + 1) + 1 ≤ w
        · rw [if_pos (by rw [nI_leI (by omega) (by omega)]; exact q2), show zE x y i (j + 1) + 1 = zE x y (i + 1) (j + 1) by omega]; exact go
        · rw [if_neg (by rw [nI_leI (by omega) (by omega)]; exact q2), show w = zE x y (i + 1) (j + 1) by omega]; exact go
    unfold lp_RU_stepsFromLeft_63
    rw [if_neg (by rw [nI_leI (by omega) (by omega)]; omega), kn_in (a := i) (by omega), decide_eq_true (by omega), kn_if_t, kn_in (a := j) (by omega), decide_eq_true (by omega), kn_if_t, nI_clamp (by omega), nI_clamp (by omega), hx, hyj.1, nI_1]
    have hs := zE_s x y i j
    by_cases hxy : x i = y j
    · rw [if_pos (by rw [hxy])]
      rw [if_pos hxy] at hs
      exact fin _ (by omega) hs
    · rw [if_neg (by rw [nI_eq (by omega) (by omega)]; exact hxy)]
      rw [if_neg hxy] at hs
      exact fin _ (by omega) hs
theorem ru_outer (n : Nat) (hn : 20 ≤ n) {x y : Nat → Nat} {N m : Nat} (hN : N ≤ 12) (hm : m ≤ 12) : ∀ (c k i : Nat) (μ : kbM), i + c = N → c < k → (∀ q, q < N → μ.1 40 q = nI (x q) ∧ x q < 5) → (∀ q, q < m → μ.1 41 q = nI (y q) ∧ y q < 5) →
    (∀ q, q ≤ m → μ.1 42 q = nI (zE x y i q)) → ∃ μ', lp_RU_stepsFromLeft_36 n (nI N) (nI m) k (nI i) μ = some μ' ∧ ∀ q, q ≤ m → μ'.1 42 q = nI (zE x y N q) := by
  intro c
  induction c with
  | zero =>
    intro k i μ h hk hx hy h1
    obtain ⟨k, rfl⟩ : ∃ q, k = q + 1 := ⟨k - 1, by omega⟩
    have e : i = N := by omega
    subst e
    refine ⟨μ, ?_, h1⟩
    unfold lp_RU_stepsFromLeft_36
    rw [if_pos (by rw [nI_leI (by omega) (by omega)]; omega)]
  | succ c ih =>
    intro k i μ h hk hx hy h1
    obtain ⟨k, rfl⟩ : ∃ q, k = q + 1 := ⟨k - 1, by omega⟩
    have hxi := hx i (by omega)
    obtain ⟨μ1, e1, g1⟩ := ru_inner n (nI N) (x := x) (y := y) (i := i) (m := m) (by omega) hm m n 0 (kbW μ 42 0 (nI (i + 1))) (by omega) (by omega) (by rw [kW_ne (by decide)]; exact hxi.1) hxi.2 (fun q hq => by rw [kW_ne (by decide)]; exact hy q hq)
      (fun q hq => by rw [show q = 0 by omega, kW_at, zE_l]) (fun q h2 h3 => by rw [kW_no (by omega)]; exact h1 q h3)
    have f1 := fr_lp_RU_stepsFromLeft_63 e1
    obtain ⟨μ2, e2, g2⟩ := ih k (i + 1) μ1 (by omega) (by omega) (fun q hq => by rw [fr_at f1 (by decide) (by decide), kW_ne (by decide)]; exact hx q hq) (fun q hq => by rw [fr_at f1 (by decide) (by decide), kW_ne (by decide)]; exact hy q hq) g1
    refine ⟨μ2, ?_, g2⟩
    unfold lp_RU_stepsFromLeft_36
    rw [if_neg (by rw [nI_leI (by omega) (by omega)]; omega), nI_1, h1 0 (by omega), show (0 : Int32) = nI 0 from rfl, e1, kn_bs]
    exact e2
theorem ru_steps {n : Nat} (hn : 20 ≤ n) {μ : kbM} {v u : Nat} (hv : v ≤ 244140624) (hu : u ≤ 244140624) (hx : zSnd (μ.1 40) v) : ∃ μ', f_RU_stepsFromLeft n (nI (zSize v)) (nI u) μ = some (nI (zDist v u), μ') := by
  have h1 := zSize_12.mpr hv
  have h2 := zSize_12.mpr hu
  obtain ⟨μ1, e1, g1⟩ := ro_spread41 hn hu μ
  have f1 := fr_f_RO_spread_41 e1
  simp only at f1
  obtain ⟨μ2, e2, g2⟩ := ru_init n (nI (zSize v)) h2 (zSize u + 1) n 0 μ1 (by omega) (by omega) (fun q h => absurd h (by omega))
  have f2 := fr_lp_RU_stepsFromLeft_12 e2
  obtain ⟨μ3, e3, g3⟩ := ru_outer n hn (x := zDg v) (y := zDg u) h1 h2 (zSize v) n 0 μ2 (by omega) (by omega)
    (fun q hq => ⟨by rw [fr_at f2 (by decide) (by decide), fr_at f1 (by decide) (by decide)]; exact hx q hq, zDg_lt v q⟩) (fun q hq => ⟨by rw [fr_at f2 (by decide) (by decide)]; exact g1 q hq, zDg_lt u q⟩) (fun q hq => by rw [zE_0]; exact g2 q hq)
  refine ⟨μ3, ?_⟩
  unfold f_RU_stepsFromLeft
  rw [e1, kn_bs]
  simp only
  rw [show (0 : Int32) = nI 0 from rfl, e2, kn_bs, e3, kn_bs, kn_in (by omega), decide_eq_true (by omega), kn_if_t, nI_clamp (by omega), g3 _ (Nat.le_refl _)]
  rfl
/-! the model's -/
theorem md_ed_inner (n : Nat) {x y : Nat → Nat} {N i m : Nat} (hi : i ≤ 12) (hm : m ≤ 12) : ∀ (c k j : Nat) (μ : kbM), j + c = m + 1 → c < k → (∀ q, q < 12 → q < i → μ.1 82 q = nI (x q) ∧ x q < 5) → (∀ q, q < m → μ.1 83 q = nI (y q) ∧ y q < 5) →
    (∀ p q, p < i → q ≤ m → μ.1 81 (13 * p + q) = nI (zE x y p q)) → (∀ q, q < j → μ.1 81 (13 * i + q) = nI (zE x y i q)) → ∃ μ', lp_MD_apartBy_31 n (nI N) (nI m) (nI i) k (nI j) μ = some μ' ∧ ∀ p q, p ≤ i → q ≤ m → μ'.1 81 (13 * p + q) = nI (zE x y p q) := by
  intro c
  induction c with
  | zero =>
    intro k j μ h hk hx hy h1 h2
    obtain ⟨k, rfl⟩ : ∃ q, k = q + 1 := ⟨k - 1, by omega⟩
    refine ⟨μ, ?_, fun p q hp hq => ?_⟩
    · unfold lp_MD_apartBy_31
      rw [if_pos (by rw [nI_ltI (by omega) (by omega)]; omega)]
    · by_cases e : p = i
      · subst e; exact h2 q (by omega)
      · exact h1 p q (by omega) hq
  | succ c ih =>
    intro k j μ h hk hx hy h1 h2
    obtain ⟨k, rfl⟩ : ∃ q, k = q + 1 := ⟨k - 1, by omega⟩
    have go : ∃ μ', lp_MD_apartBy_31 n (nI N) (nI m) (nI i) k (nI (j + 1)) (kbW μ 81 (13 * i + j) (nI (zE x y i j))) = some μ' ∧ ∀ p q, p ≤ i → q ≤ m → μ'.1 81 (13 * p + q) = nI (zE x y p q) := by
      refine ih k (j + 1) _ (by omega) (by omega) (fun q hq hq2 => by rw [kW_ne (by decide)]; exact hx q hq hq2) (fun q hq => by rw [kW_ne (by decide)]; exact hy q hq) (fun p q hp hq => ?_) (fun q hq => ?_)
      · rw [kW_no (by omega)]; exact h1 p q hp hq
      · by_cases e : q = j
        · subst e; exact kW_at
        · rw [kW_no (by omega)]; exact h2 q (by omega)
    have last : ∀ w : Nat, w = zE x y i j → ∃ μ', jn_MD_apartBy_160 n (lp_MD_apartBy_31 n (nI N) (nI m) (nI i) k) (nI N) (nI m) (nI i) (nI j) (nI w) μ = some μ' ∧ ∀ p q, p ≤ i → q ≤ m → μ'.1 81 (13 * p + q) = nI (zE x y p q) := by
      intro w hw
      subst hw
      unfold jn_MD_apartBy_160
      rw [show (13 : Int32) = nI 13 from rfl, pk_mul, nI_add, kn_in (by omega), decide_eq_true (by omega), kn_if_t, nI_clamp (by omega), nI_1]
      exact go
    unfold lp_MD_apartBy_31
    rw [if_neg (by rw [nI_ltI (by omega) (by omega)]; omega)]
    unfold jn_MD_apartBy_60
    by_cases hi0 : i = 0
    · subst hi0
      rw [if_pos (show nI 0 = 0 from rfl), if_pos (by decide)]
      exact last j (zE_0 x y j).symm
    · rw [if_neg (by rw [kn_0, nI_eq (by omega) (by decide)]; exact hi0)]
      by_cases hj0 : j = 0
      · subst hj0
        rw [if_pos (show nI 0 = 0 from rfl), if_neg (by rw [kn_le0 (by omega)]; exact hi0), if_pos (by decide)]
        exact last i (zE_l x y i).symm
      · obtain ⟨i, rfl⟩ : ∃ q, i = q + 1 := ⟨i - 1, by omega⟩
        obtain ⟨j, rfl⟩ : ∃ q, j = q + 1 := ⟨j - 1, by omega⟩
        have b1 := zE_le x y i j
        have b2 := zE_le x y i (j + 1)
        have b3 := zE_le x y (i + 1) j
        have hxi := hx i (by omega) (by omega)
        have hyj := hy j (by omega)
        rw [if_neg (by rw [kn_0, nI_eq (by omega) (by decide)]; exact hj0), if_neg (by rw [kn_le0 (by omega)]; exact hi0), if_neg (by rw [kn_le0 (by omega)]; exact hj0)]
        simp only [show (13 : Int32) = nI 13 from rfl, nI_pred, pk_mul, nI_add]
        rw [show 13 * (i + 1) + (j + 1) = (13 * (i + 1) + j) + 1 by omega, nI_pred, show 13 * i + (j + 1) = (13 * i + j) + 1 by omega, nI_pred, kn_in (by omega), decide_eq_true (by omega), kn_if_t, kn_in (by omega), decide_eq_true (by omega), kn_if_t, kn_in (by omega), decide_eq_true (by omega), kn_if_t, kn_in (by omega), decide_eq_true (by omega), kn_if_t, kn_in (by omega), decide_eq_true (by omega), kn_if_t,
          nI_clamp (by omega), nI_clamp (by omega), nI_clamp (by omega), nI_clamp (by omega), nI_clamp (by omega), hxi.1, hyj.1, show 13 * i + j + 1 = 13 * i + (j + 1) by omega, h1 i (j + 1) (by omega) (by omega), h2 j (by omega), h1 i j (by omega) (by omega)]
        have hmin : ∀ a b : Nat, a < 2 ^ 31 → b < 2 ^ 31 → kbMin (nI a) (nI b) = nI (min a b) := by
          intro a b ha hb
          unfold kbMin
          by_cases q : b < a
          · rw [if_pos (by rw [nI_ltI hb ha]; exact q), show min a b = b by omega]
          · rw [if_neg (by rw [nI_ltI hb ha]; exact q), show min a b = a by omega]
        unfold jn_MD_apartBy_154
        rw [hmin _ _ (by omega) (by omega), nI_1, show (0 : Int32) = nI 0 from rfl, nI_add, nI_1, hmin _ _ (by omega) (by omega), hmin _ _ (by omega) (by omega)]
        have hs := zE_s x y i j
        by_cases hxy : x i = y j
        · rw [if_pos (by rw [hxy])]
          rw [if_pos hxy] at hs
          exact last _ (by omega)
        · rw [if_neg (by rw [nI_eq (by omega) (by omega)]; exact hxy)]
          rw [if_neg hxy] at hs
          exact last _ (by omega)
theorem md_ed_outer (n : Nat) (hn : 20 ≤ n) {x y : Nat → Nat} {N m : Nat} (hN : N ≤ 12) (hm : m ≤ 12) : ∀ (c k i : Nat) (μ : kbM), i + c = N + 1 → c < k → (∀ q, q < N → μ.1 82 q = nI (x q) ∧ x q < 5) → (∀ q, q < m → μ.1 83 q = nI (y q) ∧ y q < 5) →
    (∀ p q, p < i → q ≤ m → μ.1 81 (13 * p + q) = nI (zE x y p q)) → ∃ μ', lp_MD_apartBy_22 n (nI N) (nI m) k (nI i) μ = some μ' ∧ ∀ p q, p ≤ N → q ≤ m → μ'.1 81 (13 * p + q) = nI (zE x y p q) := by
  intro c
  induction c with
  | zero =>
    intro k i μ h hk hx hy h1
    obtain ⟨k, rfl⟩ : ∃ q, k = q + 1 := ⟨k - 1, by omega⟩
    refine ⟨μ, ?_, fun p q hp hq => h1 p q (by omega) hq⟩
    unfold lp_MD_apartBy_22
    rw [if_pos (by rw [nI_ltI (by omega) (by omega)]; omega)]
  | succ c ih =>
    intro k i μ h hk hx hy h1
    obtain ⟨k, rfl⟩ : ∃ q, k = q + 1 := ⟨k - 1, by omega⟩
    obtain ⟨μ1, e1, g1⟩ := md_ed_inner n (x := x) (y := y) (N := N) (i := i) (m := m) (by omega) hm (m + 1) n 0 μ (by omega) (by omega) (fun q _ hq => hx q (by omega)) hy h1 (fun q hq => absurd hq (by omega))
    have f1 := fr_lp_MD_apartBy_31 e1
    obtain ⟨μ2, e2, g2⟩ := ih k (i + 1) μ1 (by omega) (by omega) (fun q hq => by rw [fr_at f1 (by decide) (by decide)]; exact hx q hq) (fun q hq => by rw [fr_at f1 (by decide) (by decide)]; exact hy q hq) (fun p q hp hq => g1 p q (by omega) hq)
    refine ⟨μ2, ?_, g2⟩
    unfold lp_MD_apartBy_22
    rw [if_neg (by rw [nI_ltI (by omega) (by omega)]; omega), nI_1, show (0 : Int32) = nI 0 from rfl, e1, kn_bs]
    exact e2
theorem md_apartBy {n : Nat} (hn : 20 ≤ n) {v u : Nat} (hv : v ≤ 244140624) (hu : u ≤ 244140624) (μ : kbM) : ∃ μ', f_MD_apartBy n (nI v) (nI u) μ = some (nI (zDist v u), μ') := by
  have h1 := zSize_12.mpr hv
  have h2 := zSize_12.mpr hu
  obtain ⟨μ1, e1, g1⟩ := md_tell82 hn hv μ
  obtain ⟨μ2, e2, g2⟩ := md_tell83 hn hu μ1
  have f2 := fr_f_MD_tellRow_83 e2
  simp only at f2
  obtain ⟨μ3, e3, g3⟩ := md_ed_outer n hn (x := zDg v) (y := zDg u) h1 h2 (zSize v + 1) n 0 μ2 (by omega) (by omega) (fun q hq => ⟨by rw [fr_at f2 (by decide) (by decide)]; exact g1 q hq, zDg_lt v q⟩) (fun q hq => ⟨g2 q hq, zDg_lt u q⟩) (fun p q hp => absurd hp (by omega))
  refine ⟨μ3, ?_⟩
  unfold f_MD_apartBy
  rw [e1, kn_bs]
  simp only
  rw [e2, kn_bs]
  simp only
  rw [show (0 : Int32) = nI 0 from rfl, e3, kn_bs, show (13 : Int32) = nI 13 from rfl, pk_mul, nI_add, kn_in (by omega), decide_eq_true (by omega), kn_if_t, nI_clamp (by omega), g3 _ _ (Nat.le_refl _) (Nat.le_refl _)]
  rfl

