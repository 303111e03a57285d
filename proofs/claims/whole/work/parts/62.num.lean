/-! NUMBERS: ints that are naturals -/
theorem kn_lit (n : Nat) : (OfNat.ofNat n : Int32) = nI n := rfl
theorem kn_0 : (0 : Int32) = nI 0 := rfl
theorem kn_1 : (1 : Int32) = nI 1 := rfl
theorem kn_le0 {a : Nat} (ha : a < 2 ^ 31) : nI a ≤ 0 ↔ a = 0 := by rw [kn_0, nI_leI ha (by decide)]; omega
theorem kn_lt0 {a : Nat} (ha : a < 2 ^ 31) : nI a < 0 ↔ False := by
  rw [kn_0, nI_ltI ha (by decide)]; simp
theorem kn_0le {a : Nat} (ha : a < 2 ^ 31) : 0 ≤ nI a ↔ True := by rw [kn_0, nI_leI (by decide) ha]; simp
theorem kn_rem {a d : Nat} (ha : a < 2 ^ 31) (h0 : 0 < d) (hd : d < 2 ^ 31) : kbRem (nI a) (nI d) = nI (a % d) := pk_rem ha h0 hd
theorem kn_in {a N : Nat} (ha : a < 2 ^ 31) : kbIn (nI a) N = decide (a < N) := by
  unfold kbIn
  rw [nI_clamp ha]
  have h := kn_lt0 ha
  by_cases h2 : a < N
  · simp [h, h2, Nat.not_le.mpr h2]
  · simp [h, h2, Nat.not_lt.mp h2]
theorem kn_div {a d : Nat} (ha : a < 2 ^ 31) (h0 : 0 < d) (hd : d < 2 ^ 31) : nI a / nI d = nI (a / d) := pk_div ha h0 hd
theorem kn_sl : ∀ n, n < 32 → ((nI n &&& 31).toBitVec.smod 32).toNat = n := by decide +kernel
theorem kn_and (a b : Nat) : nI a &&& nI b = nI (a &&& b) := by
  apply Int32.toBitVec_inj.mp
  show (BitVec.ofNat 32 a &&& BitVec.ofNat 32 b) = BitVec.ofNat 32 (a &&& b)
  apply BitVec.eq_of_toNat_eq
  simp [Nat.and_mod_two_pow]
theorem kn_or (a b : Nat) : nI a ||| nI b = nI (a ||| b) := by
  apply Int32.toBitVec_inj.mp
  show (BitVec.ofNat 32 a ||| BitVec.ofNat 32 b) = BitVec.ofNat 32 (a ||| b)
  apply BitVec.eq_of_toNat_eq
  simp [Nat.or_mod_two_pow]
theorem kn_xor (a b : Nat) : nI a ^^^ nI b = nI (a ^^^ b) := by
  apply Int32.toBitVec_inj.mp
  show (BitVec.ofNat 32 a ^^^ BitVec.ofNat 32 b) = BitVec.ofNat 32 (a ^^^ b)
  apply BitVec.eq_of_toNat_eq
  simp [Nat.xor_mod_two_pow]
theorem kn_shl {k : Nat} (hk : k < 31) : kbShl (nI 1) (nI k) = nI (2 ^ k) := by
  unfold kbShl
  rw [pk_shlN (nI k &&& 31) k (kn_sl k (by omega)) (by
    have : 2 ^ k < 2 ^ 31 := Nat.pow_lt_pow_right (by decide) hk
    omega), Nat.one_mul]
theorem kn_shr {a k : Nat} (ha : a < 2 ^ 31) (hk : k < 32) : kbShr (nI a) (nI k) = nI (a / 2 ^ k) := by
  unfold kbShr
  exact pk_shrN ha _ k (kn_sl k hk)
theorem kn_bit {a k : Nat} (ha : a < 2 ^ 31) (hk : k < 31) : kbShr (nI a) (nI k) &&& 1 = nI (a / 2 ^ k % 2) := by
  rw [kn_shr ha (by omega), kn_1, kn_and, Nat.and_one_is_mod]
theorem kn_if_t {α : Type} {o : Option α} : kbIf true o = o := rfl
theorem kn_if_f {α : Type} {o : Option α} : kbIf false o = none := rfl
theorem kn_or_l {α β γ : Type} {r : β} {f : β → Option α} {g : γ → Option α} : kbOr (some (.inl r)) f g = f r := rfl
theorem kn_or_r {α β γ : Type} {v : γ} {f : β → Option α} {g : γ → Option α} : kbOr (some (.inr v)) f g = g v := rfl
theorem kn_bs {α β : Type} {x : α} {f : α → Option β} : (some x).bind f = f x := rfl
/-- a nonnegative int is a natural's -/
theorem kn_of {x : Int32} (h : ¬ x < 0) : ∃ a : Nat, a < 2 ^ 31 ∧ x = nI a := nI_of h
theorem kn_neg {x : Int32} {n : Nat} (h : x < 0) (hn : n < 2 ^ 31) : x < nI n ∧ ¬ nI n ≤ x ∧ ¬ nI n < x ∧ ¬ x = nI n := by
  have h1 : x.toInt < 0 := by have := Int32.lt_iff_toInt_lt.mp h; simpa using this
  have h2 := nI_toInt hn
  refine ⟨Int32.lt_iff_toInt_lt.mpr (by omega), fun q => ?_, fun q => ?_, fun q => ?_⟩
  · have := Int32.le_iff_toInt_le.mp q; omega
  · have := Int32.lt_iff_toInt_lt.mp q; omega
  · rw [q] at h1; omega
/-! ROWS -/
def zSize (v : Nat) : Nat := if h : v = 0 then 0 else zSize (v / 5) + 1
termination_by v
decreasing_by exact Nat.div_lt_self (Nat.pos_of_ne_zero h) (by decide)
theorem zSize_0 : zSize 0 = 0 := by rw [zSize]; simp
theorem zSize_s {v : Nat} (h : v ≠ 0) : zSize v = zSize (v / 5) + 1 := by rw [zSize]; simp [h]
theorem zSize_le (j : Nat) : ∀ v : Nat, zSize v ≤ j ↔ v < 5 ^ j := by
  induction j with
  | zero =>
    intro v
    by_cases h : v = 0
    · subst h; simp [zSize_0]
    · rw [zSize_s h]; simp; omega
  | succ j ih =>
    intro v
    by_cases h : v = 0
    · subst h; simp [zSize_0]; exact Nat.pow_pos (by decide)
    · rw [zSize_s h]
      have := ih (v / 5)
      rw [Nat.add_le_add_iff_right, this, Nat.div_lt_iff_lt_mul (by decide), Nat.pow_succ]
theorem zSize_lt32 {v : Nat} (h : v < 2 ^ 31) : zSize v ≤ 14 := (zSize_le 14 v).mpr (by have : (5 : Nat) ^ 14 = 6103515625 := (by decide); omega)
theorem zSize_12 {v : Nat} : zSize v ≤ 12 ↔ v ≤ 244140624 := by
  rw [zSize_le, show (5 : Nat) ^ 12 = 244140625 by decide]; omega
theorem zSize_pos {v : Nat} : zSize v = 0 ↔ v = 0 := by
  constructor
  · intro h
    by_cases hv : v = 0
    · exact hv
    · rw [zSize_s hv] at h; omega
  · intro h; subst h; exact zSize_0
def zNZ (v : Nat) : Bool := if h : v = 0 then true else (v % 5 != 0) && zNZ (v / 5)
termination_by v
decreasing_by exact Nat.div_lt_self (Nat.pos_of_ne_zero h) (by decide)
theorem zNZ_0 : zNZ 0 = true := by rw [zNZ]; simp
theorem zNZ_s {v : Nat} (h : v ≠ 0) : zNZ v = ((v % 5 != 0) && zNZ (v / 5)) := by rw [zNZ]; simp [h]
def zRow (v : Nat) : Bool := decide (v ≤ 244140624) && zNZ v
def zIsRow (x : Int32) : Bool := decide (0 ≤ x) && zRow x.toNatClampNeg
theorem zIsRow_n {v : Nat} (h : v < 2 ^ 31) : zIsRow (nI v) = zRow v := by unfold zIsRow; rw [nI_clamp h]; simp [nI_pos' h]
theorem zIsRow_neg {x : Int32} (h : x < 0) : zIsRow x = false := by
  unfold zIsRow
  have : ¬ 0 ≤ x := fun q => by
    have h1 := Int32.le_iff_toInt_le.mp q
    have h2 := Int32.lt_iff_toInt_lt.mp h
    omega
  simp [this]
theorem zIsRow_t {x : Int32} (h : zIsRow x = true) : ∃ v : Nat, x = nI v ∧ zRow v = true ∧ v ≤ 244140624 := by
  by_cases hx : x < 0
  · rw [zIsRow_neg hx] at h; cases h
  · obtain ⟨v, hv, rfl⟩ := kn_of hx
    rw [zIsRow_n hv] at h
    refine ⟨v, rfl, h, ?_⟩
    simp only [zRow, Bool.and_eq_true, decide_eq_true_eq] at h
    exact h.1
def zB (b : Bool) : Int32 := if b = true then 1 else 0
theorem zB_0 {b : Bool} : zB b = 0 ↔ b = false := by cases b <;> simp [zB]
theorem zB_1 {b : Bool} : zB b = 1 ↔ b = true := by cases b <;> simp [zB]
/-- the model's sizeOf -/
theorem md_sizeOf_lp (n : Nat) : ∀ (k v c : Nat), v < 2 ^ 31 → zSize v < k → lp_MD_sizeOf_4 n k (nI c) (nI v) = some (nI (c + zSize v)) := by
  intro k
  induction k with
  | zero => intro v c _ h; omega
  | succ k ih =>
    intro v c hv h
    unfold lp_MD_sizeOf_4
    by_cases h0 : v = 0
    · subst h0
      rw [if_pos (by rw [kn_le0 (by decide)]), zSize_0]
      rfl
    · rw [if_neg (by rw [kn_le0 hv]; exact h0), show (5 : Int32) = nI 5 from rfl, kn_div hv (by decide) (by decide), nI_1]
      rw [zSize_s h0] at h ⊢
      rw [ih (v / 5) (c + 1) (by omega) (by omega)]
      congr 2
      omega
theorem md_sizeOf {n v : Nat} (hn : 20 ≤ n) (hv : v < 2 ^ 31) : f_MD_sizeOf n (nI v) = some (nI (zSize v)) := by
  unfold f_MD_sizeOf
  rw [show (0 : Int32) = nI 0 from rfl, md_sizeOf_lp n n v 0 hv (by have := zSize_lt32 hv; omega), Nat.zero_add]
  rfl
theorem fv_at : ∀ j : Nat, j < 13 → kbFv.getD j 0 = nI (5 ^ j) := by decide +kernel
theorem five_lt {j : Nat} (h : j < 13) : 5 ^ j < 2 ^ 31 := by
  have h1 : 5 ^ j ≤ 5 ^ 12 := Nat.pow_le_pow_right (by decide) (by omega)
  have h2 : (5 : Nat) ^ 12 = 244140625 := by decide
  omega
theorem ro_size_lp (n : Nat) {v : Nat} (hv : v ≤ 244140624) : ∀ (k c : Nat), c ≤ zSize v → zSize v < c + k → lp_RO_size_2 n (nI v) k (nI c) = some (nI (zSize v)) := by
  have h12 := zSize_12.mpr hv
  intro k
  induction k with
  | zero => intro c h1 h2; omega
  | succ k ih =>
    intro c h1 h2
    unfold lp_RO_size_2
    by_cases h : 12 ≤ c
    · rw [if_pos (by rw [show (12 : Int32) = nI 12 from rfl, nI_leI (by decide) (by omega)]; exact h)]
      congr 2; omega
    · rw [if_neg (by rw [show (12 : Int32) = nI 12 from rfl, nI_leI (by decide) (by omega)]; exact h), kn_in (by omega), decide_eq_true (by omega), kn_if_t, nI_clamp (by omega), fv_at c (by omega)]
      by_cases h3 : v < 5 ^ c
      · rw [if_pos (by rw [nI_ltI (by omega) (five_lt (by omega))]; exact h3)]
        have := (zSize_le c v).mpr h3
        congr 2; omega
      · rw [if_neg (by rw [nI_ltI (by omega) (five_lt (by omega))]; exact h3), nI_1]
        have := mt (zSize_le c v).mp h3
        exact ih (c + 1) (by omega) (by omega)
theorem ro_size {n v : Nat} (hn : 20 ≤ n) (hv : v ≤ 244140624) : f_RO_size n (nI v) = some (nI (zSize v)) := by
  unfold f_RO_size
  have := zSize_12.mpr hv
  rw [show (0 : Int32) = nI 0 from rfl, ro_size_lp n hv n 0 (by omega) (by omega)]
  rfl
theorem md_isRow_lp (n : Nat) : ∀ (k v : Nat), v < 2 ^ 31 → zSize v < k → lp_MD_isRow_14 n k (nI v) = some (if zNZ v = true then .inr () else .inl 0) := by
  intro k
  induction k with
  | zero => intro v _ h; omega
  | succ k ih =>
    intro v hv h
    unfold lp_MD_isRow_14
    by_cases h0 : v = 0
    · subst h0
      rw [if_pos (by rw [kn_le0 (by decide)]), zNZ_0]
      rfl
    · rw [if_neg (by rw [kn_le0 hv]; exact h0), show (5 : Int32) = nI 5 from rfl, kn_rem hv (by decide) (by decide), kn_div hv (by decide) (by decide)]
      rw [zSize_s h0] at h
      by_cases h5 : v % 5 = 0
      · rw [if_pos (by rw [h5]; rfl), zNZ_s h0]
        simp [h5]
      · rw [if_neg (by rw [kn_0, nI_eq (by omega) (by decide)]; exact h5), ih (v / 5) (by omega) (by omega), zNZ_s h0]
        simp [h5]
theorem md_isRow {n : Nat} (hn : 20 ≤ n) (x : Int32) : f_MD_isRow n x = some (zB (zIsRow x)) := by
  unfold f_MD_isRow
  by_cases hx : x < 0
  · rw [if_pos hx, zIsRow_neg hx]; rfl
  · obtain ⟨v, hv, rfl⟩ := kn_of hx
    rw [if_neg hx, zIsRow_n hv, show (244140624 : Int32) = nI 244140624 from rfl]
    by_cases h : v ≤ 244140624
    · rw [if_pos (by rw [nI_leI hv (by decide)]; exact h), md_isRow_lp n n v hv (by have := zSize_lt32 hv; omega)]
      by_cases hz : zNZ v = true
      · rw [if_pos hz, kn_or_r]; simp [zRow, h, hz, zB]
      · rw [if_neg hz, kn_or_l]; simp [zRow, h, hz, zB]
    · rw [if_neg (by rw [nI_leI hv (by decide)]; exact h)]
      simp [zRow, h, zB, jn_MD_isRow_10]
theorem ro_isRow_lp (n : Nat) : ∀ (k v c : Nat), zSize v + c ≤ 12 → zSize v < k → lp_RO_isRow_16 n k (nI v) (nI c) = some (if zNZ v = true then .inr () else .inl 0) := by
  intro k
  induction k with
  | zero => intro v c _ h; omega
  | succ k ih =>
    intro v c hc h
    have hv : v ≤ 244140624 := zSize_12.mp (by omega)
    unfold lp_RO_isRow_16
    by_cases h0 : v = 0
    · subst h0
      rw [zNZ_0]
      by_cases h12 : (12 : Int32) ≤ nI c
      · rw [if_pos h12]; rfl
      · rw [if_neg h12, if_pos (by rw [kn_le0 (by decide)])]; rfl
    · rw [zSize_s h0] at h hc
      rw [if_neg (by rw [show (12 : Int32) = nI 12 from rfl, nI_leI (by decide) (by omega)]; omega), if_neg (by rw [kn_le0 (by omega)]; exact h0), show (5 : Int32) = nI 5 from rfl, kn_rem (by omega) (by decide) (by decide), kn_div (by omega) (by decide) (by decide), nI_1]
      by_cases h5 : v % 5 = 0
      · rw [if_pos (by rw [h5]; rfl), zNZ_s h0]
        simp [h5]
      · rw [if_neg (by rw [kn_0, nI_eq (by omega) (by decide)]; exact h5), ih (v / 5) (c + 1) (by omega) (by omega), zNZ_s h0]
        simp [h5]
theorem ro_isRow {n : Nat} (hn : 20 ≤ n) (x : Int32) : f_RO_isRow n x = some (zB (zIsRow x)) := by
  unfold f_RO_isRow
  by_cases hx : x < 0
  · rw [if_pos hx, zIsRow_neg hx]; rfl
  · obtain ⟨v, hv, rfl⟩ := kn_of hx
    rw [if_neg hx, zIsRow_n hv, show (244140624 : Int32) = nI 244140624 from rfl]
    by_cases h : v ≤ 244140624
    · have h12 := zSize_12.mpr h
      rw [if_pos (by rw [nI_leI hv (by decide)]; exact h), show (0 : Int32) = nI 0 from rfl, ro_isRow_lp n n v 0 (by omega) (by omega)]
      by_cases hz : zNZ v = true
      · rw [if_pos hz, kn_or_r]; simp [zRow, h, hz, zB, jn_RO_isRow_44]
      · rw [if_neg hz, kn_or_l]; simp [zRow, h, hz, zB]
    · rw [if_neg (by rw [nI_leI hv (by decide)]; exact h)]
      simp [zRow, h, zB, jn_RO_isRow_10]
