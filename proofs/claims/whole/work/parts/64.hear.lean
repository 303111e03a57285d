/-! WHAT A DOOR HEARS, WHAT A HAND CAN -/
def zMap (K v : Nat) : Nat := if h : v = 0 then 0 else if K = 2 ∧ v % 5 = 2 then zMap K (v / 5) else 5 * zMap K (v / 5) + (if K = 3 ∧ v % 5 = 3 then 1 else v % 5)
termination_by v
decreasing_by all_goals exact Nat.div_lt_self (Nat.pos_of_ne_zero h) (by decide)
theorem zMap_0 (K : Nat) : zMap K 0 = 0 := by rw [zMap]; simp
theorem zMap_s {K v : Nat} (h : v ≠ 0) : zMap K v = if K = 2 ∧ v % 5 = 2 then zMap K (v / 5) else 5 * zMap K (v / 5) + (if K = 3 ∧ v % 5 = 3 then 1 else v % 5) := by rw [zMap]; simp [h]
theorem zMap_le (K : Nat) : ∀ v : Nat, zMap K v ≤ v := by
  intro v
  induction v using Nat.strongRecOn with
  | ind v ih =>
    by_cases h : v = 0
    · subst h; rw [zMap_0]; exact Nat.le_refl _
    · have := ih (v / 5) (Nat.div_lt_self (Nat.pos_of_ne_zero h) (by decide))
      rw [zMap_s h]
      split
      · omega
      · split <;> omega
theorem zMap_id {K : Nat} (h2 : K ≠ 2) (h3 : K ≠ 3) : ∀ v : Nat, zMap K v = v := by
  intro v
  induction v using Nat.strongRecOn with
  | ind v ih =>
    by_cases h : v = 0
    · subst h; exact zMap_0 K
    · have := ih (v / 5) (Nat.div_lt_self (Nat.pos_of_ne_zero h) (by decide))
      rw [zMap_s h, if_neg (by simp [h2]), if_neg (by simp [h3]), this]
      omega
def zWood (K v : Nat) : Nat := zMap K (if K = 1 then v / 5 else v)
def zHear (K : Nat) (wet : Bool) (v : Nat) : Nat := if wet = true ∧ zSize (zWood K v) < 12 then 5 * zWood K v + 1 else zWood K v
theorem zWood_le (K v : Nat) : zWood K v ≤ v := by
  unfold zWood
  split
  · exact Nat.le_trans (zMap_le _ _) (Nat.div_le_self _ _)
  · exact zMap_le _ _
theorem zHear_le {K v : Nat} {wet : Bool} (h : v ≤ 244140624) : zHear K wet v ≤ 244140624 := by
  unfold zHear
  have h1 := zWood_le K v
  split
  · rename_i q
    have := (zSize_le 11 (zWood K v)).mp (by omega)
    rw [show (5 : Nat) ^ 11 = 48828125 by decide] at this
    omega
  · omega
theorem ro_palms_lp (n : Nat) : ∀ (k v o s c : Nat), zSize v + c ≤ 12 → zSize v < k → lp_RO_withoutPalms_9 n k (nI o) (nI s) (nI v) (nI c) = some (nI (o + s * zMap 2 v)) := by
  intro k
  induction k with
  | zero => intro v o s c _ h; omega
  | succ k ih =>
    intro v o s c hc h
    have hv : v ≤ 244140624 := zSize_12.mp (by omega)
    unfold lp_RO_withoutPalms_9
    by_cases h0 : v = 0
    · subst h0
      rw [zMap_0, Nat.mul_zero, Nat.add_zero]
      by_cases h12 : (12 : Int32) ≤ nI c
      · rw [if_pos h12]
      · rw [if_neg h12, if_pos (by rw [kn_le0 (by decide)])]
    · rw [zSize_s h0] at h hc
      rw [if_neg (by rw [show (12 : Int32) = nI 12 from rfl, nI_leI (by decide) (by omega)]; omega), if_neg (by rw [kn_le0 (by omega)]; exact h0), show (5 : Int32) = nI 5 from rfl, kn_rem (by omega) (by decide) (by decide), show (2 : Int32) = nI 2 from rfl, zMap_s h0]
      by_cases h5 : v % 5 = 2
      · rw [if_pos (by rw [h5]), if_pos ⟨rfl, h5⟩]
        unfold jn_RO_withoutPalms_39
        rw [show (5 : Int32) = nI 5 from rfl, kn_div (by omega) (by decide) (by decide), nI_1]
        exact ih (v / 5) o s (c + 1) (by omega) (by omega)
      · rw [if_neg (by rw [nI_eq (by omega) (by decide)]; exact h5), if_neg (by simp [h5]), if_neg (by simp)]
        unfold jn_RO_withoutPalms_39
        rw [show (5 : Int32) = nI 5 from rfl, kn_div (by omega) (by decide) (by decide), nI_1, pk_mul, pk_mul, nI_add, ih (v / 5) _ _ (c + 1) (by omega) (by omega)]
        congr 2
        rw [Nat.mul_add, Nat.mul_assoc, Nat.mul_comm (v % 5) s]
        omega
theorem ro_palms {n v : Nat} (hn : 20 ≤ n) (hv : v ≤ 244140624) : f_RO_withoutPalms n (nI v) = some (nI (zMap 2 v)) := by
  have := zSize_12.mpr hv
  unfold f_RO_withoutPalms
  rw [show (0 : Int32) = nI 0 from rfl, show (1 : Int32) = nI 1 from rfl, ro_palms_lp n n v 0 1 0 (by omega) (by omega)]
  simp [kn_bs, jn_RO_withoutPalms_49]
theorem ro_rings_lp (n : Nat) : ∀ (k v o s c : Nat), zSize v + c ≤ 12 → zSize v < k → lp_RO_knucklesForRings_9 n k (nI o) (nI s) (nI v) (nI c) = some (nI (o + s * zMap 3 v)) := by
  intro k
  induction k with
  | zero => intro v o s c _ h; omega
  | succ k ih =>
    intro v o s c hc h
    have hv : v ≤ 244140624 := zSize_12.mp (by omega)
    unfold lp_RO_knucklesForRings_9
    by_cases h0 : v = 0
    · subst h0
      rw [zMap_0, Nat.mul_zero, Nat.add_zero]
      by_cases h12 : (12 : Int32) ≤ nI c
      · rw [if_pos h12]
      · rw [if_neg h12, if_pos (by rw [kn_le0 (by decide)])]
    · rw [zSize_s h0] at h hc
      have hzm : zMap 3 v = 5 * zMap 3 (v / 5) + (if v % 5 = 3 then 1 else v % 5) := by rw [zMap_s h0]; simp
      rw [if_neg (by rw [show (12 : Int32) = nI 12 from rfl, nI_leI (by decide) (by omega)]; omega), if_neg (by rw [kn_le0 (by omega)]; exact h0), show (5 : Int32) = nI 5 from rfl, kn_rem (by omega) (by decide) (by decide), show (3 : Int32) = nI 3 from rfl, hzm]
      by_cases h5 : v % 5 = 3
      · rw [if_pos (by rw [h5]), if_pos h5]
        unfold jn_RO_knucklesForRings_35
        rw [show (5 : Int32) = nI 5 from rfl, kn_div (by omega) (by decide) (by decide), nI_1, show (1 : Int32) = nI 1 from rfl, pk_mul, pk_mul, nI_add, ih (v / 5) _ _ (c + 1) (by omega) (by omega)]
        congr 2
        rw [Nat.mul_add, Nat.mul_assoc]
        omega
      · rw [if_neg (by rw [nI_eq (by omega) (by decide)]; exact h5), if_neg h5]
        unfold jn_RO_knucklesForRings_35
        rw [show (5 : Int32) = nI 5 from rfl, kn_div (by omega) (by decide) (by decide), nI_1, pk_mul, pk_mul, nI_add, ih (v / 5) _ _ (c + 1) (by omega) (by omega)]
        congr 2
        rw [Nat.mul_add, Nat.mul_assoc, Nat.mul_comm (v % 5) s]
        omega
theorem ro_rings {n v : Nat} (hn : 20 ≤ n) (hv : v ≤ 244140624) : f_RO_knucklesForRings n (nI v) = some (nI (zMap 3 v)) := by
  have := zSize_12.mpr hv
  unfold f_RO_knucklesForRings
  rw [show (0 : Int32) = nI 0 from rfl, show (1 : Int32) = nI 1 from rfl, ro_rings_lp n n v 0 1 0 (by omega) (by omega)]
  simp [kn_bs, jn_RO_knucklesForRings_53]
theorem md_hear_lp (n : Nat) {μ : kbM} {d K : Nat} (hd : d < 12) (hK : μ.1 65 d = nI K) (hK3 : K ≤ 3) : ∀ (k v o s : Nat), v < 2 ^ 31 → zSize v < k → lp_MD_heardAt_24 n (nI d) μ k (nI v) (nI o) (nI s) = some (nI (o + s * zMap K v)) := by
  intro k
  induction k with
  | zero => intro v o s _ h; omega
  | succ k ih =>
    intro v o s hv h
    unfold lp_MD_heardAt_24
    by_cases h0 : v = 0
    · subst h0
      rw [zMap_0, Nat.mul_zero, Nat.add_zero, if_pos (by rw [kn_le0 (by decide)])]
    · rw [zSize_s h0] at h
      have hin : kbIn (nI d) 12 = true := by rw [kn_in (by omega)]; exact decide_eq_true hd
      rw [if_neg (by rw [kn_le0 hv]; exact h0), hin, kn_if_t, nI_clamp (by omega), hK, show (5 : Int32) = nI 5 from rfl, kn_rem hv (by decide) (by decide), show (2 : Int32) = nI 2 from rfl, zMap_s h0]
      have h52 : jn_MD_heardAt_52 n (lp_MD_heardAt_24 n (nI d) μ k) (nI d) (nI v) (nI o) (nI s) (nI (v % 5)) μ = some (nI (o + s * (5 * zMap K (v / 5) + (if K = 3 ∧ v % 5 = 3 then 1 else v % 5)))) := by
        unfold jn_MD_heardAt_52 jn_MD_heardAt_76 jn_MD_heardAt_78 jn_MD_heardAt_88
        rw [hin, kn_if_t, nI_clamp (by omega), hK, show (5 : Int32) = nI 5 from rfl, kn_div hv (by decide) (by decide), pk_mul, show (1 : Int32) = nI 1 from rfl, pk_mul, pk_mul, nI_add, nI_add, ih (v / 5) _ _ (by omega) (by omega), ih (v / 5) _ _ (by omega) (by omega), show (3 : Int32) = nI 3 from rfl]
        by_cases hk3 : K = 3
        · rw [if_pos (by rw [hk3])]
          by_cases h5 : v % 5 = 3
          · rw [if_pos (by rw [h5]), if_pos ⟨hk3, h5⟩]
            congr 2
            rw [Nat.mul_add, Nat.mul_assoc]; omega
          · rw [if_neg (by rw [nI_eq (by omega) (by decide)]; exact h5), if_neg (by simp [h5])]
            congr 2
            rw [Nat.mul_add, Nat.mul_assoc]; omega
        · rw [if_neg (by rw [nI_eq (by omega) (by decide)]; exact hk3), if_neg (by simp [hk3])]
          congr 2
          rw [Nat.mul_add, Nat.mul_assoc]; omega
      by_cases hk2 : K = 2
      · rw [if_pos (by rw [hk2])]
        by_cases h5 : v % 5 = 2
        · rw [if_pos (by rw [h5]), if_pos ⟨hk2, h5⟩]
          unfold jn_MD_heardAt_88
          rw [show (5 : Int32) = nI 5 from rfl, kn_div hv (by decide) (by decide)]
          exact ih (v / 5) o s (by omega) (by omega)
        · rw [if_neg (by rw [nI_eq (by omega) (by decide)]; exact h5), if_neg (by simp [h5])]
          exact h52
      · rw [if_neg (by rw [nI_eq (by omega) (by decide)]; exact hk2), if_neg (by simp [hk2])]
        exact h52
/-- a bit of a small number -/
def zBit (a k : Nat) : Bool := a / 2 ^ k % 2 == 1
theorem md_isOf {a k : Nat} (ha : a < 2 ^ 31) (hk : k < 31) : f_MD_isOf (nI a) (nI k) = some (zB (zBit a k)) := by
  unfold f_MD_isOf
  rw [kn_bit ha hk]
  unfold zBit
  by_cases h : a / 2 ^ k % 2 = 1
  · rw [if_pos (by rw [h]; rfl), h]; rfl
  · rw [if_neg (by rw [kn_1, nI_eq (by omega) (by decide)]; exact h), show (a / 2 ^ k % 2 == 1) = false by simp [h]]; rfl
theorem st_isWet {μ : kbM} {a k : Nat} (hw : μ.1 12 7 = nI a) (ha : a < 2 ^ 31) (hk : k < 31) : f_ST_isWet_12 (nI k) μ = some (zB (zBit a k)) := by
  unfold f_ST_isWet_12
  rw [hw, kn_bit ha hk]
  unfold zBit
  by_cases h : a / 2 ^ k % 2 = 1
  · rw [if_neg (by rw [h]; decide), h]; rfl
  · rw [if_pos (by rw [show a / 2 ^ k % 2 = 0 by omega]; rfl), show (a / 2 ^ k % 2 == 1) = false by simp [h]]; rfl
theorem md_heardAt {n : Nat} (hn : 20 ≤ n) {μ : kbM} {d K w v : Nat} (hd : d < 6) (hK : μ.1 65 d = nI K) (hK3 : K ≤ 3) (hw : μ.1 57 28 = nI w) (hw6 : w < 64) (hv : v ≤ 244140624) : f_MD_heardAt n (nI d) (nI v) μ = some (nI (zHear K (zBit w d) v)) := by
  have key : ∀ u : Nat, u ≤ 244140624 → jn_MD_heardAt_17 n (nI d) (nI u) μ = some (nI (if zBit w d = true ∧ zSize (zMap K u) < 12 then 5 * zMap K u + 1 else zMap K u)) := by
    intro u hu
    have h12 := zSize_12.mpr hu
    have hm := zMap_le K u
    unfold jn_MD_heardAt_17 jn_MD_heardAt_125 jn_MD_heardAt_127
    rw [show (0 : Int32) = nI 0 from rfl, show (1 : Int32) = nI 1 from rfl, md_hear_lp n (by omega) hK hK3 n u 0 1 (by omega) (by omega), kn_bs, hw, md_isOf (by omega) (by omega), kn_bs, Nat.zero_add, Nat.one_mul]
    by_cases hb : zBit w d = true
    · rw [if_neg (by rw [hb]; decide), md_sizeOf hn (by omega), kn_bs, show (12 : Int32) = nI 12 from rfl]
      by_cases hs : zSize (zMap K u) < 12
      · rw [if_neg (by rw [nI_leI (by decide) (by omega)]; omega), if_pos ⟨hb, hs⟩, show (5 : Int32) = nI 5 from rfl, pk_mul, nI_add]
      · rw [if_pos (by rw [nI_leI (by decide) (by have := (zSize_12 (v := zMap K u)).mpr (by omega); omega)]; omega), if_neg (by simp [hs])]
    · rw [if_pos (by rw [show zBit w d = false by simpa using hb]; rfl), if_neg (by simp [hb])]
  unfold f_MD_heardAt
  rw [kn_in (by omega), decide_eq_true (by omega), kn_if_t, nI_clamp (by omega), hK, show (1 : Int32) = nI 1 from rfl, show (5 : Int32) = nI 5 from rfl, kn_div (by omega) (by decide) (by decide)]
  unfold zHear zWood
  by_cases h1 : K = 1
  · rw [if_pos (by rw [h1]), key _ (by omega), if_pos h1]
  · rw [if_neg (by rw [nI_eq (by omega) (by decide)]; exact h1), key _ hv, if_neg h1]
theorem do_wood {n : Nat} (hn : 20 ≤ n) {μ : kbM} {d K v : Nat} (hd : d < 6) (hK : μ.1 33 d = nI K) (hK3 : K ≤ 3) (hv : v ≤ 244140624) : f_DO_throughWood_32 n (nI d) (nI v) μ = some (nI (zWood K v)) := by
  unfold f_DO_throughWood_32
  rw [kn_in (by omega), decide_eq_true hd, kn_if_t, nI_clamp (by omega), hK]
  have e1 : (nI K = 1) ↔ K = 1 := by rw [kn_1, nI_eq (by omega) (by decide)]
  have e2 : (nI K = 2) ↔ K = 2 := by rw [show (2 : Int32) = nI 2 from rfl, nI_eq (by omega) (by decide)]
  have e3 : (nI K = 3) ↔ K = 3 := by rw [show (3 : Int32) = nI 3 from rfl, nI_eq (by omega) (by decide)]
  unfold zWood
  by_cases h1 : K = 1
  · rw [if_pos (e1.mpr h1), if_pos h1, zMap_id (by omega) (by omega)]
    unfold f_RO_withoutLast
    rw [show (5 : Int32) = nI 5 from rfl, kn_div (by omega) (by decide) (by decide)]; rfl
  · rw [if_neg (mt e1.mp h1), if_neg h1]
    by_cases h2 : K = 2
    · subst h2; rw [if_pos (e2.mpr rfl), ro_palms hn hv]; rfl
    · rw [if_neg (mt e2.mp h2)]
      by_cases h3 : K = 3
      · subst h3; rw [if_pos (e3.mpr rfl), ro_rings hn hv]; rfl
      · rw [if_neg (mt e3.mp h3), zMap_id h2 h3]
theorem ho_hearing {n : Nat} (hn : 20 ≤ n) {μ : kbM} {d K w v : Nat} (hd : d < 6) (hK : μ.1 33 d = nI K) (hK3 : K ≤ 3) (hw : μ.1 12 7 = nI w) (hw6 : w < 64) (hv : v ≤ 244140624) : f_HO_hearing n (nI d) (nI v) μ = some (nI (zHear K (zBit w d) v)) := by
  have hm := zWood_le K v
  unfold f_HO_hearing jn_HO_hearing_30
  rw [do_wood hn hd hK hK3 hv, kn_bs, st_isWet hw (by omega) (by omega), kn_bs]
  unfold zHear
  by_cases hb : zBit w d = true
  · rw [if_neg (by rw [hb]; decide)]
    unfold f_RO_withLast jn_RO_withLast_18
    rw [ro_size hn (by omega), kn_bs, show (12 : Int32) = nI 12 from rfl]
    by_cases hs : zSize (zWood K v) < 12
    · rw [if_neg (by rw [nI_leI (by decide) (by omega)]; omega), if_pos ⟨hb, hs⟩, show (5 : Int32) = nI 5 from rfl, show (1 : Int32) = nI 1 from rfl, pk_mul, nI_add, kn_bs, Nat.mul_comm]
    · rw [if_pos (by rw [nI_leI (by decide) (by have := (zSize_12 (v := zWood K v)).mpr (by omega); omega)]; omega), if_neg (by simp [hs]), kn_bs]
  · rw [if_pos (by rw [show zBit w d = false by simpa using hb]; rfl), if_neg (by simp [hb])]
/-! hands -/
def zCan (h v : Nat) : Bool := if q : v = 0 then true else zBit h (v % 5 - 1) && zCan h (v / 5)
termination_by v
decreasing_by exact Nat.div_lt_self (Nat.pos_of_ne_zero q) (by decide)
theorem zCan_0 (h : Nat) : zCan h 0 = true := by rw [zCan]; simp
theorem zCan_s {h v : Nat} (q : v ≠ 0) : zCan h v = (zBit h (v % 5 - 1) && zCan h (v / 5)) := by rw [zCan]; simp [q]
theorem md_can_lp (n : Nat) {h : Nat} (hh : h < 16) : ∀ (k v : Nat), v < 2 ^ 31 → zNZ v = true → zSize v < k → lp_MD_can_2 n (nI h) k (nI v) = some (if zCan h v = true then .inr () else .inl 0) := by
  intro k
  induction k with
  | zero => intro v _ _ h; omega
  | succ k ih =>
    intro v hv hz hs
    unfold lp_MD_can_2
    by_cases h0 : v = 0
    · subst h0
      rw [if_pos (by rw [kn_le0 (by decide)]), zCan_0]; rfl
    · rw [zSize_s h0] at hs
      rw [zNZ_s h0] at hz
      simp only [Bool.and_eq_true, bne_iff_ne] at hz
      rw [if_neg (by rw [kn_le0 hv]; exact h0), show (5 : Int32) = nI 5 from rfl, kn_rem hv (by decide) (by decide), kn_div hv (by decide) (by decide), show (1 : Int32) = nI 1 from rfl, pk_sub (by omega), md_isOf (by omega) (by omega), kn_bs, zCan_s h0]
      by_cases hb : zBit h (v % 5 - 1) = true
      · rw [if_neg (by rw [hb]; decide), ih (v / 5) (by omega) hz.2 (by omega), hb]; rfl
      · rw [if_pos (by rw [show zBit h (v % 5 - 1) = false by simpa using hb]; rfl), show zBit h (v % 5 - 1) = false by simpa using hb]; rfl
theorem md_can {n h v : Nat} (hn : 20 ≤ n) (hh : h < 16) (hv : v < 2 ^ 31) (hz : zNZ v = true) : f_MD_can n (nI h) (nI v) = some (zB (zCan h v)) := by
  unfold f_MD_can
  rw [md_can_lp n hh n v hv hz (by have := zSize_lt32 hv; omega)]
  by_cases hc : zCan h v = true
  · rw [if_pos hc, kn_or_r, hc]; rfl
  · rw [if_neg hc, kn_or_l, show zCan h v = false by simpa using hc]; rfl
theorem zSub_tab : ∀ b : Fin 16, ∀ h : Fin 16, (decide ((nI b.val &&& (nI h.val ^^^ (-1))) = 0)) = ((b.val &&& h.val) == b.val) := by decide +kernel
theorem zSub_or : ∀ b : Fin 16, ∀ h : Fin 16, ∀ j : Fin 4, (((b.val ||| 2 ^ j.val) &&& h.val) == (b.val ||| 2 ^ j.val)) = (zBit h.val j.val && ((b.val &&& h.val) == b.val)) := by decide +kernel
theorem zOr4 : ∀ b : Fin 16, ∀ j : Fin 4, (b.val ||| 2 ^ j.val) < 16 := by decide +kernel
/-- bits of the sounds -/
def zBits (a v : Nat) : Nat := if q : v = 0 then a else zBits (a ||| 2 ^ (v % 5 - 1)) (v / 5)
termination_by v
decreasing_by exact Nat.div_lt_self (Nat.pos_of_ne_zero q) (by decide)
theorem zBits_0 (a : Nat) : zBits a 0 = a := by rw [zBits]; simp
theorem zBits_s {a v : Nat} (q : v ≠ 0) : zBits a v = zBits (a ||| 2 ^ (v % 5 - 1)) (v / 5) := by rw [zBits]; simp [q]
theorem zBits_lt : ∀ v a : Nat, a < 16 → zBits a v < 16 := by
  intro v
  induction v using Nat.strongRecOn with
  | ind v ih =>
    intro a ha
    by_cases h : v = 0
    · subst h; rw [zBits_0]; exact ha
    · rw [zBits_s h]
      refine ih (v / 5) (Nat.div_lt_self (Nat.pos_of_ne_zero h) (by decide)) _ ?_
      have h4 : v % 5 - 1 < 4 := by omega
      exact zOr4 ⟨a, ha⟩ ⟨v % 5 - 1, h4⟩
theorem zBits_can {h : Nat} (hh : h < 16) : ∀ v a : Nat, a < 16 → ((zBits a v &&& h) == zBits a v) = (zCan h v && ((a &&& h) == a)) := by
  intro v
  induction v using Nat.strongRecOn with
  | ind v ih =>
    intro a ha
    by_cases h0 : v = 0
    · subst h0; rw [zBits_0, zCan_0]; simp
    · have h4 : v % 5 - 1 < 4 := by omega
      have ho := zOr4 ⟨a, ha⟩ ⟨v % 5 - 1, h4⟩
      have hs := zSub_or ⟨a, ha⟩ ⟨h, hh⟩ ⟨v % 5 - 1, h4⟩
      rw [zBits_s h0, ih (v / 5) (Nat.div_lt_self (Nat.pos_of_ne_zero h0) (by decide)) _ ho, zCan_s h0]
      simp only at hs
      rw [hs]
      cases zBit h (v % 5 - 1) <;> cases zCan h (v / 5) <;> simp
theorem ro_handBit {d : Nat} (h1 : 1 ≤ d) (h2 : d ≤ 4) : f_RO_handBit (nI d) = some (nI (2 ^ (d - 1))) := by
  unfold f_RO_handBit jn_RO_handBit_14
  rw [show (1 : Int32) = nI 1 from rfl, if_pos (by rw [nI_leI (by decide) (by omega)]; exact h1), pk_sub h1, kn_shl (by omega)]
theorem ro_sounds_lp (n : Nat) : ∀ (k v a c : Nat), zSize v + c ≤ 12 → zNZ v = true → zSize v < k → lp_RO_soundsIn_6 n k (nI a) (nI v) (nI c) = some (nI (zBits a v)) := by
  intro k
  induction k with
  | zero => intro v a c _ _ h; omega
  | succ k ih =>
    intro v a c hc hz hs
    have hv : v ≤ 244140624 := zSize_12.mp (by omega)
    unfold lp_RO_soundsIn_6
    by_cases h0 : v = 0
    · subst h0
      rw [zBits_0]
      by_cases h12 : (12 : Int32) ≤ nI c
      · rw [if_pos h12]
      · rw [if_neg h12, if_pos (by rw [kn_le0 (by decide)])]
    · rw [zSize_s h0] at hs hc
      rw [zNZ_s h0] at hz
      simp only [Bool.and_eq_true, bne_iff_ne] at hz
      rw [if_neg (by rw [show (12 : Int32) = nI 12 from rfl, nI_leI (by decide) (by omega)]; omega), if_neg (by rw [kn_le0 (by omega)]; exact h0), show (5 : Int32) = nI 5 from rfl, kn_rem (by omega) (by decide) (by decide), ro_handBit (by omega) (by omega), kn_bs, kn_div (by omega) (by decide) (by decide), nI_1, kn_or, zBits_s h0]
      exact ih (v / 5) _ (c + 1) (by omega) hz.2 (by omega)
theorem ro_sounds {n v : Nat} (hn : 20 ≤ n) (hv : v ≤ 244140624) (hz : zNZ v = true) : f_RO_soundsIn n (nI v) = some (nI (zBits 0 v)) := by
  have := zSize_12.mpr hv
  unfold f_RO_soundsIn jn_RO_soundsIn_35
  rw [show (0 : Int32) = nI 0 from rfl, ro_sounds_lp n n v 0 0 (by omega) hz (by omega), kn_bs]
theorem do_can {n : Nat} (hn : 20 ≤ n) {μ : kbM} {d h v : Nat} (hd : d < 6) (hH : μ.1 34 d = nI h) (hh : h < 16) (hv : v ≤ 244140624) (hz : zNZ v = true) : f_DO_can_32 n (nI d) (nI v) μ = some (zB (zCan h v)) := by
  have hb := zBits_lt v 0 (by decide)
  have ht := zSub_tab ⟨zBits 0 v, hb⟩ ⟨h, hh⟩
  have hc := zBits_can hh v 0 (by decide)
  simp only at ht
  have e0 : ((0 &&& h) == 0) = true := by simp
  rw [hc, e0, Bool.and_true] at ht
  unfold f_DO_can_32 jn_DO_can_32_21
  rw [ro_sounds hn hv hz, kn_bs, kn_in (by omega), decide_eq_true hd, kn_if_t, nI_clamp (by omega), hH]
  by_cases hq : zCan h v = true
  · rw [hq] at ht
    rw [if_pos (of_decide_eq_true ht), hq]; rfl
  · have hq' : zCan h v = false := by simpa using hq
    rw [hq'] at ht
    rw [if_neg (of_decide_eq_false ht), hq']; rfl
