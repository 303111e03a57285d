/-! TWO WAYS: what is ahead, and what it costs -/
def zBo (v r : Nat) : Option Nat := if zSize r ≤ zSize v ∧ v / 5 ^ (zSize v - zSize r) = r then some (v % 5 ^ (zSize v - zSize r)) else none
theorem zBeh_o (v r : Nat) : zBeh v r = zFewI (zBo v r) := by
  unfold zBeh zBo
  split <;> rfl
def tN (W : zW) (t x : Nat) : Option (Nat × Nat) := match zBo t (zRowAt W x) with | some u => some (u, 0) | none => match zBo (zRowAt W x) t with | some u => some (u, zSize u) | none => none
def tR (W : zW) : Nat → Nat → Nat → Prop
  | 0, t, s => ∃ a b, a < W.length ∧ b < W.length ∧ a ≠ b ∧ zBo (zRowAt W b) (zRowAt W a) = some t ∧ s = zSize (zRowAt W b)
  | k + 1, t, s => ∃ t' s' x d, tR W k t' s' ∧ t' ≠ 0 ∧ x < W.length ∧ tN W t' x = some (t, d) ∧ s = s' + d
theorem zNZ_dig : ∀ (k v : Nat), zNZ v = true → k < zSize v → v / 5 ^ k % 5 ≠ 0 := by
  intro k
  induction k with
  | zero =>
    intro v hv hk
    have h0 : v ≠ 0 := fun q => by rw [q, zSize_0] at hk; omega
    rw [zNZ_s h0] at hv
    simp only [Bool.and_eq_true, bne_iff_ne] at hv
    rw [Nat.pow_zero, Nat.div_one]; exact hv.1
  | succ k ih =>
    intro v hv hk
    have h0 : v ≠ 0 := fun q => by rw [q, zSize_0] at hk; omega
    rw [zNZ_s h0] at hv
    simp only [Bool.and_eq_true, bne_iff_ne] at hv
    rw [zSize_s h0] at hk
    rw [Nat.pow_succ, Nat.mul_comm, ← Nat.div_div_eq_div_mul]
    exact ih (v / 5) hv.2 (by omega)
theorem zSuf {v m : Nat} (hv : zNZ v = true) (hm : m ≤ zSize v) : zSize (v % 5 ^ m) = m := by
  have h1 : zSize (v % 5 ^ m) ≤ m := (zSize_le m _).mpr (Nat.mod_lt _ (five_pos m))
  by_cases h0 : m = 0
  · omega
  · obtain ⟨j, rfl⟩ : ∃ j, m = j + 1 := ⟨m - 1, by omega⟩
    have hd := zNZ_dig j v hv (by omega)
    have h2 : ¬ zSize (v % 5 ^ (j + 1)) ≤ j := by
      rw [zSize_le]
      intro q
      have e := dig_slice v 0 (j + 1) j (by omega)
      rw [Nat.pow_zero, Nat.div_one, Nat.div_eq_of_lt q, Nat.zero_add] at e
      exact hd e.symm
    omega
/-- a word from a place within it on -/
def tV (W : zW) (l : Nat) : Prop := l / 6 < W.length ∧ 0 < l % 6 ∧ l % 6 < zSize (zRowAt W (l / 6))
def tl (W : zW) (l : Nat) : Nat := zRowAt W (l / 6) % 5 ^ (zSize (zRowAt W (l / 6)) - l % 6)
theorem tV_lt {W : zW} (hW : zWok W) {l : Nat} (h : tV W l) : l < 60 := by
  have := hW.1
  have := h.1
  omega
theorem tl_size {W : zW} (hW : zWok W) {l : Nat} (h : tV W l) : zSize (tl W l) = zSize (zRowAt W (l / 6)) - l % 6 := zSuf (hW.row h.1).2.1 (Nat.sub_le _ _)
theorem tl_pos {W : zW} (hW : zWok W) {l : Nat} (h : tV W l) : tl W l ≠ 0 := fun q => by
  have e := tl_size hW h
  rw [q, zSize_0] at e
  have := h.2.2
  omega
theorem tl_lt {W : zW} (hW : zWok W) {l : Nat} (h : tV W l) : tl W l < 3125 := by
  have s6 := hW.s6 h.1
  have h0 := h.2.1
  have : tl W l < 5 ^ 5 := Nat.lt_of_lt_of_le (Nat.mod_lt _ (five_pos _)) (Nat.pow_le_pow_right (by decide) (by omega))
  exact this
theorem tIx {w f : Nat} (hf : f < 6) : (w * 6 + f) / 6 = w ∧ (w * 6 + f) % 6 = f := by omega
/-- the beginning: b is ahead of a -/
theorem t_init {W : zW} (hW : zWok W) {a b t : Nat} (ha : a < W.length) (hb : b < W.length) (hab : a ≠ b) (h : zBo (zRowAt W b) (zRowAt W a) = some t) : tV W (b * 6 + zSize (zRowAt W a)) ∧ tl W (b * 6 + zSize (zRowAt W a)) = t ∧ zPre (zRowAt W a) (zRowAt W b) = true := by
  have za := hW.sz a ha
  have sb := hW.s6 hb
  have p : zPre (zRowAt W a) (zRowAt W b) = true := by
    cases hp : zPre (zRowAt W a) (zRowAt W b) with
    | true => rfl
    | false =>
      have := zBeh_pre hW ha hb hab
      rw [hp, zBeh_o, h] at this
      have e : zFewI (some t) = -1 := this.mpr rfl
      have ht : t ≤ zRowAt W b := by
        unfold zBo at h
        split at h
        · cases h; exact Nat.mod_le _ _
        · cases h
      have := (hW.row hb).2.2
      exact absurd e (by show ¬ nI t = -1; rw [kn_nm1 (by omega)]; exact id)
  have lt : zSize (zRowAt W a) < zSize (zRowAt W b) := by
    unfold zPre at p
    simp only [Bool.and_eq_true, decide_eq_true_eq] at p
    exact p.1
  have ix := tIx (w := b) (f := zSize (zRowAt W a)) (by omega)
  refine ⟨⟨by rw [ix.1]; exact hb, by rw [ix.2]; exact za, by rw [ix.1, ix.2]; exact lt⟩, ?_, p⟩
  unfold tl
  rw [ix.1, ix.2]
  unfold zBo at h
  split at h
  · cases h; rfl
  · cases h
theorem t_init2 {W : zW} (hW : zWok W) {a b : Nat} (ha : a < W.length) (hb : b < W.length) (h : zPre (zRowAt W a) (zRowAt W b) = true) : a ≠ b ∧ ∃ t, zBo (zRowAt W b) (zRowAt W a) = some t ∧ t = tl W (b * 6 + zSize (zRowAt W a)) ∧ tV W (b * 6 + zSize (zRowAt W a)) := by
  have hab : a ≠ b := fun q => by rw [q, zPre_self] at h; cases h
  unfold zPre at h
  simp only [Bool.and_eq_true, decide_eq_true_eq, beq_iff_eq] at h
  have e : zBo (zRowAt W b) (zRowAt W a) = some (zRowAt W b % 5 ^ (zSize (zRowAt W b) - zSize (zRowAt W a))) := by
    unfold zBo; rw [if_pos ⟨by omega, h.2⟩]
  have q := t_init hW ha hb hab e
  exact ⟨hab, _, e, q.2.1.symm, q.1⟩
/-- a step from a lead, by word x -/
theorem t_step {W : zW} (hW : zWok W) {l x t d : Nat} (hl : tV W l) (hx : x < W.length) (h : tN W (tl W l) x = some (t, d)) : (t = 0 ∧ d = 0 ∧ zSize (zRowAt W x) = zSize (zRowAt W (l / 6)) - l % 6 ∧ zRowAt W x = tl W l) ∨ (zSize (zRowAt W x) < zSize (zRowAt W (l / 6)) - l % 6 ∧ d = 0 ∧ tl W l / 5 ^ (zSize (zRowAt W (l / 6)) - l % 6 - zSize (zRowAt W x)) = zRowAt W x ∧ tV W (l + zSize (zRowAt W x)) ∧ tl W (l + zSize (zRowAt W x)) = t) ∨ (zSize (zRowAt W (l / 6)) - l % 6 < zSize (zRowAt W x) ∧ d = zSize (zRowAt W x) - (zSize (zRowAt W (l / 6)) - l % 6) ∧ zRowAt W x / 5 ^ (zSize (zRowAt W x) - (zSize (zRowAt W (l / 6)) - l % 6)) = tl W l ∧ tV W (x * 6 + (zSize (zRowAt W (l / 6)) - l % 6)) ∧ tl W (x * 6 + (zSize (zRowAt W (l / 6)) - l % 6)) = t) := by
  have sz := tl_size hW hl
  have zx := hW.sz x hx
  have sx := hW.s6 hx
  have sw := hW.s6 hl.1
  have l0 := hl.2.1
  have l2 := hl.2.2
  unfold tN at h
  unfold zBo at h
  rw [sz] at h
  by_cases c1 : zSize (zRowAt W x) ≤ zSize (zRowAt W (l / 6)) - l % 6 ∧ tl W l / 5 ^ (zSize (zRowAt W (l / 6)) - l % 6 - zSize (zRowAt W x)) = zRowAt W x
  · rw [if_pos c1] at h
    simp only [Option.some.injEq, Prod.mk.injEq] at h
    by_cases e : zSize (zRowAt W x) = zSize (zRowAt W (l / 6)) - l % 6
    · left
      rw [show zSize (zRowAt W (l / 6)) - l % 6 - zSize (zRowAt W x) = 0 by omega, Nat.pow_zero, Nat.mod_one] at h
      have := c1.2
      rw [show zSize (zRowAt W (l / 6)) - l % 6 - zSize (zRowAt W x) = 0 by omega, Nat.pow_zero, Nat.div_one] at this
      exact ⟨h.1.symm, h.2.symm, e, this.symm⟩
    · right; left
      have ix : (l + zSize (zRowAt W x)) / 6 = l / 6 ∧ (l + zSize (zRowAt W x)) % 6 = l % 6 + zSize (zRowAt W x) := by omega
      refine ⟨by omega, h.2.symm, c1.2, ⟨by rw [ix.1]; exact hl.1, by rw [ix.2]; omega, by rw [ix.1, ix.2]; omega⟩, ?_⟩
      rw [← h.1]
      unfold tl
      rw [ix.1, ix.2, Nat.mod_mod_of_dvd _ (Nat.pow_dvd_pow 5 (Nat.sub_le _ _))]
      congr 2
      omega
  · rw [if_neg c1] at h
    simp only at h
    by_cases c2 : zSize (zRowAt W (l / 6)) - l % 6 ≤ zSize (zRowAt W x) ∧ zRowAt W x / 5 ^ (zSize (zRowAt W x) - (zSize (zRowAt W (l / 6)) - l % 6)) = tl W l
    · rw [if_pos c2] at h
      simp only [Option.some.injEq, Prod.mk.injEq] at h
      have ne : zSize (zRowAt W x) ≠ zSize (zRowAt W (l / 6)) - l % 6 := fun e => by
        have q := c2.2
        rw [show zSize (zRowAt W x) - (zSize (zRowAt W (l / 6)) - l % 6) = 0 by omega, Nat.pow_zero, Nat.div_one] at q
        refine c1 ⟨by omega, ?_⟩
        rw [show zSize (zRowAt W (l / 6)) - l % 6 - zSize (zRowAt W x) = 0 by omega, Nat.pow_zero, Nat.div_one, q]
      right; right
      have ix := tIx (w := x) (f := zSize (zRowAt W (l / 6)) - l % 6) (by omega)
      have v1 : tV W (x * 6 + (zSize (zRowAt W (l / 6)) - l % 6)) := ⟨by rw [ix.1]; exact hx, by rw [ix.2]; omega, by rw [ix.1, ix.2]; omega⟩
      have et : tl W (x * 6 + (zSize (zRowAt W (l / 6)) - l % 6)) = t := by
        rw [← h.1]; unfold tl; rw [ix.1, ix.2]
      refine ⟨by omega, ?_, c2.2, v1, et⟩
      have := tl_size hW v1
      rw [et, ix.1, ix.2] at this
      rw [← h.2, h.1, this]
    · rw [if_neg c2] at h
      cases h
/-- whatever is reached and isn't the end is a lead -/
theorem tR_lead {W : zW} (hW : zWok W) : ∀ k t s, tR W k t s → t ≠ 0 → ∃ l, tV W l ∧ tl W l = t := by
  intro k
  induction k with
  | zero =>
    intro t s ⟨a, b, ha, hb, hab, h, _⟩ _
    have := t_init hW ha hb hab h
    exact ⟨_, this.1, this.2.1⟩
  | succ k ih =>
    intro t s ⟨t', s', x, d, h1, h2, h3, h4, _⟩ h0
    obtain ⟨l, hl, rfl⟩ := ih t' s' h1 h2
    rcases t_step hW hl h3 h4 with q | q | q
    · exact absurd q.1 h0
    · exact ⟨_, q.2.2.2.1, q.2.2.2.2⟩
    · exact ⟨_, q.2.2.2.1, q.2.2.2.2⟩
/-! the class's order: of those that are ahead the shortest one -/
def tDj (W : zW) (L : Nat → Nat) (P : Nat → Bool) (i : Nat) : Prop := (∀ l, l < 60 → L l < 1000000 → tV W l ∧ (∃ k, tR W k (tl W l) (L l)) ∧ L l ≤ 6 + 6 * i) ∧ (∀ l, l < 60 → P l = true → L l < 1000000 ∧ ∀ x t d, x < W.length → tN W (tl W l) x = some (t, d) → t ≠ 0 ∧ ∃ m, tV W m ∧ tl W m = t ∧ L m ≤ L l + d) ∧ (∀ a b t, a < W.length → b < W.length → a ≠ b → zBo (zRowAt W b) (zRowAt W a) = some t → ∃ m, tV W m ∧ tl W m = t ∧ L m ≤ zSize (zRowAt W b)) ∧ (∀ l m, l < 60 → m < 60 → P l = true → P m = false → L m < 1000000 → L l ≤ L m)
theorem tDj_path {W : zW} (hW : zWok W) {L : Nat → Nat} {P : Nat → Bool} {i : Nat} (hi : i ≤ 60) (h : tDj W L P i) : ∀ k t s, tR W k t s → (t ≠ 0 ∧ ∃ l, tV W l ∧ tl W l = t ∧ P l = true ∧ L l ≤ s) ∨ ∃ m, tV W m ∧ P m = false ∧ L m < 1000000 ∧ L m ≤ s := by
  intro k
  induction k with
  | zero =>
    intro t s ⟨a, b, ha, hb, hab, q, e⟩
    obtain ⟨m, m1, m2, m3⟩ := h.2.2.1 a b t ha hb hab q
    have sb := hW.s6 hb
    cases hp : P m
    · exact Or.inr ⟨m, m1, hp, by omega, by omega⟩
    · exact Or.inl ⟨by rw [← m2]; exact tl_pos hW m1, m, m1, m2, hp, by omega⟩
  | succ k ih =>
    intro t s ⟨t', s', x, d, h1, h2, h3, h4, h5⟩
    rcases ih t' s' h1 with ⟨-, l, l1, l2, l3, l4⟩ | ⟨m, m1, m2, m3, m4⟩
    · obtain ⟨q1, q2⟩ := h.2.1 l (tV_lt hW l1) l3
      rw [← l2] at h4
      obtain ⟨t0, m, m1, m2, m3⟩ := q2 x t d h3 h4
      have b1 := (h.1 l (tV_lt hW l1) q1).2.2
      have hd : d ≤ 6 := by
        have sx := hW.s6 h3
        rcases t_step hW l1 h3 h4 with q | q | q <;> omega
      cases hp : P m
      · exact Or.inr ⟨m, m1, hp, by omega, by omega⟩
      · exact Or.inl ⟨t0, m, m1, m2, hp, by omega⟩
    · exact Or.inr ⟨m, m1, m2, m3, by omega⟩
/-- an end costs no less than some lead that isn't passed -/
theorem tDj_end {W : zW} (hW : zWok W) {L : Nat → Nat} {P : Nat → Bool} {i : Nat} (hi : i ≤ 60) (h : tDj W L P i) {k s : Nat} (hr : tR W k 0 s) : ∃ m, tV W m ∧ P m = false ∧ L m < 1000000 ∧ L m ≤ s := by
  rcases tDj_path hW hi h k 0 s hr with q | q
  · exact absurd rfl q.1
  · exact q
/-! the model's: until nothing is shorter -/
def tSt (W : zW) (T : Nat → Nat) (B : Nat) : Prop := ∀ t x u d, t ≠ 0 → t < 3125 → x < W.length → T t < B → tN W t x = some (u, d) → (u ≠ 0 → T u ≤ T t + d) ∧ (u = 0 → B ≤ T t)
theorem tSt_path {W : zW} (hW : zWok W) {T : Nat → Nat} {B : Nat} (h : tSt W T B) (h0 : ∀ a b t, a < W.length → b < W.length → a ≠ b → zBo (zRowAt W b) (zRowAt W a) = some t → T t ≤ zSize (zRowAt W b)) : ∀ k t s, tR W k t s → (t ≠ 0 → T t ≤ s ∨ B ≤ s) ∧ (t = 0 → B ≤ s) := by
  intro k
  induction k with
  | zero =>
    intro t s ⟨a, b, ha, hb, hab, q, e⟩
    have p := t_init hW ha hb hab q
    refine ⟨fun _ => Or.inl (by rw [e]; exact h0 a b t ha hb hab q), fun z => ?_⟩
    rw [← p.2.1] at z
    exact absurd z (tl_pos hW p.1)
  | succ k ih =>
    intro t s ⟨t', s', x, d, h1, h2, h3, h4, h5⟩
    obtain ⟨l, l1, l2⟩ := tR_lead hW k t' s' h1 h2
    have lt : t' < 3125 := by rw [← l2]; exact tl_lt hW l1
    rcases (ih t' s' h1).1 h2 with q | q
    · by_cases c : T t' < B
      · have z := h t' x t d h2 lt h3 c h4
        exact ⟨fun e => Or.inl (by have := z.1 e; omega), fun e => by have := z.2 e; omega⟩
      · exact ⟨fun _ => Or.inr (by omega), fun _ => by omega⟩
    · exact ⟨fun _ => Or.inr (by omega), fun _ => by omega⟩
