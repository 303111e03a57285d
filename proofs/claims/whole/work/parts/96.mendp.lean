/-! TO MEND: costs by word and place; the greatest that no step can lower -/
def mSt (W : zW) (C : List Int) (K : Nat → Nat → Nat) : Prop := (∀ w k, w < W.length → k < zSize (zRowAt W w) → K w (k + 1) ≤ K w k + 1) ∧ ∀ a b, a < W.length → b < W.length → zJoin W C a b = true → K b 0 ≤ K a (zSize (zRowAt W a))
def mLb (W : zW) (D K : Nat → Nat → Nat) : Prop := ∀ w k, w < W.length → k ≤ zSize (zRowAt W w) → D w k ≤ K w k
def mGs (W : zW) (C : List Int) (K S : Nat → Nat → Nat) : Prop := mSt W C S ∧ mLb W S K ∧ ∀ D, mSt W C D → mLb W D K → mLb W D S
def mRl (W : zW) (C : List Int) (K K' : Nat → Nat → Nat) : Prop := mLb W K' K ∧ ∀ D, mSt W C D → mLb W D K → mLb W D K'
def mUp (K : Nat → Nat → Nat) (w k x : Nat) : Nat → Nat → Nat := fun a b => if a = w ∧ b = k then x else K a b
def mSm (W : zW) (K : Nat → Nat → Nat) : Nat := zSum (fun w => zSum (fun k => K w k) (zSize (zRowAt W w) + 1)) W.length
theorem mUp_at (K : Nat → Nat → Nat) (w k x : Nat) : mUp K w k x w k = x := by unfold mUp; rw [if_pos ⟨rfl, rfl⟩]
theorem mUp_no {K : Nat → Nat → Nat} {w k x a b : Nat} (h : ¬ (a = w ∧ b = k)) : mUp K w k x a b = K a b := by unfold mUp; rw [if_neg h]
theorem mRl.rf {W : zW} {C : List Int} {K : Nat → Nat → Nat} : mRl W C K K := ⟨fun _ _ _ _ => Nat.le_refl _, fun _ _ h => h⟩
theorem mRl.tr {W : zW} {C : List Int} {K K' K'' : Nat → Nat → Nat} (h : mRl W C K K') (h' : mRl W C K' K'') : mRl W C K K'' := ⟨fun w k hw hk => Nat.le_trans (h'.1 w k hw hk) (h.1 w k hw hk), fun D hD hK => h'.2 D hD (h.2 D hD hK)⟩
theorem mRl.gs {W : zW} {C : List Int} {K K' : Nat → Nat → Nat} (h : mRl W C K K') (hs : mSt W C K') : mGs W C K K' := ⟨hs, h.1, h.2⟩
theorem mRl.snd {W : zW} {C : List Int} {K : Nat → Nat → Nat} {w k x : Nat} (hw : w < W.length) (hk : k < zSize (zRowAt W w)) (hx : x ≤ K w (k + 1)) (hx2 : min (K w (k + 1)) (K w k + 1) ≤ x) : mRl W C K (mUp K w (k + 1) x) := by
  refine ⟨fun a b ha hb => ?_, fun D hD hK a b ha hb => ?_⟩
  · by_cases e : a = w ∧ b = k + 1
    · obtain ⟨rfl, rfl⟩ := e; rw [mUp_at]; exact hx
    · rw [mUp_no e]; exact Nat.le_refl _
  · by_cases e : a = w ∧ b = k + 1
    · obtain ⟨rfl, rfl⟩ := e
      rw [mUp_at]
      have h1 := hD.1 a k hw hk
      have h2 := hK a k hw (by omega)
      have h3 := hK a (k + 1) hw (by omega)
      omega
    · rw [mUp_no e]; exact hK a b ha hb
theorem mRl.bgn {W : zW} {C : List Int} {K : Nat → Nat → Nat} {a b : Nat} (ha : a < W.length) (hb : b < W.length) (hj : zJoin W C a b = true) (hx : K a (zSize (zRowAt W a)) ≤ K b 0) : mRl W C K (mUp K b 0 (K a (zSize (zRowAt W a)))) := by
  refine ⟨fun x y hx' hy => ?_, fun D hD hK x y hx' hy => ?_⟩
  · by_cases e : x = b ∧ y = 0
    · obtain ⟨rfl, rfl⟩ := e; rw [mUp_at]; exact hx
    · rw [mUp_no e]; exact Nat.le_refl _
  · by_cases e : x = b ∧ y = 0
    · obtain ⟨rfl, rfl⟩ := e
      rw [mUp_at]
      exact Nat.le_trans (hD.2 a x ha hb hj) (hK a _ ha (Nat.le_refl _))
    · rw [mUp_no e]; exact hK x y hx' hy
theorem zSum_mono {f g : Nat → Nat} {c : Nat} (h : ∀ i, i < c → f i ≤ g i) : zSum f c ≤ zSum g c := by
  induction c with
  | zero => exact Nat.le_refl _
  | succ c ih =>
    have h1 := ih fun i hi => h i (by omega)
    have h2 := h c (by omega)
    rw [zSum_s, zSum_s]; omega
theorem zSum_lt {f g : Nat → Nat} {c j : Nat} (h : ∀ i, i < c → f i ≤ g i) (hj : j < c) (hl : f j < g j) : zSum f c < zSum g c := by
  induction c with
  | zero => omega
  | succ c ih =>
    have h2 := h c (by omega)
    rw [zSum_s, zSum_s]
    by_cases e : j = c
    · subst e
      have := zSum_mono (f := f) (g := g) (c := j) fun i hi => h i (by omega)
      omega
    · have := ih (fun i hi => h i (by omega)) (by omega)
      omega
theorem mSm_lt {W : zW} {K K' : Nat → Nat → Nat} (h : mLb W K' K) {w k : Nat} (hw : w < W.length) (hk : k ≤ zSize (zRowAt W w)) (hl : K' w k < K w k) : mSm W K' < mSm W K := by
  unfold mSm
  refine zSum_lt (j := w) (fun i hi => zSum_mono fun j hj => h i j hi (by omega)) hw ?_
  exact zSum_lt (j := k) (fun j hj => h w j hw (by omega)) (by omega) hl
theorem mSm_le {W : zW} {K K' : Nat → Nat → Nat} (h : mLb W K' K) : mSm W K' ≤ mSm W K := by
  unfold mSm
  exact zSum_mono fun i hi => zSum_mono fun j hj => h i j hi (by omega)
theorem mGs_ex {W : zW} (hW : zWok W) (C : List Int) : ∀ (m : Nat) (K : Nat → Nat → Nat), mSm W K = m → ∃ S, mGs W C K S := by
  intro m
  induction m using Nat.strongRecOn with
  | ind m ih =>
    intro K hm
    by_cases hs : mSt W C K
    · exact ⟨K, mRl.rf.gs hs⟩
    · have step : ∀ K', mRl W C K K' → mSm W K' < mSm W K → ∃ S, mGs W C K S := by
        intro K' h1 h2
        obtain ⟨S, h3, h4, h5⟩ := ih (mSm W K') (by omega) K' rfl
        exact ⟨S, h3, fun w k hw hk => Nat.le_trans (h4 w k hw hk) (h1.1 w k hw hk), fun D hD hK => h5 D hD (h1.2 D hD hK)⟩
      by_cases h1 : ∀ w k, w < W.length → k < zSize (zRowAt W w) → K w (k + 1) ≤ K w k + 1
      · have h2 : ¬ ∀ a b, a < W.length → b < W.length → zJoin W C a b = true → K b 0 ≤ K a (zSize (zRowAt W a)) := fun q => hs ⟨h1, q⟩
        simp only [Classical.not_forall] at h2
        obtain ⟨a, b, ha, hb, hj, hx⟩ := h2
        have r := mRl.bgn (K := K) ha hb hj (by omega)
        exact step _ r (mSm_lt r.1 hb (Nat.zero_le _) (by rw [mUp_at]; omega))
      · simp only [Classical.not_forall] at h1
        obtain ⟨w, k, hw, hk, hx⟩ := h1
        have r := mRl.snd (C := C) (K := K) (x := K w k + 1) hw hk (by omega) (by omega)
        exact step _ r (mSm_lt (k := k + 1) r.1 hw (by omega) (by rw [mUp_at]; omega))
theorem mGs_uq {W : zW} {C : List Int} {K K' S S' : Nat → Nat → Nat} (hK : ∀ w k, w < W.length → k ≤ zSize (zRowAt W w) → K w k = K' w k) (h : mGs W C K S) (h' : mGs W C K' S') : ∀ w k, w < W.length → k ≤ zSize (zRowAt W w) → S w k = S' w k := by
  intro w k hw hk
  have h1 : mLb W S K' := fun a b ha hb => by rw [← hK a b ha hb]; exact h.2.1 a b ha hb
  have h2 : mLb W S' K := fun a b ha hb => by rw [hK a b ha hb]; exact h'.2.1 a b ha hb
  exact Nat.le_antisymm (h'.2.2 S h.1 h1 w k hw hk) (h.2.2 S' h'.1 h2 w k hw hk)
/-- what the greatest one stands on -/
theorem mGs_t0 {W : zW} (hW : zWok W) {C : List Int} {K S : Nat → Nat → Nat} (h : mGs W C K S) {w : Nat} (hw : w < W.length) : S w 0 = K w 0 ∨ ∃ a, a < W.length ∧ zJoin W C a w = true ∧ S a (zSize (zRowAt W a)) = S w 0 := by
  refine Classical.byContradiction fun q => ?_
  have q1 : ¬ S w 0 = K w 0 := fun e => q (Or.inl e)
  have q2 : ∀ a, a < W.length → zJoin W C a w = true → ¬ S a (zSize (zRowAt W a)) = S w 0 := fun a ha hj e => q (Or.inr ⟨a, ha, hj, e⟩)
  have h0 := h.2.1 w 0 hw (Nat.zero_le _)
  have st : mSt W C (mUp S w 0 (S w 0 + 1)) := by
    refine ⟨fun x k hx hk => ?_, fun a b ha hb hj => ?_⟩
    · have := h.1.1 x k hx hk
      rw [mUp_no (show ¬ (x = w ∧ k + 1 = 0) by omega)]
      by_cases e : x = w ∧ k = 0
      · obtain ⟨rfl, rfl⟩ := e; rw [mUp_at]; omega
      · rw [mUp_no e]; exact this
    · have z0 := hW.sz a ha
      have := h.1.2 a b ha hb hj
      rw [mUp_no (show ¬ (a = w ∧ zSize (zRowAt W a) = 0) by omega)]
      by_cases e : b = w
      · subst e
        rw [mUp_at]
        have := q2 a ha hj
        omega
      · rw [mUp_no (fun z => e z.1)]; exact this
  have lb : mLb W (mUp S w 0 (S w 0 + 1)) K := by
    intro x k hx hk
    by_cases e : x = w ∧ k = 0
    · obtain ⟨rfl, rfl⟩ := e; rw [mUp_at]; omega
    · rw [mUp_no e]; exact h.2.1 x k hx hk
  have := h.2.2 _ st lb w 0 hw (Nat.zero_le _)
  rw [mUp_at] at this
  omega
theorem mGs_tk {W : zW} (hW : zWok W) {C : List Int} {K S : Nat → Nat → Nat} (h : mGs W C K S) {w k : Nat} (hw : w < W.length) (hk : k < zSize (zRowAt W w)) : S w (k + 1) = K w (k + 1) ∨ S w (k + 1) = S w k + 1 := by
  refine Classical.byContradiction fun q => ?_
  have q1 : ¬ S w (k + 1) = K w (k + 1) := fun e => q (Or.inl e)
  have q2 : ¬ S w (k + 1) = S w k + 1 := fun e => q (Or.inr e)
  have h0 := h.2.1 w (k + 1) hw hk
  have h1 := h.1.1 w k hw hk
  have st : mSt W C (mUp S w (k + 1) (S w (k + 1) + 1)) := by
    refine ⟨fun x j hx hj => ?_, fun a b ha hb hj => ?_⟩
    · have := h.1.1 x j hx hj
      by_cases e : x = w ∧ j + 1 = k + 1
      · obtain ⟨rfl, e2⟩ := e
        have : j = k := by omega
        subst this
        rw [mUp_at, mUp_no (by omega)]; omega
      · rw [mUp_no e]
        by_cases e2 : x = w ∧ j = k + 1
        · obtain ⟨rfl, rfl⟩ := e2; rw [mUp_at]; omega
        · rw [mUp_no e2]; exact this
    · have := h.1.2 a b ha hb hj
      rw [mUp_no (show ¬ (b = w ∧ 0 = k + 1) by omega)]
      by_cases e : a = w ∧ zSize (zRowAt W a) = k + 1
      · obtain ⟨rfl, e2⟩ := e
        rw [e2, mUp_at]
        rw [e2] at this
        omega
      · rw [mUp_no e]; exact this
  have lb : mLb W (mUp S w (k + 1) (S w (k + 1) + 1)) K := by
    intro x j hx hj
    by_cases e : x = w ∧ j = k + 1
    · obtain ⟨rfl, rfl⟩ := e; rw [mUp_at]; omega
    · rw [mUp_no e]; exact h.2.1 x j hx hj
  have := h.2.2 _ st lb w (k + 1) hw hk
  rw [mUp_at] at this
  omega
/-! rounds of the class: words in the order of what beginning with them costs -/
def mRk (W : zW) (S : Nat → Nat → Nat) (w : Nat) : Nat := zCnt (fun a => decide (S a 0 < S w 0)) W.length
theorem zCnt_mono {p q : Nat → Bool} {c : Nat} (h : ∀ i, i < c → p i = true → q i = true) : zCnt p c ≤ zCnt q c := by
  induction c with
  | zero => exact Nat.le_refl _
  | succ c ih =>
    have h1 := ih fun i hi => h i (by omega)
    have h2 := h c (by omega)
    rw [zCnt_s, zCnt_s]
    cases hp : p c
    · simp; omega
    · rw [h2 hp]; simp; omega
theorem zCnt_lt {p q : Nat → Bool} {c j : Nat} (h : ∀ i, i < c → p i = true → q i = true) (hj : j < c) (hp : p j = false) (hq : q j = true) : zCnt p c < zCnt q c := by
  induction c with
  | zero => omega
  | succ c ih =>
    rw [zCnt_s, zCnt_s]
    by_cases e : j = c
    · subst e
      have := zCnt_mono (p := p) (q := q) (c := j) fun i hi => h i (by omega)
      rw [hp, hq]; simp; omega
    · have h1 := ih (fun i hi => h i (by omega)) (by omega)
      have h2 := h c (by omega)
      cases hpc : p c
      · simp; omega
      · rw [h2 hpc]; simp; omega
theorem mRk_lt {W : zW} {S : Nat → Nat → Nat} {a w : Nat} (ha : a < W.length) (h : S a 0 < S w 0) : mRk W S a < mRk W S w :=
  zCnt_lt (j := a) (fun i _ q => by simp only [decide_eq_true_eq] at q ⊢; omega) ha (by simp) (by simpa using h)
theorem mRk_c {W : zW} {S : Nat → Nat → Nat} {w : Nat} (hw : w < W.length) : mRk W S w < W.length := by
  have := zCnt_lt (p := fun a => decide (S a 0 < S w 0)) (q := fun _ => true) (c := W.length) (j := w) (fun _ _ _ => rfl) hw (by simp) rfl
  exact Nat.lt_of_lt_of_le this (zCnt_le _ _)
def mIv (W : zW) (S K : Nat → Nat → Nat) (r : Nat) : Prop := ∀ w, w < W.length → mRk W S w < r → K w 0 ≤ S w 0
theorem mClaimA {W : zW} (hW : zWok W) {C : List Int} {K0 S K' : Nat → Nat → Nat} (h : mGs W C K0 S) (hl : mLb W K' K0) (hs : ∀ w k, w < W.length → k < zSize (zRowAt W w) → K' w (k + 1) ≤ K' w k + 1) {a : Nat} (ha : a < W.length) (h0 : K' a 0 ≤ S a 0) : ∀ k, k ≤ zSize (zRowAt W a) → K' a k ≤ S a k := by
  intro k
  induction k with
  | zero => intro _; exact h0
  | succ k ih =>
    intro hk
    have h1 := ih (by omega)
    have h2 := hs a k ha hk
    have h3 := hl a (k + 1) ha hk
    rcases mGs_tk hW h ha hk with e | e <;> omega
theorem mClaimB {W : zW} (hW : zWok W) {C : List Int} {K0 S K' : Nat → Nat → Nat} (h : mGs W C K0 S) (hl : mLb W K' K0) (hs : ∀ w k, w < W.length → k < zSize (zRowAt W w) → K' w (k + 1) ≤ K' w k + 1) {a : Nat} (ha : a < W.length) : ∀ k, k ≤ zSize (zRowAt W a) → K' a k ≤ S a k ∨ S a k = S a 0 + k := by
  intro k
  induction k with
  | zero => intro _; exact Or.inr rfl
  | succ k ih =>
    intro hk
    have h1 := ih (by omega)
    have h2 := hs a k ha hk
    have h3 := hl a (k + 1) ha hk
    rcases mGs_tk hW h ha hk with e | e <;> omega
theorem mIv_step {W : zW} (hW : zWok W) {C : List Int} {K0 S K K' K'' : Nat → Nat → Nat} {r : Nat} (h : mGs W C K0 S) (hI : mIv W S K r) (hl : mLb W K' K0) (hs : ∀ w k, w < W.length → k < zSize (zRowAt W w) → K' w (k + 1) ≤ K' w k + 1) (h0 : ∀ w, w < W.length → K' w 0 ≤ K w 0) (h1 : ∀ w, w < W.length → K'' w 0 ≤ K' w 0) (h2 : ∀ a b, a < W.length → b < W.length → zJoin W C a b = true → K'' b 0 ≤ K' a (zSize (zRowAt W a))) : mIv W S K'' (r + 1) := by
  intro w hw hr
  rcases mGs_t0 hW h hw with e | ⟨a, ha, hj, e⟩
  · have q1 := h1 w hw
    have q2 := hl w 0 hw (Nat.zero_le _)
    omega
  · have q1 := h2 a w ha hw hj
    rcases mClaimB hW h hl hs ha (zSize (zRowAt W a)) (Nat.le_refl _) with q | q
    · omega
    · have z0 := hW.sz a ha
      have lt : S a 0 < S w 0 := by omega
      have q2 := hI a ha (by have := mRk_lt (W := W) (S := S) ha lt; omega)
      have q3 := h0 a ha
      have q4 := mClaimA hW h hl hs ha (by omega) (zSize (zRowAt W a)) (Nat.le_refl _)
      omega
/-- when all beginnings are as they end, nothing changes any more -/
theorem mIv_end {W : zW} (hW : zWok W) {C : List Int} {K0 S K' : Nat → Nat → Nat} (h : mGs W C K0 S) (hR : mRl W C K0 K') (hI : mIv W S K' W.length) (hs : ∀ w k, w < W.length → k < zSize (zRowAt W w) → K' w (k + 1) ≤ K' w k + 1) : mSt W C K' := by
  have up : ∀ w k, w < W.length → k ≤ zSize (zRowAt W w) → K' w k = S w k := fun w k hw hk => Nat.le_antisymm (mClaimA hW h hR.1 hs hw (hI w hw (mRk_c hw)) k hk) (hR.2 S h.1 h.2.1 w k hw hk)
  refine ⟨hs, fun a b ha hb hj => ?_⟩
  rw [up b 0 hb (Nat.zero_le _), up a _ ha (Nat.le_refl _)]
  exact h.1.2 a b ha hb hj
/-! a sound is passed -/
def mPs (W : zW) (x : Nat) (K : Nat → Nat → Nat) : Nat → Nat → Nat := fun w k => if k = 0 then K w 0 + 1 else min (K w k + 1) (K w (k - 1) + (if zDg (zRowAt W w) (k - 1) = x then 0 else 1))
/-- the costs once i sounds of v are passed -/
def mMd (W : zW) (C : List Int) (v : Nat) : Nat → (Nat → Nat → Nat) → Prop
  | 0, S => mGs W C (fun _ k => if k = 0 then 0 else 1000000) S
  | i + 1, S => ∃ S', mMd W C v i S' ∧ mGs W C (mPs W (zDg v i) S') S
theorem mMd_le {W : zW} (hW : zWok W) {C : List Int} {v : Nat} : ∀ i S, mMd W C v i S → ∀ w k, w < W.length → k ≤ zSize (zRowAt W w) → S w k ≤ k + i := by
  intro i
  induction i with
  | zero =>
    intro S h w k hw
    induction k with
    | zero => intro _; exact h.2.1 w 0 hw (Nat.zero_le _)
    | succ k ih =>
      intro hk
      have h1 := ih (by omega)
      have h2 := h.1.1 w k hw hk
      omega
  | succ i ih =>
    intro S ⟨S', h1, h2⟩ w k hw hk
    have q := h2.2.1 w k hw hk
    have q2 := ih S' h1 w k hw hk
    unfold mPs at q
    by_cases e : k = 0
    · subst e
      rw [if_pos rfl] at q
      omega
    · rw [if_neg e] at q
      omega
theorem mPs_congr {W : zW} {x : Nat} {K K' : Nat → Nat → Nat} (h : ∀ w k, w < W.length → k ≤ zSize (zRowAt W w) → K w k = K' w k) : ∀ w k, w < W.length → k ≤ zSize (zRowAt W w) → mPs W x K w k = mPs W x K' w k := by
  intro w k hw hk
  unfold mPs
  by_cases e : k = 0
  · rw [if_pos e, if_pos e, h w 0 hw (Nat.zero_le _)]
  · rw [if_neg e, if_neg e, h w k hw hk, h w (k - 1) hw (by omega)]
theorem mMd_uq {W : zW} {C : List Int} {v : Nat} : ∀ i S S', mMd W C v i S → mMd W C v i S' → ∀ w k, w < W.length → k ≤ zSize (zRowAt W w) → S w k = S' w k := by
  intro i
  induction i with
  | zero => intro S S' h h'; exact mGs_uq (fun _ _ _ _ => rfl) h h'
  | succ i ih =>
    intro S S' ⟨T, h1, h2⟩ ⟨T', h1', h2'⟩
    exact mGs_uq (mPs_congr (ih T T' h1 h1')) h2 h2'
theorem mGs_init {W : zW} (hW : zWok W) {C : List Int} {S : Nat → Nat → Nat} (h : mGs W C (fun _ k => if k = 0 then 0 else 100000) S) : mGs W C (fun _ k => if k = 0 then 0 else 1000000) S := by
  refine ⟨h.1, fun w k hw hk => ?_, fun D hD hK => h.2.2 D hD fun w k hw hk => ?_⟩
  · have := h.2.1 w k hw hk
    simp only at this ⊢
    split at this <;> rename_i e
    · rw [if_pos e]; exact this
    · rw [if_neg e]; omega
  · have s6 := hW.s6 hw
    have : ∀ k, k ≤ zSize (zRowAt W w) → D w k ≤ k := by
      intro k
      induction k with
      | zero => intro _; exact hK w 0 hw (Nat.zero_le _)
      | succ k ih =>
        intro hk
        have h1 := ih (by omega)
        have h2 := hD.1 w k hw hk
        omega
    have := this k hk
    simp only
    split
    · rename_i e; omega
    · omega
/-- the least -/
def mMn (W : zW) (S : Nat → Nat → Nat) (F c : Nat) : Nat := zFold (fun w m => min m (S w (zSize (zRowAt W w)))) F c
theorem mMn_eq {W : zW} {S S' : Nat → Nat → Nat} {F F' : Nat} (hS : ∀ w k, w < W.length → k ≤ zSize (zRowAt W w) → S w k = S' w k) (hF : ∀ w, w < W.length → S w (zSize (zRowAt W w)) ≤ F ∧ S w (zSize (zRowAt W w)) ≤ F') : ∀ c, 0 < c → c ≤ W.length → mMn W S F c = mMn W S' F' c ∧ mMn W S F c ≤ F := by
  intro c
  induction c with
  | zero => intro h; omega
  | succ c ih =>
    intro _ hc
    have e1 : mMn W S F (c + 1) = min (mMn W S F c) (S c (zSize (zRowAt W c))) := rfl
    have e2 : mMn W S' F' (c + 1) = min (mMn W S' F' c) (S' c (zSize (zRowAt W c))) := rfl
    rw [e1, e2, ← hS c _ (by omega) (Nat.le_refl _)]
    have q := hF c (by omega)
    by_cases h0 : c = 0
    · subst h0
      show min F _ = min F' _ ∧ min F _ ≤ F
      omega
    · obtain ⟨k1, k2⟩ := ih (by omega) (by omega)
      rw [k1]
      exact ⟨rfl, by rw [← k1]; omega⟩
