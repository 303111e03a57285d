/-! TOOLS: rows for simp, loops with a memory -/
theorem kn_inT {a N : Nat} (h : a < N) (h2 : a < 2 ^ 31) : kbIn (nI a) N = true := by rw [kn_in h2]; exact decide_eq_true h
theorem kn_eq0 {a : Nat} (h : a < 2 ^ 31) : nI a = 0 ↔ a = 0 := by rw [kn_0, nI_eq h (by decide)]
theorem kn_eq1 {a : Nat} (h : a < 2 ^ 31) : nI a = 1 ↔ a = 1 := by rw [kn_1, nI_eq h (by decide)]
theorem kn_or0 (x : Int32) : x ||| 0 = x := by simp
theorem kn_ad0 (x : Int32) : x + 0 = x := by simp
theorem kn_shl1 {k : Nat} (hk : k < 31) : kbShl 1 (nI k) = nI (2 ^ k) := kn_shl hk
theorem kn_nm1 {a : Nat} (h : a < 2 ^ 31) : nI a = -1 ↔ False := by
  constructor
  · intro e
    have e2 := congrArg Int32.toInt e
    rw [nI_toInt h] at e2
    have h1 : (-1 : Int32).toInt = -1 := by decide
    omega
  · exact False.elim
theorem zBt : (zB true = 0) = False := by simp [zB]
theorem zBf : (zB false = 0) = True := by simp [zB]
theorem zB1t : zB true = 1 := rfl
theorem zB1f : zB false = 0 := rfl
theorem zB_01 (b : Bool) : decide (zB b = 0 ∨ zB b = 1) = true := by cases b <;> rfl
theorem zB_10 : ((1 : Int32) = 0) = False := by decide
theorem zB_1c : (1 : Int32) = zB true := rfl
theorem zB_0c : (0 : Int32) = zB false := rfl
theorem kl_2 : (2 : Int32) = nI 2 := rfl
theorem kl_3 : (3 : Int32) = nI 3 := rfl
theorem kl_4 : (4 : Int32) = nI 4 := rfl
theorem kl_5 : (5 : Int32) = nI 5 := rfl
theorem kl_6 : (6 : Int32) = nI 6 := rfl
theorem kl_7 : (7 : Int32) = nI 7 := rfl
theorem kl_8 : (8 : Int32) = nI 8 := rfl
theorem kl_10 : (10 : Int32) = nI 10 := rfl
theorem kl_12 : (12 : Int32) = nI 12 := rfl
theorem kl_13 : (13 : Int32) = nI 13 := rfl
theorem zBit_n (a k : Nat) : nI (a / 2 ^ k % 2) = zB (zBit a k) := by
  unfold zBit
  rcases (show a / 2 ^ k % 2 = 0 ∨ a / 2 ^ k % 2 = 1 by omega) with h | h
  · rw [h]; rfl
  · rw [h]; rfl
theorem kn_bitB {a k : Nat} (ha : a < 2 ^ 31) (hk : k < 31) : kbShr (nI a) (nI k) &&& 1 = zB (zBit a k) := by rw [kn_bit ha hk, zBit_n]
theorem zOr_s (p : Nat → Bool) (c : Nat) : zOr p (c + 1) = zOr p c ||| (if p c = true then 2 ^ c else 0) := rfl
theorem zCnt_s (p : Nat → Bool) (c : Nat) : zCnt p (c + 1) = zCnt p c + (if p c = true then 1 else 0) := rfl
theorem kn_0lt {a : Nat} (ha : a < 2 ^ 31) : 0 < nI a ↔ 0 < a := by rw [kn_0, nI_ltI (by decide) ha]
theorem kn_sub1 {a : Nat} (h : 1 ≤ a) : nI a - 1 = nI (a - 1) := pk_sub h
theorem kn_for {σ β : Type} (lp : Nat → σ → Option β) (I : Nat → σ → Prop) (c : Nat) (Q : β → Prop)
    (hend : ∀ k s, I c s → ∃ r, lp (k + 1) s = some r ∧ Q r)
    (hstep : ∀ k i s, i < c → I i s → (∃ r, lp (k + 1) s = some r ∧ Q r) ∨ ∃ s', lp (k + 1) s = lp k s' ∧ I (i + 1) s') :
    ∀ (j i k : Nat) (s : σ), i + j = c → j < k → I i s → ∃ r, lp k s = some r ∧ Q r := by
  intro j
  induction j with
  | zero =>
    intro i k s h hk hI
    obtain ⟨k, rfl⟩ : ∃ q, k = q + 1 := ⟨k - 1, by omega⟩
    rw [show i = c by omega] at hI
    exact hend k s hI
  | succ j ih =>
    intro i k s h hk hI
    obtain ⟨k, rfl⟩ : ∃ q, k = q + 1 := ⟨k - 1, by omega⟩
    rcases hstep k i s (by omega) hI with q | ⟨s', e, hs⟩
    · exact q
    · rw [e]; exact ih (i + 1) k s' (by omega) (by omega) hs
def zAll (p : Nat → Bool) : Nat → Bool
  | 0 => true
  | c + 1 => zAll p c && p c
theorem zAll_iff (p : Nat → Bool) : ∀ c, zAll p c = true ↔ ∀ i, i < c → p i = true := by
  intro c
  induction c with
  | zero => simp [zAll]
  | succ c ih =>
    simp only [zAll, Bool.and_eq_true, ih]
    constructor
    · intro h i hi
      by_cases e : i = c
      · rw [e]; exact h.2
      · exact h.1 i (by omega)
    · intro h; exact ⟨fun i hi => h i (by omega), h c (by omega)⟩
theorem zAll_congr {p q : Nat → Bool} {c : Nat} (h : ∀ i, i < c → p i = q i) : zAll p c = zAll q c := by
  induction c with
  | zero => rfl
  | succ c ih => simp only [zAll]; rw [ih fun i hi => h i (by omega), h c (by omega)]
theorem zAll_f {p : Nat → Bool} {c i : Nat} (hi : i < c) (h : p i = false) : zAll p c = false := by
  cases hz : zAll p c with
  | false => rfl
  | true => rw [(zAll_iff p c).mp hz i hi] at h; cases h
theorem kn_all {β : Type} {lp : Nat → Nat → Option β} (p : Nat → Bool) (c : Nat) (t f : β) (hend : ∀ k, lp (k + 1) c = some t)
    (hhit : ∀ k i, i < c → p i = false → lp (k + 1) i = some f) (hmiss : ∀ k i, i < c → p i = true → lp (k + 1) i = lp k (i + 1)) :
    ∀ (j i k : Nat), i + j = c → j < k → zAll p i = true → lp k i = some (if zAll p c = true then t else f) := by
  intro j
  induction j with
  | zero =>
    intro i k h hk hz
    obtain ⟨k, rfl⟩ : ∃ q, k = q + 1 := ⟨k - 1, by omega⟩
    rw [show i = c by omega] at hz ⊢
    rw [hend, if_pos hz]
  | succ j ih =>
    intro i k h hk hz
    obtain ⟨k, rfl⟩ : ∃ q, k = q + 1 := ⟨k - 1, by omega⟩
    cases hp : p i with
    | false => rw [hhit k i (by omega) hp, zAll_f (i := i) (by omega) hp]; rfl
    | true => rw [hmiss k i (by omega) hp]; exact ih (i + 1) k (by omega) (by omega) (by simp [zAll, hz, hp])
/-! words, doors and weather of both sides -/
def cH (μ : kbM) (W : zW) (D : List (Nat × Nat)) (w : Nat) : Prop := cWords μ 13 14 15 16 17 W ∧ cDoors μ D ∧ μ.1 12 7 = nI w
def mH (μ : kbM) (W : zW) (D : List (Nat × Nat)) (w : Nat) : Prop := mWords μ W ∧ mDoors μ D ∧ μ.1 57 28 = nI w
def hOk (W : zW) (D : List (Nat × Nat)) (w : Nat) : Prop := zWok W ∧ zDok D ∧ w < 64
theorem rC.H {μ : kbM} {A : zA} (h : rC μ A) : cH μ A.1.1.1 A.2.2.1 A.1.1.2 := ⟨h.words, h.doors, h.wet⟩
theorem rM.H {μ : kbM} {A : zA} (h : rM μ A) : mH μ A.1.1.1 A.2.2.1 A.1.1.2 := ⟨h.words, h.doors, h.wet⟩
theorem zOk.H {A : zA} (h : zOk A) : hOk A.1.1.1 A.2.2.1 A.1.1.2 := ⟨h.words, h.doors, h.wet⟩
theorem cH.congr {μ μ' : kbM} {W : zW} {D : List (Nat × Nat)} {w : Nat} (h : ∀ a ∈ [12, 13, 14, 15, 16, 17, 32, 33, 34], μ'.1 a = μ.1 a) (q : cH μ W D w) : cH μ' W D w := by
  simp only [List.forall_mem_cons, List.not_mem_nil, false_implies, implies_true, and_true] at h
  obtain ⟨h1, h2, h3, h4, h5, h6, h7, h8, h9⟩ := h
  unfold cH cWords cDoors at q ⊢
  rw [h1, h2, h3, h4, h5, h6, h7, h8, h9]
  exact q
theorem cH.fr {C S : List Nat} {μ μ' : kbM} {W : zW} {D : List (Nat × Nat)} {w : Nat} (h : kbFr C S μ μ') (hc : ∀ a ∈ [12, 13, 14, 15, 16, 17, 32, 33, 34], a ∉ C) (q : cH μ W D w) : cH μ' W D w :=
  q.congr fun a ha => fr_at h (hc a ha) (by revert a; decide)
theorem mH.congr {μ μ' : kbM} {W : zW} {D : List (Nat × Nat)} {w : Nat} (h : ∀ a ∈ [70, 71, 72, 61, 65, 66], μ'.1 a = μ.1 a) (h2 : ∀ k ∈ [27, 28], μ'.1 57 k = μ.1 57 k) (q : mH μ W D w) : mH μ' W D w := by
  simp only [List.forall_mem_cons, List.not_mem_nil, false_implies, implies_true, and_true] at h h2
  obtain ⟨h1, h3, h4, h5, h6, h7⟩ := h
  unfold mH mWords mDoors at q ⊢
  rw [h1, h3, h4, h5, h6, h7, h2.1, h2.2]
  exact q
theorem mH.fr {C S : List Nat} {μ μ' : kbM} {W : zW} {D : List (Nat × Nat)} {w : Nat} (h : kbFr C S μ μ') (hc : ∀ a ∈ [57, 70, 71, 72, 61, 65, 66], a ∉ C) (hs : ∀ k ∈ [27, 28], k ∉ S) (q : mH μ W D w) : mH μ' W D w :=
  q.congr (fun a ha => fr_at h (hc a (by revert a; decide)) (by revert a; decide)) (fun k hk => fr_57 h (hc 57 (by decide)) (hs k hk))
theorem mH.c0 {μ : kbM} {W : zW} {D : List (Nat × Nat)} {w : Nat} (q : mH μ W D w) (v : Int32) : mH (kbW μ 57 3 v) W D w := q.fr (C := []) (S := [3]) (kbFr.w57 kbFr.rf (by decide)) (by decide) (by decide)
theorem rM.c0 {μ : kbM} {A : zA} (h : rM μ A) (v : Int32) : rM (kbW μ 57 3 v) A := h.fr (C := []) (S := [3]) (kbFr.w57 kbFr.rf (by decide)) (by decide) (by decide)
theorem rC.c0 {μ : kbM} {A : zA} (h : rC μ A) (v : Int32) : rC (kbW μ 57 3 v) A := h.fr (C := []) (S := [3]) (kbFr.w57 kbFr.rf (by decide)) (by decide) (by decide)
/-- what a door hears of a row -/
def zHr (D : List (Nat × Nat)) (w d v : Nat) : Nat := zHear (zKind D d) (zBit w d) v
theorem zHr_le {D : List (Nat × Nat)} {w d v : Nat} (h : v ≤ 244140624) : zHr D w d v ≤ 244140624 := zHear_le h
theorem hOk.row {W : zW} {D : List (Nat × Nat)} {w i : Nat} (h : hOk W D w) (hi : i < W.length) : zRowAt W i ≤ 244140624 := (h.1.row hi).1
theorem hOk.l10 {W : zW} {D : List (Nat × Nat)} {w : Nat} (h : hOk W D w) : W.length ≤ 10 := h.1.1
theorem hOk.l6 {W : zW} {D : List (Nat × Nat)} {w : Nat} (h : hOk W D w) : D.length ≤ 6 := h.2.1.1
theorem hOk.hr {W : zW} {D : List (Nat × Nat)} {w : Nat} (h : hOk W D w) {i : Nat} (d : Nat) (hi : i < W.length) : zHr D w d (zRowAt W i) < 2 ^ 31 := by
  have := zHr_le (D := D) (w := w) (d := d) (h.row hi)
  omega
theorem c_hr {n : Nat} (hn : 20 ≤ n) {μ : kbM} {W : zW} {D : List (Nat × Nat)} {w : Nat} (h : hOk W D w) (hc : cH μ W D w) {d v : Nat} (hd : d < D.length) (hv : v ≤ 244140624) : f_HO_hearing n (nI d) (nI v) μ = some (nI (zHr D w d v)) := by
  have hl := h.l6
  exact ho_hearing hn (by omega) (hc.2.1.2 d hd).1 (h.2.1.at hd).1 hc.2.2 h.2.2 hv
theorem m_hr {n : Nat} (hn : 20 ≤ n) {μ : kbM} {W : zW} {D : List (Nat × Nat)} {w : Nat} (h : hOk W D w) (hc : mH μ W D w) {d v : Nat} (hd : d < D.length) (hv : v ≤ 244140624) : f_MD_heardAt n (nI d) (nI v) μ = some (nI (zHr D w d v)) := by
  have hl := h.l6
  exact md_heardAt hn (by omega) (hc.2.1.2 d hd).1 (h.2.1.at hd).1 hc.2.2 h.2.2 hv
theorem c_can {n : Nat} (hn : 20 ≤ n) {μ : kbM} {W : zW} {D : List (Nat × Nat)} {w : Nat} (h : hOk W D w) (hc : cH μ W D w) {d i : Nat} (hd : d < D.length) (hi : i < W.length) : f_HO_can n (nI d) (nI i) μ = some (zB (zCan (zHand D d) (zRowAt W i))) := by
  have h6 := h.l6
  have h10 := h.l10
  have hr := h.1.row hi
  unfold f_HO_can
  simp (disch := omega) only [kn_if_t, kn_bs, kn_or_l, kn_or_r, kn_inT, nI_clamp, nI_leI, nI_ltI, nI_eq, nI_add, pk_mul, nI_1, kn_eq0, kn_lt0, kn_le0, kn_0le, kn_div, kn_rem, kn_or, kn_and, kn_or0, kn_ad0, kn_shl1, kn_bitB, zBt, zBf, zB1t, zB1f, zB_01, zB_10, kl_2, kl_3, kl_4, kl_5, kl_6, kl_7, kl_8, kl_10, kl_12, kl_13, if_pos, if_neg, ↓reduceIte, eq_self, not_true_eq_false, not_false_eq_true, Nat.add_zero, Nat.or_zero, reduceCtorEq, or_true, true_or, or_false, false_or, decide_true, decide_false, kn_sub1, sb_m1, pk_sub, kW_ne, kW_at, kW_no, kA_ne, kA_eq, ite_self, and_self, true_and, and_true, (hc.1.2 i hi).1, do_can hn (show d < 6 by omega) (hc.2.1.2 d hd).2 (h.2.1.at hd).2 hr.1 hr.2.1]
theorem m_can {n : Nat} (hn : 20 ≤ n) {W : zW} {D : List (Nat × Nat)} {w : Nat} (h : hOk W D w) {d i : Nat} (hd : d < D.length) (hi : i < W.length) : f_MD_can n (nI (zHand D d)) (nI (zRowAt W i)) = some (zB (zCan (zHand D d) (zRowAt W i))) := by
  have hr := h.1.row hi
  exact md_can hn (h.2.1.at hd).2 hr.2.2 hr.2.1
