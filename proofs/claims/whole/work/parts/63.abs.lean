/-! LOOPS, by what they fold -/
def zFold {α : Type} (f : Nat → α → α) (a : α) : Nat → α
  | 0 => a
  | c + 1 => f c (zFold f a c)
theorem kn_loop {α β : Type} (lp : Nat → α → Nat → Option β) (f : Nat → α → α) (a : α) (c : Nat) (out : β) (hend : ∀ k, lp (k + 1) (zFold f a c) c = some out)
    (hstep : ∀ k i, i < c → lp (k + 1) (zFold f a i) i = lp k (f i (zFold f a i)) (i + 1)) : ∀ (j i k : Nat), i + j = c → j < k → lp k (zFold f a i) i = some out := by
  intro j
  induction j with
  | zero =>
    intro i k h hk
    obtain ⟨k, rfl⟩ : ∃ q, k = q + 1 := ⟨k - 1, by omega⟩
    rw [show i = c by omega]
    exact hend k
  | succ j ih =>
    intro i k h hk
    obtain ⟨k, rfl⟩ : ∃ q, k = q + 1 := ⟨k - 1, by omega⟩
    rw [hstep k i (by omega)]
    exact ih (i + 1) k (by omega) (by omega)
/-- the first i from a on, below c, that p takes -/
def zFind (p : Nat → Bool) (c : Nat) : Nat → Nat → Option Nat
  | 0, _ => none
  | j + 1, i => if i < c then (if p i = true then some i else zFind p c j (i + 1)) else none
theorem kn_search {β : Type} (lp : Nat → Nat → Option β) (p : Nat → Bool) (c : Nat) (hit : Nat → β) (out : β) (hend : ∀ k, lp (k + 1) c = some out)
    (hhit : ∀ k i, i < c → p i = true → lp (k + 1) i = some (hit i)) (hmiss : ∀ k i, i < c → p i = false → lp (k + 1) i = lp k (i + 1)) :
    ∀ (j i k : Nat), i + j = c → j < k → lp k i = some (match zFind p c j i with | some q => hit q | none => out) := by
  intro j
  induction j with
  | zero =>
    intro i k h hk
    obtain ⟨k, rfl⟩ : ∃ q, k = q + 1 := ⟨k - 1, by omega⟩
    rw [show i = c by omega]
    exact hend k
  | succ j ih =>
    intro i k h hk
    obtain ⟨k, rfl⟩ : ∃ q, k = q + 1 := ⟨k - 1, by omega⟩
    have hi : i < c := by omega
    simp only [zFind, if_pos hi]
    by_cases hp : p i = true
    · rw [hhit k i hi hp, if_pos hp]
    · rw [hmiss k i hi (by simpa using hp), if_neg hp]
      exact ih (i + 1) k (by omega) (by omega)
theorem zFind_spec (p : Nat → Bool) (c : Nat) : ∀ (j i : Nat), i + j = c → (zFind p c j i = none ↔ ∀ q, i ≤ q → q < c → p q = false) := by
  intro j
  induction j with
  | zero => intro i h; simp only [zFind, true_iff]; intro q h1 h2; omega
  | succ j ih =>
    intro i h
    have hi : i < c := by omega
    simp only [zFind, if_pos hi]
    by_cases hp : p i = true
    · rw [if_pos hp]
      constructor
      · intro q; cases q
      · intro q; rw [q i (Nat.le_refl _) hi] at hp; cases hp
    · rw [if_neg hp, ih (i + 1) (by omega)]
      constructor
      · intro q z h1 h2
        by_cases hz : z = i
        · subst hz; simpa using hp
        · exact q z (by omega) h2
      · intro q z h1 h2; exact q z (by omega) h2
theorem zFind_congr {p p' : Nat → Bool} {c : Nat} (h : ∀ i, i < c → p i = p' i) : ∀ (j i : Nat), zFind p c j i = zFind p' c j i := by
  intro j
  induction j with
  | zero => intro i; rfl
  | succ j ih =>
    intro i
    simp only [zFind]
    by_cases hi : i < c
    · rw [if_pos hi, if_pos hi, h i hi, ih (i + 1)]
    · rw [if_neg hi, if_neg hi]
theorem zFold_congr {α : Type} {f g : Nat → α → α} {a : α} {c : Nat} (h : ∀ i x, i < c → f i x = g i x) : zFold f a c = zFold g a c := by
  induction c with
  | zero => rfl
  | succ c ih => simp only [zFold]; rw [ih fun i x hi => h i x (by omega), h c _ (by omega)]
/-- bits of those that p takes -/
def zOr (p : Nat → Bool) (c : Nat) : Nat := zFold (fun i a => a ||| (if p i = true then 2 ^ i else 0)) 0 c
theorem zOr_congr {p q : Nat → Bool} {c : Nat} (h : ∀ i, i < c → p i = q i) : zOr p c = zOr q c := zFold_congr fun i x hi => by rw [h i hi]
theorem zOr_lt (p : Nat → Bool) (c : Nat) : zOr p c < 2 ^ c := by
  induction c with
  | zero => exact Nat.one_pos
  | succ c ih =>
    show zOr p c ||| (if p c = true then 2 ^ c else 0) < 2 ^ (c + 1)
    have h1 : (2 : Nat) ^ c < 2 ^ (c + 1) := Nat.pow_lt_pow_right (by decide) (by omega)
    refine Nat.or_lt_two_pow (Nat.lt_trans ih h1) ?_
    by_cases hp : p c = true
    · rw [if_pos hp]; exact h1
    · rw [if_neg hp]; exact Nat.pow_pos (by decide)
/-- how many p takes -/
def zCnt (p : Nat → Bool) (c : Nat) : Nat := zFold (fun i a => a + (if p i = true then 1 else 0)) 0 c
theorem zCnt_congr {p q : Nat → Bool} {c : Nat} (h : ∀ i, i < c → p i = q i) : zCnt p c = zCnt q c := zFold_congr fun i x hi => by rw [h i hi]
theorem zCnt_le (p : Nat → Bool) (c : Nat) : zCnt p c ≤ c := by
  induction c with
  | zero => exact Nat.le_refl _
  | succ c ih =>
    show zCnt p c + (if p c = true then 1 else 0) ≤ c + 1
    split <;> omega
def zSum (f : Nat → Nat) (c : Nat) : Nat := zFold (fun i a => a + f i) 0 c
theorem zSum_le {f : Nat → Nat} {b : Nat} (c : Nat) (h : ∀ i, i < c → f i ≤ b) : zSum f c ≤ b * c := by
  induction c with
  | zero => exact Nat.zero_le _
  | succ c ih =>
    show zSum f c + f c ≤ b * (c + 1)
    have h1 := ih fun i hi => h i (by omega)
    have h2 := h c (by omega)
    rw [Nat.mul_succ]; omega
/-! THE STATE, without the machine: words (row, part, worth), wet doors; the log: each act with the state ahead of it; what was heard; refusals -/
abbrev zW : Type := List (Nat × Nat × Nat)
abbrev zSt : Type := zW × Nat
abbrev zAct : Type := Nat × Nat × Nat × Nat × Nat
abbrev zSes : Type := zSt × List (zAct × zSt) × List (Nat × Nat) × (Nat → Int32)
/-- this session, the image; doors (kind, hand); the rule's code; the tape: bytes, fault's place -/
abbrev zA : Type := zSes × Option zSes × List (Nat × Nat) × List Int × (Nat × (Nat → Int32)) × Int32
def zRowAt (W : zW) (i : Nat) : Nat := (W.getD i (0, 0, 0)).1
def zPartAt (W : zW) (i : Nat) : Nat := (W.getD i (0, 0, 0)).2.1
def zWorthAt (W : zW) (i : Nat) : Nat := (W.getD i (0, 0, 0)).2.2
/-- a word's row: one to six sounds -/
def zWord (r : Nat) : Prop := zNZ r = true ∧ 0 < r ∧ r < 15625
def zWok (W : zW) : Prop := W.length ≤ 10 ∧ (∀ q ∈ W, zWord q.1 ∧ q.2.1 ≤ 2 ∧ q.2.2 ≤ 99) ∧ (W.map fun q => q.1).Nodup
theorem zWok.at {W : zW} (h : zWok W) {i : Nat} (hi : i < W.length) : zWord (zRowAt W i) ∧ zPartAt W i ≤ 2 ∧ zWorthAt W i ≤ 99 := by
  have := h.2.1 (W.getD i (0, 0, 0)) (by rw [List.getD_eq_getElem?_getD, List.getElem?_eq_getElem hi]; exact List.getElem_mem hi)
  exact this
theorem zWord.size {r : Nat} (h : zWord r) : zSize r ≤ 6 ∧ 0 < zSize r ∧ zRow r = true ∧ r < 2 ^ 31 := by
  obtain ⟨h1, h2, h3⟩ := h
  refine ⟨(zSize_le 6 r).mpr (by omega), ?_, ?_, by omega⟩
  · rcases Nat.eq_zero_or_pos (zSize r) with q | q
    · have := zSize_pos.mp q; omega
    · exact q
  · simp [zRow, h1]; omega
/-- how an act is undone -/
def zUndo (a : zAct) (s : zSt) : zSt := match a with
  | (0, p, _) => (s.1.eraseIdx p, s.2)
  | (1, p, r, pt, w) => (s.1.insertIdx p (r, pt, w), s.2)
  | (2, p, _, pt, w) => (s.1.set p (zRowAt s.1 p, pt, w), s.2)
  | (_, p, _) => (s.1, s.2 ^^^ 2 ^ p)
/-- an act may stand in the log: it leads from s to t -/
def zActOk (d : Nat) (a : zAct) (s t : zSt) : Prop := zUndo a t = s ∧ a.1 ≤ 3 ∧ a.2.1 < 2 ^ 31 ∧ a.2.2.1 < 2 ^ 31 ∧ a.2.2.2.1 ≤ 2 ∧ a.2.2.2.2 ≤ 99 ∧ (a.1 = 0 → a.2.1 < t.1.length) ∧ (a.1 = 1 → a.2.1 ≤ t.1.length ∧ t.1.length < 10 ∧ zWord a.2.2.1) ∧ (a.1 = 2 → a.2.1 < t.1.length) ∧ (a.1 = 3 → a.2.1 < d)
/-- the log's acts lead from each state to the next, the last to s -/
def zChain (d : Nat) : List (zAct × zSt) → zSt → Prop
  | [], _ => True
  | [q], s => zActOk d q.1 q.2 s
  | q :: q' :: L, s => zActOk d q.1 q.2 q'.2 ∧ zChain d (q' :: L) s
def zStok (s : zSt) : Prop := zWok s.1 ∧ s.2 < 64
def zSesOk (d : Nat) (e : zSes) : Prop := zStok e.1 ∧ e.2.1.length ≤ 40 ∧ (∀ q ∈ e.2.1, zStok q.2) ∧ zChain d e.2.1 e.1 ∧ e.2.2.1.length ≤ 8 ∧ ∀ q ∈ e.2.2.1, q.1 < d ∧ q.2 ≤ 244140624
def zDok (D : List (Nat × Nat)) : Prop := D.length ≤ 6 ∧ ∀ q ∈ D, q.1 ≤ 3 ∧ q.2 < 16
def zKind (D : List (Nat × Nat)) (d : Nat) : Nat := (D.getD d (0, 0)).1
def zHand (D : List (Nat × Nat)) (d : Nat) : Nat := (D.getD d (0, 0)).2
theorem zDok.at {D : List (Nat × Nat)} (h : zDok D) {i : Nat} (hi : i < D.length) : zKind D i ≤ 3 ∧ zHand D i < 16 := by
  have := h.2 (D.getD i (0, 0)) (by rw [List.getD_eq_getElem?_getD, List.getElem?_eq_getElem hi]; exact List.getElem_mem hi)
  exact this
/-! the class's cells hold it -/
def cWords (μ : kbM) (o r z p w : Nat) (W : zW) : Prop := μ.1 o 4 = nI W.length ∧ ∀ i, i < W.length → μ.1 r i = nI (zRowAt W i) ∧ μ.1 z i = nI (zSize (zRowAt W i)) ∧ μ.1 p i = nI (zPartAt W i) ∧ μ.1 w i = nI (zWorthAt W i)
def cLog (μ : kbM) (c : Nat) (G : List (zAct × zSt)) : Prop := ∀ i, i < G.length → ∀ q : zAct × zSt, G[i]? = some q → μ.1 c (5 * i) = nI q.1.1 ∧ μ.1 c (5 * i + 1) = nI q.1.2.1 ∧ μ.1 c (5 * i + 2) = nI q.1.2.2.1 ∧ μ.1 c (5 * i + 3) = nI q.1.2.2.2.1 ∧ μ.1 c (5 * i + 4) = nI q.1.2.2.2.2
def cHeard (μ : kbM) (a b : Nat) (T : List (Nat × Nat)) : Prop := ∀ i, i < T.length → μ.1 a i = nI (T.getD i (0, 0)).1 ∧ μ.1 b i = nI (T.getD i (0, 0)).2
/-- a State object at cell o (its words' at o + 1 .., its log at o + 6) -/
def cSes (μ : kbM) (o : Nat) (e : zSes) : Prop := cWords μ (o + 1) (o + 2) (o + 3) (o + 4) (o + 5) e.1.1 ∧ μ.1 o 7 = nI e.1.2 ∧ μ.1 o 5 = nI e.2.1.length ∧ μ.1 o 6 = nI e.2.2.1.length ∧ cLog μ (o + 6) e.2.1 ∧ cHeard μ (o + 7) (o + 8) e.2.2.1 ∧ ∀ i, i < 3 → μ.1 (o + 9) i = e.2.2.2 i
def cDoors (μ : kbM) (D : List (Nat × Nat)) : Prop := μ.1 32 2 = nI D.length ∧ ∀ i, i < D.length → μ.1 33 i = nI (zKind D i) ∧ μ.1 34 i = nI (zHand D i)
/-- a byte of the tape, four in an int -/
def zByte (f : Nat → Int32) (i : Nat) : Int32 := kbUsh (f (i / 4)) (24 - nI (i % 4) * 8) &&& 255
def cTape (μ : kbM) (t : Nat × (Nat → Int32)) : Prop := μ.1 1 4 = nI t.1 ∧ ∀ i, i < 4 * ((t.1 + 3) / 4) → zByte (μ.1 2) i = t.2 i
/-! the model's cells hold it -/
def mPack (μ : kbM) (c o : Nat) (s : zSt) : Prop := μ.1 c o = nI s.1.length ∧ μ.1 c (o + 1) = nI s.2 ∧ ∀ i, i < s.1.length → μ.1 c (o + 2 + i) = nI (zRowAt s.1 i) ∧ μ.1 c (o + 12 + i) = nI (zPartAt s.1 i) ∧ μ.1 c (o + 22 + i) = nI (zWorthAt s.1 i)
def mWords (μ : kbM) (W : zW) : Prop := μ.1 57 27 = nI W.length ∧ ∀ i, i < W.length → μ.1 70 i = nI (zRowAt W i) ∧ μ.1 71 i = nI (zPartAt W i) ∧ μ.1 72 i = nI (zWorthAt W i)
def mPast (μ : kbM) (c : Nat) (G : List (zAct × zSt)) : Prop := ∀ i, i < G.length → ∀ q : zAct × zSt, G[i]? = some q → mPack μ c (32 * i) q.2
def mSes (μ : kbM) (e : zSes) : Prop := mWords μ e.1.1 ∧ μ.1 57 28 = nI e.1.2 ∧ μ.1 57 29 = nI e.2.1.length ∧ μ.1 57 30 = nI e.2.2.1.length ∧ mPast μ 73 e.2.1 ∧ cHeard μ 89 90 e.2.2.1 ∧ ∀ i, i < 3 → μ.1 68 i = e.2.2.2 i
def mImg (μ : kbM) (e : zSes) : Prop := mPack μ 92 0 e.1 ∧ μ.1 57 53 = nI e.2.1.length ∧ μ.1 57 54 = nI e.2.2.1.length ∧ mPast μ 93 e.2.1 ∧ cHeard μ 94 95 e.2.2.1 ∧ ∀ i, i < 3 → μ.1 96 i = e.2.2.2 i
def mDoors (μ : kbM) (D : List (Nat × Nat)) : Prop := μ.1 61 1 = nI D.length ∧ ∀ i, i < D.length → μ.1 65 i = nI (zKind D i) ∧ μ.1 66 i = nI (zHand D i)
def mTape (μ : kbM) (t : Nat × (Nat → Int32)) : Prop := μ.1 57 13 = nI t.1 ∧ ∀ i, i < t.1 → μ.1 69 i = t.2 i
