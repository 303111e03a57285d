/-! CLASS AND MODEL HOLD ONE STATE -/
def zDs (A : zA) : List (Nat × Nat) := A.2.2.1
def zCd (A : zA) : List Int := A.2.2.2.1
def zWs (A : zA) : zW := A.1.1.1
def zWet (A : zA) : Nat := A.1.1.2
def rC (μ : kbM) (A : zA) : Prop := cSes μ 12 A.1 ∧ μ.1 0 10 = zB A.2.1.isSome ∧ (∀ e, A.2.1 = some e → cSes μ 22 e) ∧ cDoors μ A.2.2.1 ∧ cCode μ A.2.2.2.1 ∧ cKnown μ A.1.1.1 A.2.2.2.1 ∧ cTape μ A.2.2.2.2.1 ∧ μ.1 1 11 = A.2.2.2.2.2
def rM (μ : kbM) (A : zA) : Prop := mSes μ A.1 ∧ μ.1 57 52 = zB A.2.1.isSome ∧ (∀ e, A.2.1 = some e → mImg μ e) ∧ mDoors μ A.2.2.1 ∧ mCode μ A.2.2.2.1 ∧ mTape μ A.2.2.2.2.1 ∧ μ.1 57 22 = A.2.2.2.2.2
def zOk (A : zA) : Prop := zSesOk A.2.2.1.length A.1 ∧ (∀ e, A.2.1 = some e → zSesOk A.2.2.1.length e) ∧ zDok A.2.2.1 ∧ zCok A.2.2.2.1 ∧ A.2.2.2.2.1.1 ≤ 600 ∧ A.2.2.2.2.1.1 % 20 = 0
def kbInv (μ : kbM) : Prop := ∃ A : zA, zOk A ∧ rC μ A ∧ rM μ A
def zCc : List Nat := [0, 1, 2, 12, 13, 14, 15, 16, 17, 18, 19, 20, 21, 22, 23, 24, 25, 26, 27, 28, 29, 30, 31, 32, 33, 34, 35, 36]
def zMc : List Nat := [57, 61, 65, 66, 67, 68, 69, 70, 71, 72, 73, 89, 90, 92, 93, 94, 95, 96]
def zMs : List Nat := [13, 22, 27, 28, 29, 30, 52, 53, 54]
theorem cSes.congr {μ μ' : kbM} {o : Nat} {e : zSes} (h : ∀ a ∈ [o, o + 1, o + 2, o + 3, o + 4, o + 5, o + 6, o + 7, o + 8, o + 9], μ'.1 a = μ.1 a) (hs : cSes μ o e) : cSes μ' o e := by
  simp only [List.forall_mem_cons, List.not_mem_nil, false_implies, implies_true, and_true] at h
  obtain ⟨h0, h1, h2, h3, h4, h5, h6, h7, h8, h9⟩ := h
  unfold cSes cWords cLog cHeard at hs ⊢
  rw [h0, h1, h2, h3, h4, h5, h6, h7, h8, h9]
  exact hs
theorem rC.congr {μ μ' : kbM} {A : zA} (h : ∀ a ∈ zCc, μ'.1 a = μ.1 a) (hk : cKnown μ' A.1.1.1 A.2.2.2.1) (hr : rC μ A) : rC μ' A := by
  obtain ⟨h1, h2, h3, h4, h5, h6, h7, h8⟩ := hr
  have g : ∀ a ∈ zCc, μ'.1 a = μ.1 a := h
  refine ⟨cSes.congr (fun a ha => g a ?_) h1, by rw [g 0 (by decide)]; exact h2, fun e he => cSes.congr (fun a ha => g a ?_) (h3 e he), ?_, ?_, hk, ?_, by rw [g 1 (by decide)]; exact h8⟩
  · revert a; decide
  · revert a; decide
  · unfold cDoors; rw [g 32 (by decide), g 33 (by decide), g 34 (by decide)]; exact h4
  · unfold cCode; rw [g 35 (by decide), g 36 (by decide)]; exact h5
  · unfold cTape; rw [g 1 (by decide), g 2 (by decide)]; exact h7
theorem rC.fr {C S : List Nat} {μ μ' : kbM} {A : zA} (h : kbFr C S μ μ') (hc : ∀ a ∈ zCc, a ∉ C) (h38 : 38 ∉ C) (hr : rC μ A) : rC μ' A := by
  refine hr.congr (fun a ha => fr_at h (hc a ha) (by revert a; decide)) ?_
  unfold cKnown
  rw [fr_at h h38 (by decide)]
  exact hr.2.2.2.2.2.1
theorem rC.frk {C S : List Nat} {μ μ' : kbM} {A : zA} (h : kbFr C S μ μ') (hc : ∀ a ∈ zCc, a ∉ C) (hk : cKnown μ' A.1.1.1 A.2.2.2.1) (hr : rC μ A) : rC μ' A := hr.congr (fun a ha => fr_at h (hc a ha) (by revert a; decide)) hk
theorem rM.congr {μ μ' : kbM} {A : zA} (h : ∀ a ∈ [61, 65, 66, 67, 68, 69, 70, 71, 72, 73, 89, 90, 92, 93, 94, 95, 96], μ'.1 a = μ.1 a) (hs : ∀ k ∈ zMs, μ'.1 57 k = μ.1 57 k) (hr : rM μ A) : rM μ' A := by
  obtain ⟨h1, h2, h3, h4, h5, h6, h7⟩ := hr
  refine ⟨?_, by rw [hs 52 (by decide)]; exact h2, fun e he => ?_, ?_, ?_, ?_, by rw [hs 22 (by decide)]; exact h7⟩
  · unfold mSes mWords mPast mPack cHeard at h1 ⊢
    rw [hs 27 (by decide), hs 28 (by decide), hs 29 (by decide), hs 30 (by decide), h 70 (by decide), h 71 (by decide), h 72 (by decide), h 73 (by decide), h 89 (by decide), h 90 (by decide), h 68 (by decide)]
    exact h1
  · have := h3 e he
    unfold mImg mPast mPack cHeard at this ⊢
    rw [hs 53 (by decide), hs 54 (by decide), h 92 (by decide), h 93 (by decide), h 94 (by decide), h 95 (by decide), h 96 (by decide)]
    exact this
  · unfold mDoors; rw [h 61 (by decide), h 65 (by decide), h 66 (by decide)]; exact h4
  · unfold mCode; rw [h 61 (by decide), h 67 (by decide)]; exact h5
  · unfold mTape; rw [hs 13 (by decide), h 69 (by decide)]; exact h6
theorem rM.fr {C S : List Nat} {μ μ' : kbM} {A : zA} (h : kbFr C S μ μ') (hc : ∀ a ∈ zMc, a ∉ C) (hs : ∀ k ∈ zMs, k ∉ S) (hr : rM μ A) : rM μ' A :=
  hr.congr (fun a ha => fr_at h (hc a (by revert a; decide)) (by revert a; decide)) (fun k hk => fr_57 h (hc 57 (by decide)) (hs k hk))
/-! parts of the state -/
theorem rC.words {μ : kbM} {A : zA} (h : rC μ A) : cWords μ 13 14 15 16 17 A.1.1.1 := h.1.1
theorem rC.wet {μ : kbM} {A : zA} (h : rC μ A) : μ.1 12 7 = nI A.1.1.2 := h.1.2.1
theorem rC.doors {μ : kbM} {A : zA} (h : rC μ A) : cDoors μ A.2.2.1 := h.2.2.2.1
theorem rC.rule {μ : kbM} {A : zA} (h : rC μ A) : cRule μ A.1.1.1 A.2.2.2.1 := ⟨h.1.1, h.2.2.2.2.1, h.2.2.2.2.2.1⟩
theorem rM.words {μ : kbM} {A : zA} (h : rM μ A) : mWords μ A.1.1.1 := h.1.1
theorem rM.wet {μ : kbM} {A : zA} (h : rM μ A) : μ.1 57 28 = nI A.1.1.2 := h.1.2.1
theorem rM.doors {μ : kbM} {A : zA} (h : rM μ A) : mDoors μ A.2.2.1 := h.2.2.2.1
theorem rM.rule {μ : kbM} {A : zA} (h : rM μ A) : mRule μ A.1.1.1 A.2.2.2.1 := ⟨h.1.1, h.2.2.2.2.1⟩
theorem zOk.words {A : zA} (h : zOk A) : zWok A.1.1.1 := h.1.1.1
theorem zOk.wet {A : zA} (h : zOk A) : A.1.1.2 < 64 := h.1.1.2
theorem zOk.doors {A : zA} (h : zOk A) : zDok A.2.2.1 := h.2.2.1
theorem zOk.code {A : zA} (h : zOk A) : zCok A.2.2.2.1 := h.2.2.2.1
theorem zWok.row {W : zW} (h : zWok W) {i : Nat} (hi : i < W.length) : zRowAt W i ≤ 244140624 ∧ zNZ (zRowAt W i) = true ∧ zRowAt W i < 2 ^ 31 := by
  have := (h.at hi).1
  obtain ⟨h1, h2, h3⟩ := this
  exact ⟨by omega, h1, by omega⟩
/-! one of c -/
def zIn (x : Int32) (c : Nat) : Bool := decide (0 ≤ x.toInt ∧ x.toInt < (c : Int))
theorem zIn_n {w c : Nat} (hw : w < 2 ^ 31) : zIn (nI w) c = decide (w < c) := by
  unfold zIn
  rw [nI_toInt hw]
  congr 1
  apply propext
  omega
theorem zIn_cases (x : Int32) {c : Nat} (hc : c < 2 ^ 31) : (∃ w, w < c ∧ x = nI w) ∨ (zIn x c = false ∧ (x < 0 ∨ (¬ x < 0 ∧ nI c ≤ x ∧ ¬ x < nI c))) := by
  rcases pk_ix x hc with h | h | h
  · refine Or.inr ⟨?_, Or.inl h⟩
    have := Int32.lt_iff_toInt_lt.mp h
    unfold zIn
    simp at this
    simp; omega
  · have h1 := Int32.le_iff_toInt_le.mp h
    rw [nI_toInt hc] at h1
    refine Or.inr ⟨by unfold zIn; simp; omega, Or.inr ⟨fun q => ?_, h, fun q => ?_⟩⟩
    · have := Int32.lt_iff_toInt_lt.mp q
      simp at this; omega
    · have := Int32.lt_iff_toInt_lt.mp q
      rw [nI_toInt hc] at this; omega
  · exact Or.inl h
theorem md_isIn (x a b : Int64) : f_MD_isIn x a b = some (zB (decide (a ≤ x ∧ x ≤ b))) := by
  unfold f_MD_isIn jn_MD_isIn_17 jn_MD_isIn_18
  have e1 : (lg_cmp x a < 0) ↔ ¬ a ≤ x := by
    unfold lg_cmp
    simp only [gt_iff_lt, Int64.lt_iff_toInt_lt, Int64.le_iff_toInt_le, ← Int64.toInt_inj]
    repeat' split
    all_goals simp; try omega
  have e2 : (0 < lg_cmp x b) ↔ ¬ x ≤ b := by
    unfold lg_cmp
    simp only [gt_iff_lt, Int64.lt_iff_toInt_lt, Int64.le_iff_toInt_le, ← Int64.toInt_inj]
    repeat' split
    all_goals simp; try omega
  by_cases h1 : a ≤ x
  · rw [if_neg (by rw [e1]; simpa using h1)]
    by_cases h2 : x ≤ b
    · rw [if_neg (by rw [e2]; simpa using h2)]; simp [h1, h2, zB, kbIf]
    · rw [if_pos (e2.mpr h2)]; simp [h2, zB, kbIf]
  · rw [if_pos (e1.mpr h1)]; simp [h1, zB, kbIf]
theorem kn_long {x : Int32} {a b : Int} (ha : -2147483648 ≤ a) (ha2 : a < 2147483648) (hb : -2147483648 ≤ b) (hb2 : b < 2147483648) : ((kI a).toInt64 ≤ x.toInt64 ∧ x.toInt64 ≤ (kI b).toInt64) ↔ (a ≤ x.toInt ∧ x.toInt ≤ b) := by
  rw [Int64.le_iff_toInt_le, Int64.le_iff_toInt_le, Int32.toInt_toInt64, Int32.toInt_toInt64, Int32.toInt_toInt64, kI_toInt ha ha2, kI_toInt hb hb2]
theorem kn_isIn (x : Int32) {c : Nat} (hc : c ≤ 1000) : f_MD_isIn x.toInt64 0 ((nI c - 1).toInt64) = some (zB (zIn x c)) := by
  have e : nI c - 1 = kI ((c : Int) - 1) := by
    apply Int32.toInt_inj.mp
    rw [kI_toInt (by omega) (by omega)]
    exact pk_sub_toInt (a := c) (b := 1) (by omega) (by decide)
  rw [e, md_isIn, show (0 : Int64) = (kI 0).toInt64 from rfl]
  congr 2
  unfold zIn
  congr 1
  apply propext
  rw [kn_long (by omega) (by omega) (by omega) (by omega)]
  omega
theorem md_isWord {μ : kbM} {W : zW} (h : mWords μ W) (hl : W.length ≤ 10) (x : Int32) : f_MD_isWord x μ = some (zB (zIn x W.length)) := by
  unfold f_MD_isWord
  rw [h.1, kn_isIn x (by omega), kn_bs]
  cases zIn x W.length <;> rfl
theorem md_isDoor {μ : kbM} {D : List (Nat × Nat)} (h : mDoors μ D) (hl : D.length ≤ 6) (x : Int32) : f_MD_isDoor x μ = some (zB (zIn x D.length)) := by
  unfold f_MD_isDoor
  rw [h.1, kn_isIn x (by omega), kn_bs]
  cases zIn x D.length <;> rfl
theorem kb_needWord (n : Nat) {μ : kbM} {W : zW} (h : cWords μ 13 14 15 16 17 W) (hl : W.length ≤ 10) (x : Int32) : f_KB_needWord n x μ = some (if zIn x W.length = true then .inr μ else .inl (true, μ)) := by
  unfold f_KB_needWord jn_KB_needWord_18
  rw [h.1]
  rcases zIn_cases x (c := W.length) (by omega) with ⟨w, hw, rfl⟩ | ⟨h1, h2 | h2⟩
  · rw [if_neg (nI_pos (by omega)), if_pos (nI_lt hw (by omega)), zIn_n (by omega), if_pos (decide_eq_true hw)]
  · rw [if_pos h2, h1]; rfl
  · rw [if_neg h2.1, if_neg h2.2.2, h1]; rfl
theorem kb_needDoor (n : Nat) {μ : kbM} {D : List (Nat × Nat)} (h : cDoors μ D) (hl : D.length ≤ 6) (x : Int32) : f_KB_needDoor n x μ = some (if zIn x D.length = true then .inr μ else .inl (true, μ)) := by
  unfold f_KB_needDoor jn_KB_needDoor_15
  rw [h.1]
  rcases zIn_cases x (c := D.length) (by omega) with ⟨w, hw, rfl⟩ | ⟨h1, h2 | h2⟩
  · rw [if_neg (nI_pos (by omega)), if_pos (nI_lt hw (by omega)), zIn_n (by omega), if_pos (decide_eq_true hw)]
  · rw [if_pos h2, h1]; rfl
  · rw [if_neg h2.1, if_neg h2.2.2, h1]; rfl
theorem kb_needWhat (n : Nat) (μ : kbM) (x : Int32) {c : Nat} (hc : c < 2 ^ 31) : f_KB_needWhat n x (nI c) μ = some (if zIn x c = true then .inr μ else .inl (true, μ)) := by
  unfold f_KB_needWhat jn_KB_needWhat_9
  rcases zIn_cases x (c := c) hc with ⟨w, hw, rfl⟩ | ⟨h1, h2 | h2⟩
  · rw [if_neg (nI_pos (by omega)), if_pos (nI_lt hw hc), zIn_n (by omega), if_pos (decide_eq_true hw)]
  · rw [if_pos h2, h1]; rfl
  · rw [if_neg h2.1, if_neg h2.2.2, h1]; rfl
theorem kb_needRow {n : Nat} (hn : 20 ≤ n) (μ : kbM) (x : Int32) : f_KB_needRow n x μ = some (if zIsRow x = true then .inr μ else .inl (false, μ)) := by
  unfold f_KB_needRow
  rw [ro_isRow hn, kn_bs]
  cases zIsRow x <;> rfl
/-- 'what' is 0 or 1, as the model tests it -/
theorem zIn_2 (x : Int32) : (x < 0 ∧ zIn x 2 = false) ∨ (¬ x < 0 ∧ ¬ x ≤ 1 ∧ zIn x 2 = false) ∨ (¬ x < 0 ∧ x ≤ 1 ∧ zIn x 2 = true ∧ (x = 0 ∨ x = 1)) := by
  rcases zIn_cases x (c := 2) (by decide) with ⟨w, hw, rfl⟩ | ⟨h1, h2 | h2⟩
  · refine Or.inr (Or.inr ⟨nI_pos (by omega), by rw [kn_1, nI_leI (by omega) (by decide)]; omega, by rw [zIn_n (by omega)]; exact decide_eq_true hw, ?_⟩)
    rcases (show w = 0 ∨ w = 1 by omega) with rfl | rfl
    · exact Or.inl rfl
    · exact Or.inr rfl
  · exact Or.inl ⟨h2, h1⟩
  · refine Or.inr (Or.inl ⟨h2.1, fun q => ?_, h1⟩)
    have a1 := Int32.le_iff_toInt_le.mp q
    have a2 := Int32.le_iff_toInt_le.mp h2.2.1
    rw [nI_toInt (by decide)] at a2
    have a3 : (1 : Int32).toInt = 1 := by decide
    omega
theorem lg_cmp_self (x : Int64) : lg_cmp x x = 0 := by unfold lg_cmp; simp
/-! the law's comparison -/
theorem kX_at {μ : kbM} {c k : Nat} {v : Int64} : (kbX μ c k v).2 c k = v := by simp [kbX, kbB, vp_updL]
/-- a call whose class side ends in μ1 with code k, whose model side ends in μ2 -/
def kbRd (μ μ1 : kbM) (A : zA) : Prop := (rC μ A → rC μ1 A) ∧ (rM μ A → rM μ1 A)
