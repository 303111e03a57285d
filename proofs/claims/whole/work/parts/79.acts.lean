/-! ACTS: take, die, worth, part, rain, undo -/
def zDo (e : zSes) (a : zAct) (t : zSt) : zSes := (t, zKeep e.2.1 a e.1, e.2.2)
def zRf (e : zSes) (k : Nat) : zSes := (e.1, e.2.1, e.2.2.1, upd e.2.2.2 k (e.2.2.2 k + 1))
theorem zDo_ok {d : Nat} {e : zSes} {a : zAct} {t : zSt} (h : zSesOk d e) (ht : zStok t) (ha : zActOk d a e.1 t) : zSesOk d (zDo e a t) := by
  obtain ⟨h1, h2, h3, h4, h5⟩ := h
  exact ⟨ht, zKeep_len h2 _ _, zKeep_mem h3 h1, zKeep_chain h4 ha, h5⟩
theorem zRf_ok {d : Nat} {e : zSes} (h : zSesOk d e) (k : Nat) : zSesOk d (zRf e k) := h
theorem cSes.do {μ μ' : kbM} {e : zSes} {a : zAct} {t : zSt} (h : cSes μ 12 e) (hW : cWords μ' 13 14 15 16 17 t.1) (h7 : μ'.1 12 7 = nI t.2) (h5 : μ'.1 12 5 = nI (zKeep e.2.1 a e.1).length) (hL : cLog μ' 18 (zKeep e.2.1 a e.1)) (h6 : μ'.1 12 6 = μ.1 12 6) (h19 : μ'.1 19 = μ.1 19) (h20 : μ'.1 20 = μ.1 20) (h21 : μ'.1 21 = μ.1 21) : cSes μ' 12 (zDo e a t) := by
  obtain ⟨g1, g2, g3, g4, g5, g6, g7⟩ := h
  refine ⟨hW, h7, h5, by rw [h6]; exact g4, hL, ?_, ?_⟩
  · unfold cHeard at g6 ⊢
    rw [h19, h20]; exact g6
  · rw [h21]; exact g7
theorem mSes.do {μ μ' : kbM} {e : zSes} {a : zAct} {t : zSt} (h : mSes μ e) (hW : mWords μ' t.1) (h7 : μ'.1 57 28 = nI t.2) (h5 : μ'.1 57 29 = nI (zKeep e.2.1 a e.1).length) (hL : mPast μ' 73 (zKeep e.2.1 a e.1)) (h6 : μ'.1 57 30 = μ.1 57 30) (h19 : μ'.1 89 = μ.1 89) (h20 : μ'.1 90 = μ.1 90) (h21 : μ'.1 68 = μ.1 68) : mSes μ' (zDo e a t) := by
  obtain ⟨g1, g2, g3, g4, g5, g6, g7⟩ := h
  refine ⟨hW, h7, h5, by rw [h6]; exact g4, hL, ?_, ?_⟩
  · unfold cHeard at g6 ⊢
    rw [h19, h20]; exact g6
  · rw [h21]; exact g7
theorem rC.ses {μ μ' : kbM} {A : zA} {e : zSes} (h : ∀ a ∈ [0, 1, 2, 22, 23, 24, 25, 26, 27, 28, 29, 30, 31, 32, 33, 34, 35, 36], μ'.1 a = μ.1 a) (hr : rC μ A) (h1 : cSes μ' 12 e) (hk : cKnown μ' e.1.1 A.2.2.2.1) : rC μ' (e, A.2) := by
  obtain ⟨-, h2, h3, h4, h5, h6, h7, h8⟩ := hr
  refine ⟨h1, by rw [h 0 (by decide)]; exact h2, fun e he => cSes.congr (fun a ha => h a ?_) (h3 e he), ?_, ?_, hk, ?_, by rw [h 1 (by decide)]; exact h8⟩
  · revert a; decide
  · unfold cDoors; rw [h 32 (by decide), h 33 (by decide), h 34 (by decide)]; exact h4
  · unfold cCode; rw [h 35 (by decide), h 36 (by decide)]; exact h5
  · unfold cTape; rw [h 1 (by decide), h 2 (by decide)]; exact h7
theorem rM.ses {μ μ' : kbM} {A : zA} {e : zSes} (h : ∀ a ∈ [61, 65, 66, 67, 69, 92, 93, 94, 95, 96], μ'.1 a = μ.1 a) (hs : ∀ k ∈ [13, 22, 52, 53, 54], μ'.1 57 k = μ.1 57 k) (hr : rM μ A) (h1 : mSes μ' e) : rM μ' (e, A.2) := by
  obtain ⟨-, h2, h3, h4, h5, h6, h7⟩ := hr
  refine ⟨h1, by rw [hs 52 (by decide)]; exact h2, fun e he => ?_, ?_, ?_, ?_, by rw [hs 22 (by decide)]; exact h7⟩
  · have := h3 e he
    unfold mImg mPast mPack cHeard at this ⊢
    rw [hs 53 (by decide), hs 54 (by decide), h 92 (by decide), h 93 (by decide), h 94 (by decide), h 95 (by decide), h 96 (by decide)]
    exact this
  · unfold mDoors; rw [h 61 (by decide), h 65 (by decide), h 66 (by decide)]; exact h4
  · unfold mCode; rw [h 61 (by decide), h 67 (by decide)]; exact h5
  · unfold mTape; rw [hs 13 (by decide), h 69 (by decide)]; exact h6
theorem zOk.ses {A : zA} {e : zSes} (h : zOk A) (he : zSesOk A.2.2.1.length e) : zOk (e, A.2) := ⟨he, h.2⟩
theorem zLast {α : Type} : ∀ L : List α, L = [] ∨ ∃ G q, L = G ++ [q] := by
  intro L
  induction L with
  | nil => exact Or.inl rfl
  | cons a L ih =>
    rcases ih with rfl | ⟨G, q, rfl⟩
    · exact Or.inr ⟨[], a, rfl⟩
    · exact Or.inr ⟨a :: G, q, rfl⟩
theorem zUnErs {α : Type} (d : α) : ∀ (L : List α) (p : Nat), p < L.length → (L.eraseIdx p).insertIdx p (L.getD p d) = L := by
  intro L
  induction L with
  | nil => intro p h; simp at h
  | cons a L ih =>
    intro p h
    cases p with
    | zero => simp
    | succ p =>
      simp only [List.eraseIdx_cons_succ, List.insertIdx_succ_cons, List.getD_cons_succ]
      rw [ih p (by simpa using h)]
theorem zSetSelf {α : Type} (d : α) (L : List α) (p : Nat) (hp : p < L.length) : L.set p (L.getD p d) = L := by
  rw [List.getD_eq_getElem?_getD, List.getElem?_eq_getElem hp]
  exact List.set_getElem_self hp
theorem kn_isIn2 (x : Int32) : f_MD_isIn x.toInt64 0 2 = some (zB (zIn x 3)) := by
  have := kn_isIn x (c := 3) (by decide)
  rw [show ((nI 3 - 1).toInt64) = 2 by decide] at this
  exact this
theorem kn_isIn99 (x : Int32) : f_MD_isIn x.toInt64 0 99 = some (zB (zIn x 100)) := by
  have := kn_isIn x (c := 100) (by decide)
  rw [show ((nI 100 - 1).toInt64) = 99 by decide] at this
  exact this
theorem kb_isPart (x : Int32) : f_KB_isPart x = some (zB (zIn x 3)) := by
  unfold f_KB_isPart jn_KB_isPart_13 jn_KB_isPart_14
  rcases zIn_cases x (c := 3) (by decide) with ⟨w, hw, rfl⟩ | ⟨h1, h2 | h2⟩
  · rw [if_neg (nI_pos (by omega)), if_neg (by rw [kl_3, nI_leI (by decide) (by omega)]; omega), zIn_n (by omega), decide_eq_true hw]; rfl
  · rw [if_pos h2, h1]; rfl
  · rw [if_neg h2.1, if_pos (show (3 : Int32) ≤ x from h2.2.1), h1]; rfl
theorem kb_isWorth (x : Int32) : f_KB_isWorth x = some (zB (zIn x 100)) := by
  unfold f_KB_isWorth jn_KB_isWorth_14 jn_KB_isWorth_15
  rcases zIn_cases x (c := 100) (by decide) with ⟨w, hw, rfl⟩ | ⟨h1, h2 | h2⟩
  · rw [if_neg (nI_pos (by omega)), if_neg (by rw [show (99 : Int32) = nI 99 from rfl, nI_ltI (by decide) (by omega)]; omega), zIn_n (by omega), decide_eq_true hw]; rfl
  · rw [if_pos h2, h1]; rfl
  · have h3 : (99 : Int32) < x := by
      have a2 := Int32.le_iff_toInt_le.mp h2.2.1
      rw [nI_toInt (by decide)] at a2
      apply Int32.lt_iff_toInt_lt.mpr
      have a3 : (99 : Int32).toInt = 99 := by decide
      omega
    rw [if_neg h2.1, if_pos h3, h1]; rfl
/-! the rule forgets what it knew -/
def kbRn (μ : kbM) : kbM := kbA μ 38 (kbFill (μ.1 38) 100 0)
theorem jo_renew (μ : kbM) : f_JO_renew μ = some (kbRn μ) := rfl
theorem kRn_ne {μ : kbM} {a : Nat} (h : a ≠ 38) : (kbRn μ).1 a = μ.1 a := kA_ne h
theorem kRn_known (μ : kbM) {W : zW} (h : W.length ≤ 10) (C : List Int) : cKnown (kbRn μ) W C := by
  intro _ a b ha hb
  refine Or.inl ?_
  unfold kbRn
  rw [kA_eq]
  simp only [kbFill]
  rw [if_pos (by omega)]
/-! which word has a row -/
def zFd (W : zW) (v : Nat) : Option Nat := zFind (fun i => zRowAt W i == v) W.length W.length 0
def zFdI (o : Option Nat) : Int32 := match o with | some q => nI q | none => -1
theorem zFd_none {W : zW} {v : Nat} : zFd W v = none ↔ ∀ i, i < W.length → zRowAt W i ≠ v := by
  unfold zFd
  rw [zFind_spec _ _ _ _ (Nat.zero_add _)]
  constructor
  · intro h i hi; simpa using h i (Nat.zero_le _) hi
  · intro h i _ hi; simpa using h i hi
theorem zFind_lt (p : Nat → Bool) (c : Nat) : ∀ (j i q : Nat), zFind p c j i = some q → q < c := by
  intro j
  induction j with
  | zero => intro i q h; cases h
  | succ j ih =>
    intro i q h
    simp only [zFind] at h
    by_cases hi : i < c
    · rw [if_pos hi] at h
      by_cases hp : p i = true
      · rw [if_pos hp] at h; cases h; exact hi
      · rw [if_neg hp] at h; exact ih _ _ h
    · rw [if_neg hi] at h; cases h
theorem zFdI_m1 {W : zW} (h10 : W.length ≤ 10) (v : Nat) : zFdI (zFd W v) = -1 ↔ zFd W v = none := by
  cases h : zFd W v with
  | none => simp [zFdI]
  | some q =>
    have := zFind_lt _ _ _ _ _ h
    simp only [zFdI]
    rw [kn_nm1 (by omega)]
    simp
theorem c_find {n : Nat} (hn : 100 ≤ n) {μ : kbM} {W : zW} (hW : zWok W) (hc : cWords μ 13 14 15 16 17 W) {v : Nat} (hv : v < 2 ^ 31) : f_WO_find_13 n (nI v) μ = some (zFdI (zFd W v)) := by
  have h10 := hW.1
  have e : lp_WO_find_13_2 n (nI v) μ n 0 = some (match zFd W v with | some q => .inl (nI q) | none => .inr ()) := kn_search (fun k i => lp_WO_find_13_2 n (nI v) μ k (nI i)) (fun i => zRowAt W i == v) W.length (fun q => .inl (nI q)) (.inr ())
    (fun k => by simp (disch := omega) only [kn_if_t, kn_bs, kn_or_l, kn_or_r, kn_inT, nI_clamp, nI_leI, nI_ltI, nI_eq, nI_add, pk_mul, nI_1, kn_eq0, kn_lt0, kn_le0, kn_0le, kn_div, kn_rem, kn_or, kn_and, kn_or0, kn_ad0, kn_shl1, kn_bitB, zBt, zBf, zB1t, zB1f, zB_01, zB_10, kl_2, kl_3, kl_4, kl_5, kl_6, kl_7, kl_8, kl_10, kl_12, kl_13, if_pos, if_neg, ↓reduceIte, eq_self, not_true_eq_false, not_false_eq_true, Nat.add_zero, Nat.or_zero, reduceCtorEq, or_true, true_or, or_false, false_or, decide_true, decide_false, kn_sub1, sb_m1, pk_sub, kW_ne, kW_at, kW_no, kA_ne, kA_eq, ite_self, and_self, true_and, and_true, lp_WO_find_13_2, hc.1])
    (fun k i hi hp => by
      have hr := hW.row hi
      simp only [beq_iff_eq] at hp
      simp (disch := omega) only [kn_if_t, kn_bs, kn_or_l, kn_or_r, kn_inT, nI_clamp, nI_leI, nI_ltI, nI_eq, nI_add, pk_mul, nI_1, kn_eq0, kn_lt0, kn_le0, kn_0le, kn_div, kn_rem, kn_or, kn_and, kn_or0, kn_ad0, kn_shl1, kn_bitB, zBt, zBf, zB1t, zB1f, zB_01, zB_10, kl_2, kl_3, kl_4, kl_5, kl_6, kl_7, kl_8, kl_10, kl_12, kl_13, if_pos, if_neg, ↓reduceIte, eq_self, not_true_eq_false, not_false_eq_true, Nat.add_zero, Nat.or_zero, reduceCtorEq, or_true, true_or, or_false, false_or, decide_true, decide_false, kn_sub1, sb_m1, pk_sub, kW_ne, kW_at, kW_no, kA_ne, kA_eq, ite_self, and_self, true_and, and_true, lp_WO_find_13_2, hc.1, (hc.2 i hi).1, hp])
    (fun k i hi hp => by
      have hr := hW.row hi
      simp only [beq_eq_false_iff_ne, ne_eq] at hp
      simp (disch := omega) only [kn_if_t, kn_bs, kn_or_l, kn_or_r, kn_inT, nI_clamp, nI_leI, nI_ltI, nI_eq, nI_add, pk_mul, nI_1, kn_eq0, kn_lt0, kn_le0, kn_0le, kn_div, kn_rem, kn_or, kn_and, kn_or0, kn_ad0, kn_shl1, kn_bitB, zBt, zBf, zB1t, zB1f, zB_01, zB_10, kl_2, kl_3, kl_4, kl_5, kl_6, kl_7, kl_8, kl_10, kl_12, kl_13, if_pos, if_neg, ↓reduceIte, eq_self, not_true_eq_false, not_false_eq_true, Nat.add_zero, Nat.or_zero, reduceCtorEq, or_true, true_or, or_false, false_or, decide_true, decide_false, kn_sub1, sb_m1, pk_sub, kW_ne, kW_at, kW_no, kA_ne, kA_eq, ite_self, and_self, true_and, and_true, lp_WO_find_13_2, hc.1, (hc.2 i hi).1, hp]) W.length 0 n (by omega) (by omega)
  unfold f_WO_find_13
  rw [e]
  cases zFd W v <;> rfl
theorem m_find {n : Nat} (hn : 100 ≤ n) {μ : kbM} {W : zW} (hW : zWok W) (hc : mWords μ W) {v : Nat} (hv : v < 2 ^ 31) : f_MD_wordBy n (nI v) μ = some (zFdI (zFd W v)) := by
  have h10 := hW.1
  have e : lp_MD_wordBy_2 n (nI v) μ n 0 = some (match zFd W v with | some q => .inl (nI q) | none => .inr ()) := kn_search (fun k i => lp_MD_wordBy_2 n (nI v) μ k (nI i)) (fun i => zRowAt W i == v) W.length (fun q => .inl (nI q)) (.inr ())
    (fun k => by simp (disch := omega) only [kn_if_t, kn_bs, kn_or_l, kn_or_r, kn_inT, nI_clamp, nI_leI, nI_ltI, nI_eq, nI_add, pk_mul, nI_1, kn_eq0, kn_lt0, kn_le0, kn_0le, kn_div, kn_rem, kn_or, kn_and, kn_or0, kn_ad0, kn_shl1, kn_bitB, zBt, zBf, zB1t, zB1f, zB_01, zB_10, kl_2, kl_3, kl_4, kl_5, kl_6, kl_7, kl_8, kl_10, kl_12, kl_13, if_pos, if_neg, ↓reduceIte, eq_self, not_true_eq_false, not_false_eq_true, Nat.add_zero, Nat.or_zero, reduceCtorEq, or_true, true_or, or_false, false_or, decide_true, decide_false, kn_sub1, sb_m1, pk_sub, kW_ne, kW_at, kW_no, kA_ne, kA_eq, ite_self, and_self, true_and, and_true, lp_MD_wordBy_2, hc.1])
    (fun k i hi hp => by
      have hr := hW.row hi
      simp only [beq_iff_eq] at hp
      simp (disch := omega) only [kn_if_t, kn_bs, kn_or_l, kn_or_r, kn_inT, nI_clamp, nI_leI, nI_ltI, nI_eq, nI_add, pk_mul, nI_1, kn_eq0, kn_lt0, kn_le0, kn_0le, kn_div, kn_rem, kn_or, kn_and, kn_or0, kn_ad0, kn_shl1, kn_bitB, zBt, zBf, zB1t, zB1f, zB_01, zB_10, kl_2, kl_3, kl_4, kl_5, kl_6, kl_7, kl_8, kl_10, kl_12, kl_13, if_pos, if_neg, ↓reduceIte, eq_self, not_true_eq_false, not_false_eq_true, Nat.add_zero, Nat.or_zero, reduceCtorEq, or_true, true_or, or_false, false_or, decide_true, decide_false, kn_sub1, sb_m1, pk_sub, kW_ne, kW_at, kW_no, kA_ne, kA_eq, ite_self, and_self, true_and, and_true, lp_MD_wordBy_2, hc.1, (hc.2 i hi).1, hp])
    (fun k i hi hp => by
      have hr := hW.row hi
      simp only [beq_eq_false_iff_ne, ne_eq] at hp
      simp (disch := omega) only [kn_if_t, kn_bs, kn_or_l, kn_or_r, kn_inT, nI_clamp, nI_leI, nI_ltI, nI_eq, nI_add, pk_mul, nI_1, kn_eq0, kn_lt0, kn_le0, kn_0le, kn_div, kn_rem, kn_or, kn_and, kn_or0, kn_ad0, kn_shl1, kn_bitB, zBt, zBf, zB1t, zB1f, zB_01, zB_10, kl_2, kl_3, kl_4, kl_5, kl_6, kl_7, kl_8, kl_10, kl_12, kl_13, if_pos, if_neg, ↓reduceIte, eq_self, not_true_eq_false, not_false_eq_true, Nat.add_zero, Nat.or_zero, reduceCtorEq, or_true, true_or, or_false, false_or, decide_true, decide_false, kn_sub1, sb_m1, pk_sub, kW_ne, kW_at, kW_no, kA_ne, kA_eq, ite_self, and_self, true_and, and_true, lp_MD_wordBy_2, hc.1, (hc.2 i hi).1, hp]) W.length 0 n (by omega) (by omega)
  unfold f_MD_wordBy
  rw [e]
  cases zFd W v <;> rfl
/-! words that stay in order -/
theorem zWok_ins {W : zW} (h : zWok W) (hl : W.length < 10) {v pt wt : Nat} (hv : zWord v) (hp : pt ≤ 2) (hw : wt ≤ 99) (hf : zFd W v = none) : zWok (W.insertIdx W.length (v, pt, wt)) := by
  rw [List.insertIdx_length_self]
  refine ⟨by rw [List.length_append]; exact hl, fun q hq => ?_, ?_⟩
  · rcases List.mem_append.mp hq with hq | hq
    · exact h.2.1 q hq
    · simp only [List.mem_singleton] at hq
      rw [hq]; exact ⟨hv, hp, hw⟩
  · rw [List.map_append, List.nodup_append]
    refine ⟨h.2.2, by simp, fun a ha b hb => ?_⟩
    simp only [List.map_cons, List.map_nil, List.mem_singleton] at hb
    subst hb
    obtain ⟨q, hq, rfl⟩ := List.mem_map.mp ha
    obtain ⟨i, hi, rfl⟩ := List.mem_iff_getElem.mp hq
    have := zFd_none.mp hf i hi
    unfold zRowAt at this
    rw [List.getD_eq_getElem?_getD, List.getElem?_eq_getElem hi] at this
    exact this
theorem zWok_ers {W : zW} (h : zWok W) (p : Nat) : zWok (W.eraseIdx p) := by
  refine ⟨Nat.le_trans (List.length_eraseIdx_le _ _) h.1, fun q hq => h.2.1 q (List.mem_of_mem_eraseIdx hq), ?_⟩
  exact ((List.eraseIdx_sublist W p).map _).nodup h.2.2
theorem zWok_set {W : zW} (h : zWok W) {p pt wt : Nat} (hp : p < W.length) (hpt : pt ≤ 2) (hw : wt ≤ 99) : zWok (W.set p (zRowAt W p, pt, wt)) := by
  refine ⟨by rw [List.length_set]; exact h.1, fun q hq => ?_, ?_⟩
  · rcases List.mem_or_eq_of_mem_set hq with hq | hq
    · exact h.2.1 q hq
    · rw [hq]; exact ⟨(h.at hp).1, hpt, hw⟩
  · rw [List.map_set]
    have e : (W.map fun q => q.1).set p (zRowAt W p) = W.map fun q => q.1 := by
      have : zRowAt W p = (W.map fun q => q.1).getD p 0 := by
        unfold zRowAt
        rw [List.getD_eq_getElem?_getD, List.getD_eq_getElem?_getD, List.getElem?_map, List.getElem?_eq_getElem hp]
        rfl
      rw [this]
      exact zSetSelf 0 _ _ (by rw [List.length_map]; exact hp)
    rw [e]; exact h.2.2
theorem zIn_f {x : Int32} {c : Nat} (hc : c < 2 ^ 31) (h : zIn x c = true) : ∃ w, w < c ∧ x = nI w := by
  rcases zIn_cases x hc with q | ⟨q, -⟩
  · exact q
  · rw [q] at h; cases h
/-! the model's words -/
theorem m_ins {μ : kbM} {W : zW} {v pt wt : Nat} (h : mWords μ W) (hl : W.length < 10) : mWords (kbW (kbW (kbW (kbW μ 70 W.length (nI v)) 71 W.length (nI pt)) 72 W.length (nI wt)) 57 27 (nI (W.length + 1))) (W.insertIdx W.length (v, pt, wt)) := by
  have hlen : (W.insertIdx W.length (v, pt, wt)).length = W.length + 1 := List.length_insertIdx_of_le_length (Nat.le_refl _) _
  refine ⟨by rw [kW_at, hlen], fun i hi => ?_⟩
  rw [hlen] at hi
  unfold zRowAt zPartAt zWorthAt
  rw [zIns_at _ _ _ _ (Nat.le_refl _)]
  by_cases e : i = W.length
  · subst e
    simp (disch := omega) only [kn_if_t, kn_bs, kn_or_l, kn_or_r, kn_inT, nI_clamp, nI_leI, nI_ltI, nI_eq, nI_add, pk_mul, nI_1, kn_eq0, kn_lt0, kn_le0, kn_0le, kn_div, kn_rem, kn_or, kn_and, kn_or0, kn_ad0, kn_shl1, kn_bitB, zBt, zBf, zB1t, zB1f, zB_01, zB_10, kl_2, kl_3, kl_4, kl_5, kl_6, kl_7, kl_8, kl_10, kl_12, kl_13, if_pos, if_neg, ↓reduceIte, eq_self, not_true_eq_false, not_false_eq_true, Nat.add_zero, Nat.or_zero, reduceCtorEq, or_true, true_or, or_false, false_or, decide_true, decide_false, kn_sub1, sb_m1, pk_sub, kW_ne, kW_at, kW_no, kA_ne, kA_eq, ite_self, and_self, true_and, and_true, Nat.lt_irrefl, and_self]
  · have w := h.2 i (by omega)
    unfold zRowAt zPartAt zWorthAt at w
    simp (disch := omega) only [kn_if_t, kn_bs, kn_or_l, kn_or_r, kn_inT, nI_clamp, nI_leI, nI_ltI, nI_eq, nI_add, pk_mul, nI_1, kn_eq0, kn_lt0, kn_le0, kn_0le, kn_div, kn_rem, kn_or, kn_and, kn_or0, kn_ad0, kn_shl1, kn_bitB, zBt, zBf, zB1t, zB1f, zB_01, zB_10, kl_2, kl_3, kl_4, kl_5, kl_6, kl_7, kl_8, kl_10, kl_12, kl_13, if_pos, if_neg, ↓reduceIte, eq_self, not_true_eq_false, not_false_eq_true, Nat.add_zero, Nat.or_zero, reduceCtorEq, or_true, true_or, or_false, false_or, decide_true, decide_false, kn_sub1, sb_m1, pk_sub, kW_ne, kW_at, kW_no, kA_ne, kA_eq, ite_self, and_self, true_and, and_true, w.1, w.2.1, w.2.2, and_self]
theorem m_set {μ : kbM} {W : zW} {p pt wt : Nat} (h : mWords μ W) (hp : p < W.length) : mWords (kbW (kbW μ 71 p (nI pt)) 72 p (nI wt)) (W.set p (zRowAt W p, pt, wt)) := by
  refine ⟨by rw [List.length_set]; simp (disch := omega) only [kn_if_t, kn_bs, kn_or_l, kn_or_r, kn_inT, nI_clamp, nI_leI, nI_ltI, nI_eq, nI_add, pk_mul, nI_1, kn_eq0, kn_lt0, kn_le0, kn_0le, kn_div, kn_rem, kn_or, kn_and, kn_or0, kn_ad0, kn_shl1, kn_bitB, zBt, zBf, zB1t, zB1f, zB_01, zB_10, kl_2, kl_3, kl_4, kl_5, kl_6, kl_7, kl_8, kl_10, kl_12, kl_13, if_pos, if_neg, ↓reduceIte, eq_self, not_true_eq_false, not_false_eq_true, Nat.add_zero, Nat.or_zero, reduceCtorEq, or_true, true_or, or_false, false_or, decide_true, decide_false, kn_sub1, sb_m1, pk_sub, kW_ne, kW_at, kW_no, kA_ne, kA_eq, ite_self, and_self, true_and, and_true, h.1], fun i hi => ?_⟩
  rw [List.length_set] at hi
  have w := h.2 i hi
  unfold zRowAt zPartAt zWorthAt at w ⊢
  rw [zSet_at _ _ _ _ _ hp]
  by_cases e : i = p
  · subst e
    simp (disch := omega) only [kn_if_t, kn_bs, kn_or_l, kn_or_r, kn_inT, nI_clamp, nI_leI, nI_ltI, nI_eq, nI_add, pk_mul, nI_1, kn_eq0, kn_lt0, kn_le0, kn_0le, kn_div, kn_rem, kn_or, kn_and, kn_or0, kn_ad0, kn_shl1, kn_bitB, zBt, zBf, zB1t, zB1f, zB_01, zB_10, kl_2, kl_3, kl_4, kl_5, kl_6, kl_7, kl_8, kl_10, kl_12, kl_13, if_pos, if_neg, ↓reduceIte, eq_self, not_true_eq_false, not_false_eq_true, Nat.add_zero, Nat.or_zero, reduceCtorEq, or_true, true_or, or_false, false_or, decide_true, decide_false, kn_sub1, sb_m1, pk_sub, kW_ne, kW_at, kW_no, kA_ne, kA_eq, ite_self, and_self, true_and, and_true, w.1, and_self]
  · simp (disch := omega) only [kn_if_t, kn_bs, kn_or_l, kn_or_r, kn_inT, nI_clamp, nI_leI, nI_ltI, nI_eq, nI_add, pk_mul, nI_1, kn_eq0, kn_lt0, kn_le0, kn_0le, kn_div, kn_rem, kn_or, kn_and, kn_or0, kn_ad0, kn_shl1, kn_bitB, zBt, zBf, zB1t, zB1f, zB_01, zB_10, kl_2, kl_3, kl_4, kl_5, kl_6, kl_7, kl_8, kl_10, kl_12, kl_13, if_pos, if_neg, ↓reduceIte, eq_self, not_true_eq_false, not_false_eq_true, Nat.add_zero, Nat.or_zero, reduceCtorEq, or_true, true_or, or_false, false_or, decide_true, decide_false, kn_sub1, sb_m1, pk_sub, kW_ne, kW_at, kW_no, kA_ne, kA_eq, ite_self, and_self, true_and, and_true, w.1, w.2.1, w.2.2, and_self]
theorem m_remove {n : Nat} (hn : 100 ≤ n) (z : Int32) {μ : kbM} {W : zW} {p : Nat} (hc : mWords μ W) (hl : W.length ≤ 10) (hp : p < W.length) : ∃ μ', lp_MD_die_42 n z n (nI p) (kbW μ 57 27 (nI (W.length - 1))) = some μ' ∧ mWords μ' (W.eraseIdx p) ∧ (∀ c, c ≠ 57 → c ≠ 70 → c ≠ 71 → c ≠ 72 → μ'.1 c = μ.1 c) ∧ ∀ k, k ≠ 27 → μ'.1 57 k = μ.1 57 k := by
  obtain ⟨ν, e, hA, hB, hD⟩ := kn_for (fun k (s : Int32 × kbM) => lp_MD_die_42 n z k s.1 s.2)
    (fun j s => s.1 = nI (p + j) ∧ (∀ c, 70 ≤ c ∧ c ≤ 72 → ∀ q, s.2.1 c q = if p ≤ q ∧ q < p + j then μ.1 c (q + 1) else μ.1 c q) ∧ (∀ c, ¬ (70 ≤ c ∧ c ≤ 72) → s.2.1 c = (kbW μ 57 27 (nI (W.length - 1))).1 c)) (W.length - 1 - p)
    (fun ν => (∀ c, 70 ≤ c ∧ c ≤ 72 → ∀ q, ν.1 c q = if p ≤ q ∧ q < p + (W.length - 1 - p) then μ.1 c (q + 1) else μ.1 c q) ∧ (∀ c, ¬ (70 ≤ c ∧ c ≤ 72) → ν.1 c = (kbW μ 57 27 (nI (W.length - 1))).1 c) ∧ True)
    (fun k s hs => by
      obtain ⟨v, ν⟩ := s
      simp only at hs
      obtain ⟨rfl, h1, h2⟩ := hs
      have g := h2 57 (by omega)
      try simp only at g
      exact ⟨ν, by simp (disch := omega) only [kn_if_t, kn_bs, kn_or_l, kn_or_r, kn_inT, nI_clamp, nI_leI, nI_ltI, nI_eq, nI_add, pk_mul, nI_1, kn_eq0, kn_lt0, kn_le0, kn_0le, kn_div, kn_rem, kn_or, kn_and, kn_or0, kn_ad0, kn_shl1, kn_bitB, zBt, zBf, zB1t, zB1f, zB_01, zB_10, kl_2, kl_3, kl_4, kl_5, kl_6, kl_7, kl_8, kl_10, kl_12, kl_13, if_pos, if_neg, ↓reduceIte, eq_self, not_true_eq_false, not_false_eq_true, Nat.add_zero, Nat.or_zero, reduceCtorEq, or_true, true_or, or_false, false_or, decide_true, decide_false, kn_sub1, sb_m1, pk_sub, kW_ne, kW_at, kW_no, kA_ne, kA_eq, ite_self, and_self, true_and, and_true, lp_MD_die_42, g], h1, h2, trivial⟩)
    (fun k j s hj hs => by
      obtain ⟨v, ν⟩ := s
      simp only at hs
      obtain ⟨rfl, h1, h2⟩ := hs
      have g := h2 57 (by omega)
      try simp only at g
      refine Or.inr ⟨(nI (p + (j + 1)), kbW (kbW (kbW ν 70 (p + j) (ν.1 70 (p + j + 1))) 71 (p + j) (ν.1 71 (p + j + 1))) 72 (p + j) (ν.1 72 (p + j + 1))), ?_, rfl, fun c hc q => ?_, fun c hc => ?_⟩
      · simp (disch := omega) only [kn_if_t, kn_bs, kn_or_l, kn_or_r, kn_inT, nI_clamp, nI_leI, nI_ltI, nI_eq, nI_add, pk_mul, nI_1, kn_eq0, kn_lt0, kn_le0, kn_0le, kn_div, kn_rem, kn_or, kn_and, kn_or0, kn_ad0, kn_shl1, kn_bitB, zBt, zBf, zB1t, zB1f, zB_01, zB_10, kl_2, kl_3, kl_4, kl_5, kl_6, kl_7, kl_8, kl_10, kl_12, kl_13, if_pos, if_neg, ↓reduceIte, eq_self, not_true_eq_false, not_false_eq_true, Nat.add_zero, Nat.or_zero, reduceCtorEq, or_true, true_or, or_false, false_or, decide_true, decide_false, kn_sub1, sb_m1, pk_sub, kW_ne, kW_at, kW_no, kA_ne, kA_eq, ite_self, and_self, true_and, and_true, lp_MD_die_42, g, ← Nat.add_assoc]
      · show (kbW (kbW (kbW ν 70 (p + j) (ν.1 70 (p + j + 1))) 71 (p + j) (ν.1 71 (p + j + 1))) 72 (p + j) (ν.1 72 (p + j + 1))).1 c q = _
        have e1 : (kbW (kbW (kbW ν 70 (p + j) (ν.1 70 (p + j + 1))) 71 (p + j) (ν.1 71 (p + j + 1))) 72 (p + j) (ν.1 72 (p + j + 1))).1 c q = if q = p + j then ν.1 c (p + j + 1) else ν.1 c q := by
          rcases (show c = 70 ∨ c = 71 ∨ c = 72 by omega) with rfl | rfl | rfl <;> (by_cases eq : q = p + j <;> simp [kbW, kbA, upd, eq])
        have h1' := h1 c hc
        try simp only at h1'
        rw [e1, h1', h1']
        by_cases e : q = p + j
        · rw [if_pos e, if_neg (by omega), if_pos (by omega), e]
        · rw [if_neg e]
          by_cases e2 : p ≤ q ∧ q < p + j
          · rw [if_pos e2, if_pos (by omega)]
          · rw [if_neg e2, if_neg (by omega)]
      · show (kbW (kbW (kbW ν 70 (p + j) (ν.1 70 (p + j + 1))) 71 (p + j) (ν.1 71 (p + j + 1))) 72 (p + j) (ν.1 72 (p + j + 1))).1 c = _
        rw [kW_ne (by omega), kW_ne (by omega), kW_ne (by omega)]; exact h2 c hc)
    (W.length - 1 - p) 0 n (nI p, kbW μ 57 27 (nI (W.length - 1))) (by omega) (by omega) ⟨rfl, fun c hc q => by rw [if_neg (by omega), show (kbW μ 57 27 (nI (W.length - 1))).1 c q = μ.1 c q by rw [kW_ne (by omega)]], fun _ _ => rfl⟩
  have hlen : (W.eraseIdx p).length = W.length - 1 := List.length_eraseIdx_of_lt hp
  have g7 := hB 57 (by omega)
  refine ⟨ν, e, ⟨by rw [g7, kW_at, hlen], fun i hi => ?_⟩, fun c h1 h2 h3 h4 => by rw [hB c (by omega), kW_ne h1], fun k hk => by rw [g7, kW_no hk]⟩
  rw [hlen] at hi
  unfold zRowAt zPartAt zWorthAt
  rw [zErs_at]
  have g4 := hA 70 (by omega) i
  have g5 := hA 71 (by omega) i
  have g6 := hA 72 (by omega) i
  by_cases h2 : i < p
  · have w := hc.2 i (by omega)
    unfold zRowAt zPartAt zWorthAt at w
    rw [if_neg (by omega)] at g4 g5 g6
    rw [if_pos h2, g4, g5, g6]; exact w
  · have w := hc.2 (i + 1) (by omega)
    unfold zRowAt zPartAt zWorthAt at w
    rw [if_pos (by omega)] at g4 g5 g6
    rw [if_neg h2, g4, g5, g6]; exact w
