/-! MAY ONE WORD FOLLOW ANOTHER: class and model -/
theorem fr_at {C S : List Nat} {μ μ' : kbM} (h : kbFr C S μ μ') {a : Nat} (ha : a ∉ C) (h7 : a ≠ 57) : μ'.1 a = μ.1 a := by
  funext k
  exact (h a k ha (fun e => absurd e h7)).1
theorem fr_at2 {C S : List Nat} {μ μ' : kbM} (h : kbFr C S μ μ') {a : Nat} (ha : a ∉ C) (h7 : a ≠ 57) : μ'.2 a = μ.2 a := by
  funext k
  exact (h a k ha (fun e => absurd e h7)).2
theorem fr_57 {C S : List Nat} {μ μ' : kbM} (h : kbFr C S μ μ') (hC : 57 ∉ C) {k : Nat} (hk : k ∉ S) : μ'.1 57 k = μ.1 57 k := (h 57 k hC (fun _ => hk)).1
def cKnown (μ : kbM) (W : zW) (C : List Int) : Prop := C ≠ [] → ∀ a b, a < W.length → b < W.length → μ.1 38 (a * 10 + b) = 0 ∨ (μ.1 38 (a * 10 + b) = 1 ∧ zJoin W C a b = true) ∨ (μ.1 38 (a * 10 + b) = 2 ∧ zJoin W C a b = false)
def cRule (μ : kbM) (W : zW) (C : List Int) : Prop := cWords μ 13 14 15 16 17 W ∧ cCode μ C ∧ cKnown μ W C
theorem cWords.fr {C S : List Nat} {μ μ' : kbM} {o r z p w : Nat} {W : zW} (h : kbFr C S μ μ') (hc : ∀ a ∈ [o, r, z, p, w], a ∉ C ∧ a ≠ 57) (hW : cWords μ o r z p w W) : cWords μ' o r z p w W := by
  simp only [List.forall_mem_cons, List.not_mem_nil, false_implies, implies_true, and_true] at hc
  obtain ⟨h1, h2, h3, h4, h5⟩ := hc
  unfold cWords
  rw [fr_at h h1.1 h1.2, fr_at h h2.1 h2.2, fr_at h h3.1 h3.2, fr_at h h4.1 h4.2, fr_at h h5.1 h5.2]
  exact hW
theorem cCode.fr {C S : List Nat} {μ μ' : kbM} {c : List Int} (h : kbFr C S μ μ') (h1 : 35 ∉ C) (h2 : 36 ∉ C) (hW : cCode μ c) : cCode μ' c := by
  unfold cCode
  rw [fr_at h h1 (by decide), fr_at h h2 (by decide)]
  exact hW
theorem cRule.fr {C S : List Nat} {μ μ' : kbM} {W : zW} {c : List Int} (h : kbFr C S μ μ') (hc : ∀ a ∈ [13, 14, 15, 16, 17, 35, 36, 38], a ∉ C) (hW : cRule μ W c) : cRule μ' W c := by
  simp only [List.forall_mem_cons, List.not_mem_nil, false_implies, implies_true, and_true] at hc
  obtain ⟨h1, h2, h3, h4, h5, h6, h7, h8⟩ := hc
  refine ⟨hW.1.fr h (by simp only [List.forall_mem_cons, List.not_mem_nil, false_implies, implies_true, and_true]; exact ⟨⟨h1, by decide⟩, ⟨h2, by decide⟩, ⟨h3, by decide⟩, ⟨h4, by decide⟩, ⟨h5, by decide⟩⟩), hW.2.1.fr h h6 h7, ?_⟩
  unfold cKnown
  rw [fr_at h h8 (by decide)]
  exact hW.2.2
theorem zJoin_run {W : zW} {C : List Int} {a b : Nat} (h : C ≠ []) : zJoin W C a b = ((zRun W a b C []).headD 0 != 0) := by
  unfold zJoin
  cases C with
  | nil => exact absurd rfl h
  | cons c C => simp
theorem jo_may {n : Nat} (hn : 700 ≤ n) {μ : kbM} {W : zW} {C : List Int} {a b : Nat} (h10 : W.length ≤ 10) (ha : a < W.length) (hb : b < W.length) (hC : zCok C) (hR : cRule μ W C) :
    ∃ μ', f_JO_mayFollow n (nI a) (nI b) μ = some (zB (zJoin W C a b), μ') ∧ cRule μ' W C := by
  obtain ⟨hW, hcc, hk⟩ := hR
  have hl := hC.2.1
  unfold f_JO_mayFollow
  by_cases hne : C = []
  · subst hne
    refine ⟨μ, ?_, hW, hcc, hk⟩
    rw [if_pos (by rw [hcc.1]; rfl)]
    rfl
  · have hpos : 0 < C.length := List.length_pos_iff.mpr hne
    rw [if_neg (by rw [hcc.1, kn_0, nI_eq (by omega) (by decide)]; omega), show (10 : Int32) = nI 10 from rfl, pk_mul, nI_add, kn_in (by omega), decide_eq_true (by omega), kn_if_t, nI_clamp (by omega)]
    -- reading the cell
    have rd : ∀ (ν : kbM) (j : Bool), cRule ν W C → zJoin W C a b = j → ν.1 38 (a * 10 + b) = (if j = true then 1 else 2) → ∃ μ', jn_JO_mayFollow_45 n (nI (a * 10 + b)) ν = some (zB j, μ') ∧ cRule μ' W C := by
      intro ν j hν hj hv
      refine ⟨ν, ?_, hν⟩
      unfold jn_JO_mayFollow_45 jn_JO_mayFollow_60
      rw [kn_in (by omega), decide_eq_true (by omega), kn_if_t, nI_clamp (by omega), hv]
      cases j <;> rfl
    by_cases h0 : μ.1 38 (a * 10 + b) = 0
    · obtain ⟨μ1, e1⟩ := jo_value hn hW h10 ha hb hC hne hcc
      have f1 := fr_f_JO_value e1
      simp only at f1
      rw [if_pos h0, e1, kn_bs]
      have hR1 : cRule μ1 W C := cRule.fr f1 (by decide) ⟨hW, hcc, hk⟩
      have wr : ∀ j : Bool, zJoin W C a b = j → cRule (kbW μ1 38 (a * 10 + b) (if j = true then 1 else 2)) W C := by
        intro j hj
        refine ⟨?_, ?_, ?_⟩
        · unfold cWords
          rw [kW_ne (by decide), kW_ne (by decide), kW_ne (by decide), kW_ne (by decide), kW_ne (by decide)]
          exact hR1.1
        · unfold cCode
          rw [kW_ne (by decide), kW_ne (by decide)]
          exact hR1.2.1
        · intro _ a' b' ha' hb'
          by_cases e : a' * 10 + b' = a * 10 + b
          · have ea : a' = a := by omega
            have eb : b' = b := by omega
            subst ea; subst eb
            rw [kW_at]
            cases j
            · exact Or.inr (Or.inr ⟨rfl, hj⟩)
            · exact Or.inr (Or.inl ⟨rfl, hj⟩)
          · rw [kW_no e]
            exact hR1.2.2 hne a' b' ha' hb'
      unfold jn_JO_mayFollow_44
      rw [kn_in (by omega), decide_eq_true (by omega), kn_if_t, kn_if_t, nI_clamp (by omega)]
      by_cases hv : (zRun W a b C []).headD 0 = 0
      · have hj : zJoin W C a b = false := by rw [zJoin_run hne, hv]; rfl
        rw [if_pos hv, hj]
        exact rd _ false (wr false hj) hj kW_at
      · have hj : zJoin W C a b = true := by rw [zJoin_run hne]; simpa using hv
        rw [if_neg hv, hj]
        exact rd _ true (wr true hj) hj kW_at
    · rw [if_neg h0]
      rcases hk hne a b ha hb with q | ⟨q, hj⟩ | ⟨q, hj⟩
      · exact absurd q h0
      · rw [hj]; exact rd μ true ⟨hW, hcc, hk⟩ hj q
      · rw [hj]; exact rd μ false ⟨hW, hcc, hk⟩ hj q
/-! the model -/
def mAsk (μ : kbM) (W : zW) (a b : Nat) : Prop := ∀ c : Int, -6 ≤ c → c < 0 → μ.1 74 (-1 - c).toNat = zNam W a b c
theorem md_loop (n : Nat) {W : zW} {C : List Int} {a b : Nat} (hCl : C.length ≤ 600) (hCb : ∀ c ∈ C, -15 ≤ c ∧ c ≤ 9999) :
    ∀ (R P : List Int) (st : List Int32) (μ : kbM) (k d' : Nat), C = P ++ R → mAsk μ W a b → mCode μ C → zStk (μ.1 75) st → st.length ≤ 64 → zDep R st.length = some d' → R.length < k →
      ∃ μ', lp_MD_valueNow_4 n k (nI st.length) (nI P.length) μ = some μ' ∧ zStk (μ'.1 75) (zRun W a b R st) ∧ (zRun W a b R st).length = d' := by
  intro R
  induction R with
  | nil =>
    intro P st μ k d' hC hA hcc hst h64 hd hk
    obtain ⟨k, rfl⟩ : ∃ q, k = q + 1 := ⟨k - 1, by simp at hk; omega⟩
    have hPl : P.length = C.length := by rw [hC]; simp
    simp only [zDep, Option.some.injEq] at hd
    refine ⟨μ, ?_, hst, hd⟩
    unfold lp_MD_valueNow_4
    rw [hcc.1, if_pos (by rw [nI_leI (by omega) (by omega)]; omega)]
  | cons c R ih =>
    intro P st μ k d' hC hA hcc hst h64 hd hk
    obtain ⟨k, rfl⟩ : ∃ q, k = q + 1 := ⟨k - 1, by simp at hk; omega⟩
    have hlen : P.length + (R.length + 1) = C.length := by rw [hC]; simp
    have hcb := hCb c (by rw [hC]; simp)
    have hci : μ.1 67 P.length = kI (zTrI c) := by rw [hcc.2 P.length (by omega), hC, zGetD_mid]
    have hC' : C = (P ++ [c]) ++ R := by rw [hC]; simp
    have hPc : (P ++ [c]).length = P.length + 1 := by simp
    have go : ∀ (st2 : List Int32) (w : Nat) (v : Int32), st2 = zStp W a b c st → zStk (upd (μ.1 75) w v) st2 → st2.length ≤ 64 → zDep R st2.length = some d' →
        ∃ μ', lp_MD_valueNow_4 n k (nI st2.length) (nI (P.length + 1)) (kbW μ 75 w v) = some μ' ∧ zStk (μ'.1 75) (zRun W a b (c :: R) st) ∧ (zRun W a b (c :: R) st).length = d' := by
      intro st2 w v e h1 h2 h3
      have hA2 : mAsk (kbW μ 75 w v) W a b := by
        unfold mAsk
        rw [kW_ne (by decide)]
        exact hA
      have hc2 : mCode (kbW μ 75 w v) C := by
        unfold mCode
        rw [kW_ne (by decide), kW_ne (by decide)]
        exact hcc
      have := ih (P ++ [c]) st2 (kbW μ 75 w v) k d' hC' hA2 hc2 (by rw [kW_eq]; exact h1) h2 h3 (by simp at hk; omega)
      rw [hPc] at this
      simp only [zRun]
      rw [← e]
      exact this
    have ht1 : -15 ≤ c → c ≤ -7 → -28 ≤ zTrI c ∧ zTrI c ≤ -20 := by
      intro q1 q2
      have hc : c = -7 ∨ c = -8 ∨ c = -9 ∨ c = -10 ∨ c = -11 ∨ c = -12 ∨ c = -13 ∨ c = -14 ∨ c = -15 := by omega
      rcases hc with rfl | rfl | rfl | rfl | rfl | rfl | rfl | rfl | rfl <;> decide
    have ht2 : -6 ≤ c → zTrI c = c := by
      intro q
      unfold zTrI
      rw [if_neg (by omega), if_neg (by omega), if_neg (by omega), if_neg (by omega), if_neg (by omega), if_neg (by omega), if_neg (by omega), if_neg (by omega), if_neg (by omega)]
    have ht3 : -15 ≤ c → c ≤ -8 → zTrI c ≠ -28 := by
      intro q1 q2
      have hc : c = -8 ∨ c = -9 ∨ c = -10 ∨ c = -11 ∨ c = -12 ∨ c = -13 ∨ c = -14 ∨ c = -15 := by omega
      rcases hc with rfl | rfl | rfl | rfl | rfl | rfl | rfl | rfl <;> decide
    unfold lp_MD_valueNow_4 jn_MD_valueNow_84 jn_MD_valueNow_48 jn_MD_valueNow_117
    rw [hcc.1, if_neg (by rw [nI_leI (by omega) (by omega)]; omega), kn_in (by omega), decide_eq_true (by omega), kn_if_t, nI_clamp (by omega), hci, nI_1]
    simp only [zDep] at hd
    by_cases h6 : -6 ≤ c
    · rw [if_pos h6] at hd
      have h63 : st.length < 64 := by
        by_cases h : st.length < 64
        · exact h
        · rw [if_neg h] at hd; cases hd
      rw [if_pos h63] at hd
      rw [ht2 h6]
      have e20 : (kI c ≤ -20) ↔ c ≤ -20 := by rw [show (-20 : Int32) = kI (-20) from rfl, kI_le (by omega) (by omega) (by omega) (by omega)]
      have e0 : (kI c < 0) ↔ c < 0 := by rw [show (0 : Int32) = kI 0 from rfl, kI_lt (by omega) (by omega) (by omega) (by omega)]
      rw [if_neg (by rw [e20]; omega), kn_in (a := st.length) (by omega), decide_eq_true h63, nI_clamp (by omega), nI_1]
      by_cases h0 : c < 0
      · have ei : (-1 : Int32) - kI c = nI (-1 - c).toNat := by
          have hc : c = -1 ∨ c = -2 ∨ c = -3 ∨ c = -4 ∨ c = -5 ∨ c = -6 := by omega
          rcases hc with rfl | rfl | rfl | rfl | rfl | rfl <;> rfl
        rw [if_pos (e0.mpr h0), ei, kn_in (by omega), decide_eq_true (by omega), kn_if_t, kn_if_t, nI_clamp (by omega), hA c h6 h0]
        have e : zStp W a b c st = zNam W a b c :: st := by unfold zStp; rw [if_neg (by omega), if_pos h6]
        have := go (zNam W a b c :: st) st.length (zNam W a b c) e.symm (zStk_push hst _) (by simp; omega) (by simpa using hd)
        simpa using this
      · rw [if_neg (mt e0.mp h0), kn_if_t]
        have e : zStp W a b c st = kI c :: st := by unfold zStp; rw [if_pos (by omega)]
        have := go (kI c :: st) st.length (kI c) e.symm (zStk_push hst _) (by simp; omega) (by simpa using hd)
        simpa using this
    · rw [if_neg h6] at hd
      have hb20 := ht1 (by omega) (by omega)
      have e20 : (kI (zTrI c) ≤ -20) ↔ zTrI c ≤ -20 := by rw [show (-20 : Int32) = kI (-20) from rfl, kI_le (by omega) (by omega) (by omega) (by omega)]
      have e28 : (kI (zTrI c) = -28) ↔ zTrI c = -28 := by rw [show (-28 : Int32) = kI (-28) from rfl, kI_eq (by omega) (by omega) (by omega) (by omega)]
      rw [if_pos (e20.mpr hb20.2)]
      by_cases h7 : c = -7
      · rw [if_pos h7] at hd
        have h1 : 1 ≤ st.length := by
          by_cases h : 1 ≤ st.length
          · exact h
          · rw [if_neg h] at hd; cases hd
        rw [if_pos h1] at hd
        match st, hst, h64, hd, h1, go with
        | x :: r, hst, h64, hd, h1, go =>
          have e : ∀ v : Int32, v = zB (decide (x = 0)) → v :: r = zStp W a b c (x :: r) := fun v hv => by unfold zStp; rw [if_neg (by omega), if_neg h6, if_pos h7, hv]
          rw [if_pos (e28.mpr (by rw [h7]; decide))]
          simp only [List.length_cons] at h64 hd ⊢
          rw [nI_pred, kn_in (by omega), decide_eq_true (by omega), kn_if_t, nI_clamp (by omega), zStk_top hst]
          by_cases hx : x = 0
          · rw [if_pos hx, kn_if_t]
            have := go (1 :: r) r.length 1 (e 1 (by simp [hx, zB])) (zStk_push (zStk_tail hst) _) (by simpa using h64) (by simpa using hd)
            simpa using this
          · rw [if_neg hx, kn_if_t]
            have := go (0 :: r) r.length 0 (e 0 (by simp [hx, zB])) (zStk_push (zStk_tail hst) _) (by simpa using h64) (by simpa using hd)
            simpa using this
      · rw [if_neg h7] at hd
        have h2 : 2 ≤ st.length := by
          by_cases h : 2 ≤ st.length
          · exact h
          · rw [if_neg h] at hd; cases hd
        rw [if_pos h2] at hd
        match st, hst, h64, hd, h2, go with
        | y :: x :: r, hst, h64, hd, h2, go =>
          have e : zOp c x y :: r = zStp W a b c (y :: x :: r) := by unfold zStp; rw [if_neg (by omega), if_neg h6, if_neg h7]
          rw [if_neg (mt e28.mp (ht3 (by omega) (by omega)))]
          simp only [List.length_cons] at h64 hd ⊢
          rw [pk_m1, nI_pred, kn_in (by omega), decide_eq_true (by omega), kn_if_t, kn_in (by omega), decide_eq_true (by omega), kn_if_t, nI_clamp (by omega), nI_clamp (by omega)]
          have t1 : μ.1 75 (r.length + 1) = y := by have := zStk_top hst; simpa using this
          have t2 : μ.1 75 r.length = x := zStk_top (zStk_tail hst)
          rw [t1, t2, md_reckon (by omega) (by omega), kn_bs, kn_if_t]
          have := go (zOp c x y :: r) r.length (zOp c x y) e (zStk_push (zStk_tail (zStk_tail hst)) _) (by simp; omega) (by simpa using hd)
          simpa using this
theorem md_value {n : Nat} (hn : 700 ≤ n) {μ : kbM} {W : zW} {C : List Int} {a b : Nat} (hA : mAsk μ W a b) (hC : zCok C) (hne : C ≠ []) (hcc : mCode μ C) :
    ∃ μ', f_MD_valueNow n μ = some ((zRun W a b C []).headD 0, μ') := by
  obtain ⟨h1, h2, h3⟩ := hC
  have hd : zDep C 0 = some 1 := h1.resolve_left hne
  obtain ⟨μ', e, hs, hl⟩ := md_loop n h2 h3 C [] [] μ n 1 rfl hA hcc (zStk_nil _) (by simp) hd (by omega)
  refine ⟨μ', ?_⟩
  unfold f_MD_valueNow
  simp only [List.length_nil] at e
  rw [show (0 : Int32) = nI 0 from rfl, e, kn_bs]
  match hr : zRun W a b C [], hl, hs with
  | [x], _, hs =>
    have ht := zStk_top hs
    simp only [List.length_nil] at ht
    rw [ht]; rfl
def mRule (μ : kbM) (W : zW) (C : List Int) : Prop := mWords μ W ∧ mCode μ C
theorem mWords.fr {C S : List Nat} {μ μ' : kbM} {W : zW} (h : kbFr C S μ μ') (hc : ∀ a ∈ [57, 70, 71, 72], a ∉ C) (hs : 27 ∉ S) (hW : mWords μ W) : mWords μ' W := by
  simp only [List.forall_mem_cons, List.not_mem_nil, false_implies, implies_true, and_true] at hc
  obtain ⟨h1, h2, h3, h4⟩ := hc
  unfold mWords
  rw [fr_57 h h1 hs, fr_at h h2 (by decide), fr_at h h3 (by decide), fr_at h h4 (by decide)]
  exact hW
theorem mCode.fr {C S : List Nat} {μ μ' : kbM} {c : List Int} (h : kbFr C S μ μ') (h1 : 61 ∉ C) (h2 : 67 ∉ C) (hW : mCode μ c) : mCode μ' c := by
  unfold mCode
  rw [fr_at h h1 (by decide), fr_at h h2 (by decide)]
  exact hW
theorem mRule.fr {C S : List Nat} {μ μ' : kbM} {W : zW} {c : List Int} (h : kbFr C S μ μ') (hc : ∀ a ∈ [57, 61, 67, 70, 71, 72], a ∉ C) (hs : 27 ∉ S) (hW : mRule μ W c) : mRule μ' W c := by
  simp only [List.forall_mem_cons, List.not_mem_nil, false_implies, implies_true, and_true] at hc
  obtain ⟨h1, h2, h3, h4, h5, h6⟩ := hc
  exact ⟨hW.1.fr h (by simp only [List.forall_mem_cons, List.not_mem_nil, false_implies, implies_true, and_true]; exact ⟨h1, h4, h5, h6⟩) hs, hW.2.fr h h2 h3⟩
theorem md_joins {n : Nat} (hn : 700 ≤ n) {μ : kbM} {W : zW} {C : List Int} {a b : Nat} (hWk : zWok W) (ha : a < W.length) (hb : b < W.length) (hC : zCok C) (hR : mRule μ W C) :
    ∃ μ', f_MD_joins n (nI a) (nI b) μ = some (zB (zJoin W C a b), μ') ∧ mRule μ' W C := by
  have key : ∃ μ', f_MD_joins n (nI a) (nI b) μ = some (zB (zJoin W C a b), μ') := by
    obtain ⟨hW, hcc⟩ := hR
    have hl := hC.2.1
    have h10 := hWk.1
    have hA := hW.2 a ha
    have hB := hW.2 b hb
    have hz := (hWk.at hb).1.size
    have ia : kbIn (nI a) 10 = true := by rw [kn_in (by omega)]; exact decide_eq_true (by omega)
    have ib : kbIn (nI b) 10 = true := by rw [kn_in (by omega)]; exact decide_eq_true (by omega)
    unfold f_MD_joins
    rw [if_neg (by
      intro q
      have := congrArg Int32.toInt q
      rw [nI_toInt (by omega)] at this
      have h1 : (-1 : Int32).toInt = -1 := by decide
      omega)]
    by_cases hne : C = []
    · subst hne
      refine ⟨μ, ?_⟩
      rw [if_pos (by rw [hcc.1]; rfl)]; rfl
    · have hpos : 0 < C.length := List.length_pos_iff.mpr hne
      rw [if_neg (by rw [hcc.1, kn_0, nI_eq (by omega) (by decide)]; omega), ia, ib]
      simp only [kn_if_t, nI_clamp (show a < 2 ^ 31 by omega), nI_clamp (show b < 2 ^ 31 by omega), kW_ne (show (71 : Nat) ≠ 74 by decide), kW_ne (show (72 : Nat) ≠ 74 by decide), kW_ne (show (70 : Nat) ≠ 74 by decide), hA.2.1, hA.2.2, hB.1, hB.2.1, hB.2.2, md_sizeOf (show 20 ≤ n by omega) hz.2.2.2, kn_bs]
      have fin : ∀ v : Int32, v = zB (decide (a = b)) → ∃ μ', jn_MD_joins_94 n 5 v (kbW (kbW (kbW (kbW (kbW μ 74 0 (nI (zPartAt W a))) 74 1 (nI (zPartAt W b))) 74 2 (nI (zWorthAt W a))) 74 3 (nI (zWorthAt W b))) 74 4 (nI (zSize (zRowAt W b)))) = some (zB (zJoin W C a b), μ') := by
        intro v hv
        unfold jn_MD_joins_94 jn_MD_joins_107
        rw [show kbIn 5 6 = true by decide, kn_if_t, show (5 : Int32).toNatClampNeg = 5 by decide]
        have hA2 : mAsk (kbW (kbW (kbW (kbW (kbW (kbW μ 74 0 (nI (zPartAt W a))) 74 1 (nI (zPartAt W b))) 74 2 (nI (zWorthAt W a))) 74 3 (nI (zWorthAt W b))) 74 4 (nI (zSize (zRowAt W b)))) 74 5 v) W a b := by
          intro c h1 h2
          have hc : c = -1 ∨ c = -2 ∨ c = -3 ∨ c = -4 ∨ c = -5 ∨ c = -6 := by omega
          rcases hc with rfl | rfl | rfl | rfl | rfl | rfl
          · simp [kW_eq, upd, zNam]
          · simp [kW_eq, upd, zNam]
          · simp [kW_eq, upd, zNam]
          · simp [kW_eq, upd, zNam]
          · simp [kW_eq, upd, zNam]
          · simp [kW_eq, upd, zNam, hv]
        have hc2 : mCode (kbW (kbW (kbW (kbW (kbW (kbW μ 74 0 (nI (zPartAt W a))) 74 1 (nI (zPartAt W b))) 74 2 (nI (zWorthAt W a))) 74 3 (nI (zWorthAt W b))) 74 4 (nI (zSize (zRowAt W b)))) 74 5 v) C := by
          unfold mCode
          simp only [kW_ne (show (61 : Nat) ≠ 74 by decide), kW_ne (show (67 : Nat) ≠ 74 by decide)]
          exact hcc
        obtain ⟨μ', e⟩ := md_value hn hA2 hC hne hc2
        refine ⟨μ', ?_⟩
        rw [e, kn_bs, zJoin_run hne]
        by_cases hv : (zRun W a b C []).headD 0 = 0
        · rw [if_pos hv, hv]; rfl
        · rw [if_neg hv, show ((zRun W a b C []).headD 0 != 0) = true by simpa using hv]; rfl
      have e5 : (nI a = nI b) ↔ a = b := nI_eq (by omega) (by omega)
      by_cases hab : a = b
      · rw [if_pos (e5.mpr hab)]; exact fin 1 (by simp [hab, zB])
      · rw [if_neg (mt e5.mp hab)]; exact fin 0 (by simp [hab, zB])
  obtain ⟨μ', e⟩ := key
  exact ⟨μ', e, hR.fr (fr_f_MD_joins e) (by decide) (by decide)⟩
