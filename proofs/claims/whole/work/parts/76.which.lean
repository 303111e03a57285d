/-! which, listen, telegraph -/
def zHd (T : List (Nat × Nat)) (k : Nat) : Nat × Nat := T.getD k (0, 0)
def tOk (D : List (Nat × Nat)) (T : List (Nat × Nat)) : Prop := T.length ≤ 8 ∧ ∀ k, k < T.length → (zHd T k).1 < D.length ∧ (zHd T k).2 ≤ 244140624
theorem zOk.T {A : zA} (h : zOk A) : tOk A.2.2.1 A.1.2.2.1 := by
  refine ⟨h.1.2.2.2.2.1, fun k hk => ?_⟩
  have := h.1.2.2.2.2.2 (zHd A.1.2.2.1 k) (by unfold zHd; rw [List.getD_eq_getElem?_getD, List.getElem?_eq_getElem hk]; exact List.getElem_mem hk)
  exact this
def zAg (W : zW) (D : List (Nat × Nat)) (w : Nat) (T : List (Nat × Nat)) (i k : Nat) : Bool := zHr D w (zHd T k).1 (zRowAt W i) == (zHd T k).2
def zAgr (W : zW) (D : List (Nat × Nat)) (w : Nat) (T : List (Nat × Nat)) (i : Nat) : Bool := zAll (fun k => zAg W D w T i k) T.length
def zWhich (W : zW) (D : List (Nat × Nat)) (w : Nat) (T : List (Nat × Nat)) : Nat := zOr (fun i => zAgr W D w T i) W.length
theorem c_agr {n : Nat} (hn : 100 ≤ n) {μ : kbM} {W : zW} {D : List (Nat × Nat)} {w : Nat} {T : List (Nat × Nat)} (h : hOk W D w) (hc : cH μ W D w) (ht : tOk D T) (h1 : μ.1 12 6 = nI T.length) (h2 : cHeard μ 19 20 T) {i : Nat} (hi : i < W.length) : f_HO_agreesWithHeard n (nI i) μ = some (zB (zAgr W D w T i)) := by
  have h10 := h.l10
  have h8 := ht.1
  have e : lp_HO_agreesWithHeard_2 n (nI i) μ n 0 = some (if zAll (fun k => zAg W D w T i k) T.length = true then .inr () else .inl 0) := kn_all (lp := fun k j => lp_HO_agreesWithHeard_2 n (nI i) μ k (nI j)) (fun k => zAg W D w T i k) T.length (.inr ()) (.inl 0)
    (fun k => by simp (disch := omega) only [kn_if_t, kn_bs, kn_or_l, kn_or_r, kn_inT, nI_clamp, nI_leI, nI_ltI, nI_eq, nI_add, pk_mul, nI_1, kn_eq0, kn_lt0, kn_le0, kn_0le, kn_div, kn_rem, kn_or, kn_and, kn_or0, kn_ad0, kn_shl1, kn_bitB, zBt, zBf, zB1t, zB1f, zB_01, zB_10, kl_2, kl_3, kl_4, kl_5, kl_6, kl_7, kl_8, kl_10, kl_12, kl_13, if_pos, if_neg, ↓reduceIte, eq_self, not_true_eq_false, not_false_eq_true, Nat.add_zero, Nat.or_zero, reduceCtorEq, or_true, true_or, or_false, false_or, decide_true, decide_false, kn_sub1, sb_m1, pk_sub, kW_ne, kW_at, kW_no, kA_ne, kA_eq, ite_self, and_self, true_and, and_true, lp_HO_agreesWithHeard_2, h1])
    (fun k j hj hp => by
      have q := (h2 j hj)
      have t := ht.2 j hj
      unfold zHd at t
      have z := h.hr (T.getD j (0, 0)).1 hi
      have hh := c_hr (n := n) (by omega) h hc t.1 (h.row hi)
      simp only [zAg, zHd, beq_eq_false_iff_ne, ne_eq] at hp
      simp (disch := omega) only [kn_if_t, kn_bs, kn_or_l, kn_or_r, kn_inT, nI_clamp, nI_leI, nI_ltI, nI_eq, nI_add, pk_mul, nI_1, kn_eq0, kn_lt0, kn_le0, kn_0le, kn_div, kn_rem, kn_or, kn_and, kn_or0, kn_ad0, kn_shl1, kn_bitB, zBt, zBf, zB1t, zB1f, zB_01, zB_10, kl_2, kl_3, kl_4, kl_5, kl_6, kl_7, kl_8, kl_10, kl_12, kl_13, if_pos, if_neg, ↓reduceIte, eq_self, not_true_eq_false, not_false_eq_true, Nat.add_zero, Nat.or_zero, reduceCtorEq, or_true, true_or, or_false, false_or, decide_true, decide_false, kn_sub1, sb_m1, pk_sub, kW_ne, kW_at, kW_no, kA_ne, kA_eq, ite_self, and_self, true_and, and_true, lp_HO_agreesWithHeard_2, h1, q.1, q.2, (hc.1.2 i hi).1, hh, hp])
    (fun k j hj hp => by
      have q := (h2 j hj)
      have t := ht.2 j hj
      unfold zHd at t
      have hh := c_hr (n := n) (by omega) h hc t.1 (h.row hi)
      simp only [zAg, zHd, beq_iff_eq] at hp
      simp (disch := omega) only [kn_if_t, kn_bs, kn_or_l, kn_or_r, kn_inT, nI_clamp, nI_leI, nI_ltI, nI_eq, nI_add, pk_mul, nI_1, kn_eq0, kn_lt0, kn_le0, kn_0le, kn_div, kn_rem, kn_or, kn_and, kn_or0, kn_ad0, kn_shl1, kn_bitB, zBt, zBf, zB1t, zB1f, zB_01, zB_10, kl_2, kl_3, kl_4, kl_5, kl_6, kl_7, kl_8, kl_10, kl_12, kl_13, if_pos, if_neg, ↓reduceIte, eq_self, not_true_eq_false, not_false_eq_true, Nat.add_zero, Nat.or_zero, reduceCtorEq, or_true, true_or, or_false, false_or, decide_true, decide_false, kn_sub1, sb_m1, pk_sub, kW_ne, kW_at, kW_no, kA_ne, kA_eq, ite_self, and_self, true_and, and_true, lp_HO_agreesWithHeard_2, h1, q.1, q.2, (hc.1.2 i hi).1, hh, hp]) T.length 0 n (by omega) (by omega) rfl
  unfold f_HO_agreesWithHeard
  rw [e]
  unfold zAgr
  cases zAll (fun k => zAg W D w T i k) T.length <;> rfl
theorem c_which {n : Nat} (hn : 100 ≤ n) {μ : kbM} {W : zW} {D : List (Nat × Nat)} {w : Nat} {T : List (Nat × Nat)} (h : hOk W D w) (hc : cH μ W D w) (ht : tOk D T) (h1 : μ.1 12 6 = nI T.length) (h2 : cHeard μ 19 20 T) : f_HO_wordsHeard n μ = some (nI (zWhich W D w T)) := by
  have h10 := h.l10
  have e : lp_HO_wordsHeard_4 n μ n 0 0 = some (nI (zWhich W D w T)) := kn_loop (fun k (s : Nat) i => lp_HO_wordsHeard_4 n μ k (nI s) (nI i)) (fun i a => a ||| (if zAgr W D w T i = true then 2 ^ i else 0)) 0 W.length _
    (fun k => by simp (disch := omega) only [kn_if_t, kn_bs, kn_or_l, kn_or_r, kn_inT, nI_clamp, nI_leI, nI_ltI, nI_eq, nI_add, pk_mul, nI_1, kn_eq0, kn_lt0, kn_le0, kn_0le, kn_div, kn_rem, kn_or, kn_and, kn_or0, kn_ad0, kn_shl1, kn_bitB, zBt, zBf, zB1t, zB1f, zB_01, zB_10, kl_2, kl_3, kl_4, kl_5, kl_6, kl_7, kl_8, kl_10, kl_12, kl_13, if_pos, if_neg, ↓reduceIte, eq_self, not_true_eq_false, not_false_eq_true, Nat.add_zero, Nat.or_zero, reduceCtorEq, or_true, true_or, or_false, false_or, decide_true, decide_false, kn_sub1, sb_m1, pk_sub, kW_ne, kW_at, kW_no, kA_ne, kA_eq, ite_self, and_self, true_and, and_true, lp_HO_wordsHeard_4, hc.1.1] <;> rfl)
    (fun k i hi => by
      have q := c_agr hn h hc ht h1 h2 hi
      cases hp : zAgr W D w T i <;> (rw [hp] at q; simp (disch := omega) only [kn_if_t, kn_bs, kn_or_l, kn_or_r, kn_inT, nI_clamp, nI_leI, nI_ltI, nI_eq, nI_add, pk_mul, nI_1, kn_eq0, kn_lt0, kn_le0, kn_0le, kn_div, kn_rem, kn_or, kn_and, kn_or0, kn_ad0, kn_shl1, kn_bitB, zBt, zBf, zB1t, zB1f, zB_01, zB_10, kl_2, kl_3, kl_4, kl_5, kl_6, kl_7, kl_8, kl_10, kl_12, kl_13, if_pos, if_neg, ↓reduceIte, eq_self, not_true_eq_false, not_false_eq_true, Nat.add_zero, Nat.or_zero, reduceCtorEq, or_true, true_or, or_false, false_or, decide_true, decide_false, kn_sub1, sb_m1, pk_sub, kW_ne, kW_at, kW_no, kA_ne, kA_eq, ite_self, and_self, true_and, and_true, lp_HO_wordsHeard_4, jn_HO_wordsHeard_31, hc.1.1, q, Bool.false_eq_true])) W.length 0 n (by omega) (by omega)
  unfold f_HO_wordsHeard
  rw [e, kn_bs]
theorem m_agr {n : Nat} (hn : 100 ≤ n) (z : Int32) {μ : kbM} {W : zW} {D : List (Nat × Nat)} {w : Nat} {T : List (Nat × Nat)} (h : hOk W D w) (hc : mH μ W D w) (ht : tOk D T) (h1 : μ.1 57 30 = nI T.length) (h2 : cHeard μ 89 90 T) {i : Nat} (hi : i < W.length) : lp_MD_whichNow_17 n z (nI i) μ n 1 0 = some (zB (zAgr W D w T i)) := by
  have h10 := h.l10
  have h8 := ht.1
  exact kn_loop (fun k (s : Bool) j => lp_MD_whichNow_17 n z (nI i) μ k (zB s) (nI j)) (fun k s => s && zAg W D w T i k) true T.length (zB (zAgr W D w T i))
    (fun k => by simp (disch := omega) only [kn_if_t, kn_bs, kn_or_l, kn_or_r, kn_inT, nI_clamp, nI_leI, nI_ltI, nI_eq, nI_add, pk_mul, nI_1, kn_eq0, kn_lt0, kn_le0, kn_0le, kn_div, kn_rem, kn_or, kn_and, kn_or0, kn_ad0, kn_shl1, kn_bitB, zBt, zBf, zB_01, zB_10, kl_2, kl_3, kl_4, kl_5, kl_6, kl_7, kl_8, kl_10, kl_12, kl_13, if_pos, if_neg, ↓reduceIte, eq_self, not_true_eq_false, not_false_eq_true, Nat.add_zero, Nat.or_zero, reduceCtorEq, or_true, true_or, or_false, false_or, decide_true, decide_false, kn_sub1, sb_m1, pk_sub, kW_ne, kW_at, kW_no, kA_ne, kA_eq, ite_self, and_self, true_and, and_true, lp_MD_whichNow_17, h1]; rw [zAll_fold]; rfl)
    (fun k j hj => by
      have q := (h2 j hj)
      have t := ht.2 j hj
      unfold zHd at t
      have z := h.hr (T.getD j (0, 0)).1 hi
      have hh := m_hr (n := n) (by omega) h hc t.1 (h.row hi)
      generalize zFold (fun k s => s && zAg W D w T i k) true j = s
      cases s
      · simp (disch := omega) only [kn_if_t, kn_bs, kn_or_l, kn_or_r, kn_inT, nI_clamp, nI_leI, nI_ltI, nI_eq, nI_add, pk_mul, nI_1, kn_eq0, kn_lt0, kn_le0, kn_0le, kn_div, kn_rem, kn_or, kn_and, kn_or0, kn_ad0, kn_shl1, kn_bitB, zBt, zBf, zB1t, zB1f, zB_01, zB_10, kl_2, kl_3, kl_4, kl_5, kl_6, kl_7, kl_8, kl_10, kl_12, kl_13, if_pos, if_neg, ↓reduceIte, eq_self, not_true_eq_false, not_false_eq_true, Nat.add_zero, Nat.or_zero, reduceCtorEq, or_true, true_or, or_false, false_or, decide_true, decide_false, kn_sub1, sb_m1, pk_sub, kW_ne, kW_at, kW_no, kA_ne, kA_eq, ite_self, and_self, true_and, and_true, lp_MD_whichNow_17, jn_MD_whichNow_61, jn_MD_whichNow_62, h1, Bool.false_and]
      · simp only [Bool.true_and, zAg, zHd]
        by_cases hp : zHr D w (T.getD j (0, 0)).1 (zRowAt W i) = (T.getD j (0, 0)).2
        · simp (disch := omega) only [kn_if_t, kn_bs, kn_or_l, kn_or_r, kn_inT, nI_clamp, nI_leI, nI_ltI, nI_eq, nI_add, pk_mul, nI_1, kn_eq0, kn_lt0, kn_le0, kn_0le, kn_div, kn_rem, kn_or, kn_and, kn_or0, kn_ad0, kn_shl1, kn_bitB, zBt, zBf, zB1t, zB1f, zB_01, zB_10, kl_2, kl_3, kl_4, kl_5, kl_6, kl_7, kl_8, kl_10, kl_12, kl_13, if_pos, if_neg, ↓reduceIte, eq_self, not_true_eq_false, not_false_eq_true, Nat.add_zero, Nat.or_zero, reduceCtorEq, or_true, true_or, or_false, false_or, decide_true, decide_false, kn_sub1, sb_m1, pk_sub, kW_ne, kW_at, kW_no, kA_ne, kA_eq, ite_self, and_self, true_and, and_true, lp_MD_whichNow_17, jn_MD_whichNow_61, jn_MD_whichNow_62, h1, q.1, q.2, (hc.1.2 i hi).1, hh, hp, beq_self_eq_true]
        · simp (disch := omega) only [kn_if_t, kn_bs, kn_or_l, kn_or_r, kn_inT, nI_clamp, nI_leI, nI_ltI, nI_eq, nI_add, pk_mul, nI_1, kn_eq0, kn_lt0, kn_le0, kn_0le, kn_div, kn_rem, kn_or, kn_and, kn_or0, kn_ad0, kn_shl1, kn_bitB, zBt, zBf, zB1t, zB1f, zB_01, zB_10, kl_2, kl_3, kl_4, kl_5, kl_6, kl_7, kl_8, kl_10, kl_12, kl_13, if_pos, if_neg, ↓reduceIte, eq_self, not_true_eq_false, not_false_eq_true, Nat.add_zero, Nat.or_zero, reduceCtorEq, or_true, true_or, or_false, false_or, decide_true, decide_false, kn_sub1, sb_m1, pk_sub, kW_ne, kW_at, kW_no, kA_ne, kA_eq, ite_self, and_self, true_and, and_true, lp_MD_whichNow_17, jn_MD_whichNow_61, jn_MD_whichNow_62, h1, q.1, q.2, (hc.1.2 i hi).1, hh, hp, beq_eq_false_iff_ne.mpr hp]) T.length 0 n (by omega) (by omega)
theorem m_which {n : Nat} (hn : 100 ≤ n) {μ : kbM} {W : zW} {D : List (Nat × Nat)} {w : Nat} {T : List (Nat × Nat)} (h : hOk W D w) (hc : mH μ W D w) (ht : tOk D T) (h1 : μ.1 57 30 = nI T.length) (h2 : cHeard μ 89 90 T) : f_MD_whichNow n μ = some (nI (zWhich W D w T)) := by
  have h10 := h.l10
  have e : lp_MD_whichNow_4 n μ n 0 0 = some (nI (zWhich W D w T)) := kn_loop (fun k (s : Nat) i => lp_MD_whichNow_4 n μ k (nI s) (nI i)) (fun i a => a ||| (if zAgr W D w T i = true then 2 ^ i else 0)) 0 W.length _
    (fun k => by simp (disch := omega) only [kn_if_t, kn_bs, kn_or_l, kn_or_r, kn_inT, nI_clamp, nI_leI, nI_ltI, nI_eq, nI_add, pk_mul, nI_1, kn_eq0, kn_lt0, kn_le0, kn_0le, kn_div, kn_rem, kn_or, kn_and, kn_or0, kn_ad0, kn_shl1, kn_bitB, zBt, zBf, zB1t, zB1f, zB_01, zB_10, kl_2, kl_3, kl_4, kl_5, kl_6, kl_7, kl_8, kl_10, kl_12, kl_13, if_pos, if_neg, ↓reduceIte, eq_self, not_true_eq_false, not_false_eq_true, Nat.add_zero, Nat.or_zero, reduceCtorEq, or_true, true_or, or_false, false_or, decide_true, decide_false, kn_sub1, sb_m1, pk_sub, kW_ne, kW_at, kW_no, kA_ne, kA_eq, ite_self, and_self, true_and, and_true, lp_MD_whichNow_4, hc.1.1] <;> rfl)
    (fun k i hi => by
      have q := fun z => m_agr hn z h hc ht h1 h2 hi
      cases hp : zAgr W D w T i <;> (simp only [hp] at q; simp (disch := omega) only [kn_if_t, kn_bs, kn_or_l, kn_or_r, kn_inT, nI_clamp, nI_leI, nI_ltI, nI_eq, nI_add, pk_mul, nI_1, kn_eq0, kn_lt0, kn_le0, kn_0le, kn_div, kn_rem, kn_or, kn_and, kn_or0, kn_ad0, kn_shl1, kn_bitB, zBt, zBf, zB1t, zB1f, zB_01, zB_10, kl_2, kl_3, kl_4, kl_5, kl_6, kl_7, kl_8, kl_10, kl_12, kl_13, if_pos, if_neg, ↓reduceIte, eq_self, not_true_eq_false, not_false_eq_true, Nat.add_zero, Nat.or_zero, reduceCtorEq, or_true, true_or, or_false, false_or, decide_true, decide_false, kn_sub1, sb_m1, pk_sub, kW_ne, kW_at, kW_no, kA_ne, kA_eq, ite_self, and_self, true_and, and_true, lp_MD_whichNow_4, jn_MD_whichNow_81, hc.1.1, q, Bool.false_eq_true])) W.length 0 n (by omega) (by omega)
  unfold f_MD_whichNow
  rw [e, kn_bs]
theorem op_27 {n : Nat} (hn : 5000 ≤ n) {μ : kbM} (hI : kbInv μ) : ∃ μ', c_law_27 n μ = some μ' ∧ kbInv μ' := by
  obtain ⟨A, hA, hC, hM⟩ := hI
  refine ⟨kbW μ 57 3 0, ?_, A, hA, hC.c0 0, hM.c0 0⟩
  have hM' := hM.c0 0
  unfold c_law_27 f_KB_which f_MD_which
  rw [c_which (by omega) hA.H hC.H hA.T hC.1.2.2.2.1 hC.1.2.2.2.2.2.1, m_which (by omega) hA.H hM'.H hA.T hM'.1.2.2.2.1 hM'.1.2.2.2.2.2.1]
  simp only [kn_bs, if_true]
/-! how many unlike things -/
def zQb (W : zW) (D : List (Nat × Nat)) (w d set a b : Nat) : Bool := !(zBit set b) || (zHr D w d (zRowAt W a) != zHr D w d (zRowAt W b))
def zNw (W : zW) (D : List (Nat × Nat)) (w d set a : Nat) : Bool := zBit set a && zAll (fun b => zQb W D w d set a b) a
def zUnl (W : zW) (D : List (Nat × Nat)) (w d set : Nat) : Nat := zCnt (fun a => zNw W D w d set a) W.length
theorem zUnl_le {W : zW} {D : List (Nat × Nat)} {w d set : Nat} (h : hOk W D w) : zUnl W D w d set ≤ 10 := Nat.le_trans (zCnt_le _ _) h.l10
theorem c_nw {n : Nat} (hn : 100 ≤ n) (z : Int32) {μ : kbM} {W : zW} {D : List (Nat × Nat)} {w : Nat} (h : hOk W D w) {d set a : Nat} (hd : d < D.length) (hE : cEar μ W D w d) (hs : set < 1024) (ha : a < W.length) : lp_HO_unlike_41 n (nI d) (nI set) z (nI a) μ n (zB (zBit set a)) 0 = some (zB (zNw W D w d set a)) := by
  have h10 := h.l10
  have h6 := h.l6
  obtain ⟨m, rfl⟩ : ∃ m, n = m + 1 := ⟨n - 1, by omega⟩
  unfold zNw
  cases hb : zBit set a
  · simp (disch := omega) only [kn_if_t, kn_bs, kn_or_l, kn_or_r, kn_inT, nI_clamp, nI_leI, nI_ltI, nI_eq, nI_add, pk_mul, nI_1, kn_eq0, kn_lt0, kn_le0, kn_0le, kn_div, kn_rem, kn_or, kn_and, kn_or0, kn_ad0, kn_shl1, kn_bitB, zBt, zBf, zB1t, zB1f, zB_01, zB_10, kl_2, kl_3, kl_4, kl_5, kl_6, kl_7, kl_8, kl_10, kl_12, kl_13, if_pos, if_neg, ↓reduceIte, eq_self, not_true_eq_false, not_false_eq_true, Nat.add_zero, Nat.or_zero, reduceCtorEq, or_true, true_or, or_false, false_or, decide_true, decide_false, kn_sub1, sb_m1, pk_sub, kW_ne, kW_at, kW_no, kA_ne, kA_eq, ite_self, and_self, true_and, and_true, lp_HO_unlike_41, Bool.false_and]
  · rw [Bool.true_and]
    have e := kn_all (lp := fun k j => lp_HO_unlike_41 (m + 1) (nI d) (nI set) z (nI a) μ (k + 1) 1 (nI j)) (fun b => zQb W D w d set a b) a 1 0
      (fun k => by simp (disch := omega) only [kn_if_t, kn_bs, kn_or_l, kn_or_r, kn_inT, nI_clamp, nI_leI, nI_ltI, nI_eq, nI_add, pk_mul, nI_1, kn_eq0, kn_lt0, kn_le0, kn_0le, kn_div, kn_rem, kn_or, kn_and, kn_or0, kn_ad0, kn_shl1, kn_bitB, zBt, zBf, zB1t, zB1f, zB_01, zB_10, kl_2, kl_3, kl_4, kl_5, kl_6, kl_7, kl_8, kl_10, kl_12, kl_13, if_pos, if_neg, ↓reduceIte, eq_self, not_true_eq_false, not_false_eq_true, Nat.add_zero, Nat.or_zero, reduceCtorEq, or_true, true_or, or_false, false_or, decide_true, decide_false, kn_sub1, sb_m1, pk_sub, kW_ne, kW_at, kW_no, kA_ne, kA_eq, ite_self, and_self, true_and, and_true, lp_HO_unlike_41])
      (fun k j hj hp => by
        simp only [zQb, Bool.or_eq_false_iff, Bool.not_eq_false', bne_eq_false_iff_eq] at hp
        have q := c_alike h hE hd ha (show j < W.length by omega)
        rw [hp.2, beq_self_eq_true] at q
        simp (disch := omega) only [kn_if_t, kn_bs, kn_or_l, kn_or_r, kn_inT, nI_clamp, nI_leI, nI_ltI, nI_eq, nI_add, pk_mul, nI_1, kn_eq0, kn_lt0, kn_le0, kn_0le, kn_div, kn_rem, kn_or, kn_and, kn_or0, kn_ad0, kn_shl1, kn_bitB, zBt, zBf, zB1t, zB1f, zB_01, zB_10, kl_2, kl_3, kl_4, kl_5, kl_6, kl_7, kl_8, kl_10, kl_12, kl_13, if_pos, if_neg, ↓reduceIte, eq_self, not_true_eq_false, not_false_eq_true, Nat.add_zero, Nat.or_zero, reduceCtorEq, or_true, true_or, or_false, false_or, decide_true, decide_false, kn_sub1, sb_m1, pk_sub, kW_ne, kW_at, kW_no, kA_ne, kA_eq, ite_self, and_self, true_and, and_true, lp_HO_unlike_41, jn_HO_unlike_74, jn_HO_unlike_79, hp.1, q])
      (fun k j hj hp => by
        simp only [zQb] at hp
        have q := c_alike h hE hd ha (show j < W.length by omega)
        cases hj : zBit set j
        · simp (disch := omega) only [kn_if_t, kn_bs, kn_or_l, kn_or_r, kn_inT, nI_clamp, nI_leI, nI_ltI, nI_eq, nI_add, pk_mul, nI_1, kn_eq0, kn_lt0, kn_le0, kn_0le, kn_div, kn_rem, kn_or, kn_and, kn_or0, kn_ad0, kn_shl1, kn_bitB, zBt, zBf, zB1t, zB1f, zB_01, zB_10, kl_2, kl_3, kl_4, kl_5, kl_6, kl_7, kl_8, kl_10, kl_12, kl_13, if_pos, if_neg, ↓reduceIte, eq_self, not_true_eq_false, not_false_eq_true, Nat.add_zero, Nat.or_zero, reduceCtorEq, or_true, true_or, or_false, false_or, decide_true, decide_false, kn_sub1, sb_m1, pk_sub, kW_ne, kW_at, kW_no, kA_ne, kA_eq, ite_self, and_self, true_and, and_true, lp_HO_unlike_41, jn_HO_unlike_74, jn_HO_unlike_79, hj]
        · rw [hj] at hp
          simp only [Bool.not_true, Bool.false_or, bne_iff_ne, ne_eq] at hp
          rw [beq_eq_false_iff_ne.mpr hp] at q
          simp (disch := omega) only [kn_if_t, kn_bs, kn_or_l, kn_or_r, kn_inT, nI_clamp, nI_leI, nI_ltI, nI_eq, nI_add, pk_mul, nI_1, kn_eq0, kn_lt0, kn_le0, kn_0le, kn_div, kn_rem, kn_or, kn_and, kn_or0, kn_ad0, kn_shl1, kn_bitB, zBt, zBf, zB1t, zB1f, zB_01, zB_10, kl_2, kl_3, kl_4, kl_5, kl_6, kl_7, kl_8, kl_10, kl_12, kl_13, if_pos, if_neg, ↓reduceIte, eq_self, not_true_eq_false, not_false_eq_true, Nat.add_zero, Nat.or_zero, reduceCtorEq, or_true, true_or, or_false, false_or, decide_true, decide_false, kn_sub1, sb_m1, pk_sub, kW_ne, kW_at, kW_no, kA_ne, kA_eq, ite_self, and_self, true_and, and_true, lp_HO_unlike_41, jn_HO_unlike_74, jn_HO_unlike_79, hj, q]) a 0 m (by omega) (by omega) rfl
    have e' : lp_HO_unlike_41 (m + 1) (nI d) (nI set) z (nI a) μ (m + 1) (zB true) 0 = _ := e
    rw [e']
    cases zAll (fun b => zQb W D w d set a b) a <;> rfl
theorem c_unlike {n : Nat} (hn : 100 ≤ n) {μ : kbM} {W : zW} {D : List (Nat × Nat)} {w : Nat} (h : hOk W D w) (hc : cH μ W D w) {d set : Nat} (hd : d < D.length) (hs : set < 1024) : ∃ μ', f_HO_unlike n (nI d) (nI set) μ = some (nI (zUnl W D w d set), μ') := by
  have h10 := h.l10
  obtain ⟨μ1, e1, hc1, hE, -⟩ := c_hearWords hn h hc hd
  refine ⟨μ1, ?_⟩
  have e : lp_HO_unlike_10 n (nI d) (nI set) μ1 n 0 0 = some (nI (zUnl W D w d set)) := kn_loop (fun k (s : Nat) i => lp_HO_unlike_10 n (nI d) (nI set) μ1 k (nI s) (nI i)) (fun a s => s + (if zNw W D w d set a = true then 1 else 0)) 0 W.length _
    (fun k => by simp (disch := omega) only [kn_if_t, kn_bs, kn_or_l, kn_or_r, kn_inT, nI_clamp, nI_leI, nI_ltI, nI_eq, nI_add, pk_mul, nI_1, kn_eq0, kn_lt0, kn_le0, kn_0le, kn_div, kn_rem, kn_or, kn_and, kn_or0, kn_ad0, kn_shl1, kn_bitB, zBt, zBf, zB1t, zB1f, zB_01, zB_10, kl_2, kl_3, kl_4, kl_5, kl_6, kl_7, kl_8, kl_10, kl_12, kl_13, if_pos, if_neg, ↓reduceIte, eq_self, not_true_eq_false, not_false_eq_true, Nat.add_zero, Nat.or_zero, reduceCtorEq, or_true, true_or, or_false, false_or, decide_true, decide_false, kn_sub1, sb_m1, pk_sub, kW_ne, kW_at, kW_no, kA_ne, kA_eq, ite_self, and_self, true_and, and_true, lp_HO_unlike_10, hc1.1.1] <;> rfl)
    (fun k i hi => by
      have q := fun z => c_nw hn z h hd hE hs hi
      cases hb : zBit set i <;> simp only [hb, zB1t, zB1f] at q <;> cases hp : zNw W D w d set i <;> (simp only [hp] at q; simp (disch := omega) only [kn_if_t, kn_bs, kn_or_l, kn_or_r, kn_inT, nI_clamp, nI_leI, nI_ltI, nI_eq, nI_add, pk_mul, nI_1, kn_eq0, kn_lt0, kn_le0, kn_0le, kn_div, kn_rem, kn_or, kn_and, kn_or0, kn_ad0, kn_shl1, kn_bitB, zBt, zBf, zB1t, zB1f, zB_01, zB_10, kl_2, kl_3, kl_4, kl_5, kl_6, kl_7, kl_8, kl_10, kl_12, kl_13, if_pos, if_neg, ↓reduceIte, eq_self, not_true_eq_false, not_false_eq_true, Nat.add_zero, Nat.or_zero, reduceCtorEq, or_true, true_or, or_false, false_or, decide_true, decide_false, kn_sub1, sb_m1, pk_sub, kW_ne, kW_at, kW_no, kA_ne, kA_eq, ite_self, and_self, true_and, and_true, lp_HO_unlike_10, jn_HO_unlike_36, jn_HO_unlike_87, jn_HO_unlike_98, hc1.1.1, hb, q, Bool.false_eq_true])) W.length 0 n (by omega) (by omega)
  unfold f_HO_unlike
  rw [e1, kn_bs, e, kn_bs]
theorem m_nw {n : Nat} (hn : 100 ≤ n) (z : Int32) {μ : kbM} {W : zW} {D : List (Nat × Nat)} {w : Nat} (h : hOk W D w) (hc : mH μ W D w) {d set a : Nat} (hd : d < D.length) (hs : set < 1024) (ha : a < W.length) : lp_MD_unlike_25 n (nI d) (nI set) z (nI a) μ n (zB (zBit set a)) 0 = some (zB (zNw W D w d set a)) := by
  have h10 := h.l10
  have h6 := h.l6
  have g1 := h.hr d ha
  obtain ⟨m, rfl⟩ : ∃ m, n = m + 1 := ⟨n - 1, by omega⟩
  unfold zNw
  cases hb : zBit set a
  · by_cases a0 : nI a ≤ 0
    · simp (disch := omega) only [kn_if_t, kn_bs, kn_or_l, kn_or_r, kn_inT, nI_clamp, nI_leI, nI_ltI, nI_eq, nI_add, pk_mul, nI_1, kn_eq0, kn_lt0, kn_0le, kn_div, kn_rem, kn_or, kn_and, kn_or0, kn_ad0, kn_shl1, kn_bitB, zBt, zBf, zB1t, zB1f, zB_01, zB_10, kl_2, kl_3, kl_4, kl_5, kl_6, kl_7, kl_8, kl_10, kl_12, kl_13, if_pos, if_neg, ↓reduceIte, eq_self, not_true_eq_false, not_false_eq_true, Nat.add_zero, Nat.or_zero, reduceCtorEq, or_true, true_or, or_false, false_or, decide_true, decide_false, kn_sub1, sb_m1, pk_sub, kW_ne, kW_at, kW_no, kA_ne, kA_eq, ite_self, and_self, true_and, and_true, lp_MD_unlike_25, Bool.false_and, a0]
    · simp (disch := omega) only [kn_if_t, kn_bs, kn_or_l, kn_or_r, kn_inT, nI_clamp, nI_leI, nI_ltI, nI_eq, nI_add, pk_mul, nI_1, kn_eq0, kn_lt0, kn_0le, kn_div, kn_rem, kn_or, kn_and, kn_or0, kn_ad0, kn_shl1, kn_bitB, zBt, zBf, zB1t, zB1f, zB_01, zB_10, kl_2, kl_3, kl_4, kl_5, kl_6, kl_7, kl_8, kl_10, kl_12, kl_13, if_pos, if_neg, ↓reduceIte, eq_self, not_true_eq_false, not_false_eq_true, Nat.add_zero, Nat.or_zero, reduceCtorEq, or_true, true_or, or_false, false_or, decide_true, decide_false, kn_sub1, sb_m1, pk_sub, kW_ne, kW_at, kW_no, kA_ne, kA_eq, ite_self, and_self, true_and, and_true, lp_MD_unlike_25, Bool.false_and, a0]
  · rw [Bool.true_and]
    have e := kn_all (lp := fun k j => lp_MD_unlike_25 (m + 1) (nI d) (nI set) z (nI a) μ (k + 1) 1 (nI j)) (fun b => zQb W D w d set a b) a 1 0
      (fun k => by simp (disch := omega) only [kn_if_t, kn_bs, kn_or_l, kn_or_r, kn_inT, nI_clamp, nI_leI, nI_ltI, nI_eq, nI_add, pk_mul, nI_1, kn_eq0, kn_lt0, kn_le0, kn_0le, kn_div, kn_rem, kn_or, kn_and, kn_or0, kn_ad0, kn_shl1, kn_bitB, zBt, zBf, zB1t, zB1f, zB_01, zB_10, kl_2, kl_3, kl_4, kl_5, kl_6, kl_7, kl_8, kl_10, kl_12, kl_13, if_pos, if_neg, ↓reduceIte, eq_self, not_true_eq_false, not_false_eq_true, Nat.add_zero, Nat.or_zero, reduceCtorEq, or_true, true_or, or_false, false_or, decide_true, decide_false, kn_sub1, sb_m1, pk_sub, kW_ne, kW_at, kW_no, kA_ne, kA_eq, ite_self, and_self, true_and, and_true, lp_MD_unlike_25])
      (fun k j hj hp => by
        have hjW : j < W.length := by omega
        simp only [zQb, Bool.or_eq_false_iff, Bool.not_eq_false', bne_eq_false_iff_eq] at hp
        have q1 := m_hr (n := m + 1) (by omega) h hc hd (h.row ha)
        have q2 := m_hr (n := m + 1) (by omega) h hc hd (h.row hjW)
        rw [← hp.2] at q2
        by_cases a0 : a ≤ j + 1
        · simp (disch := omega) only [kn_if_t, kn_bs, kn_or_l, kn_or_r, kn_inT, nI_clamp, nI_leI, nI_ltI, nI_eq, nI_add, pk_mul, nI_1, kn_eq0, kn_lt0, kn_le0, kn_0le, kn_div, kn_rem, kn_or, kn_and, kn_or0, kn_ad0, kn_shl1, kn_bitB, zBt, zBf, zB1t, zB1f, zB_01, zB_10, kl_2, kl_3, kl_4, kl_5, kl_6, kl_7, kl_8, kl_10, kl_12, kl_13, if_pos, if_neg, ↓reduceIte, eq_self, not_true_eq_false, not_false_eq_true, Nat.add_zero, Nat.or_zero, reduceCtorEq, or_true, true_or, or_false, false_or, decide_true, decide_false, kn_sub1, sb_m1, pk_sub, kW_ne, kW_at, kW_no, kA_ne, kA_eq, ite_self, and_self, true_and, and_true, lp_MD_unlike_25, jn_MD_unlike_73, jn_MD_unlike_78, md_isOf, hp.1, (hc.1.2 a ha).1, (hc.1.2 j hjW).1, q1, q2]
        · simp (disch := omega) only [kn_if_t, kn_bs, kn_or_l, kn_or_r, kn_inT, nI_clamp, nI_leI, nI_ltI, nI_eq, nI_add, pk_mul, nI_1, kn_eq0, kn_lt0, kn_le0, kn_0le, kn_div, kn_rem, kn_or, kn_and, kn_or0, kn_ad0, kn_shl1, kn_bitB, zBt, zBf, zB1t, zB1f, zB_01, zB_10, kl_2, kl_3, kl_4, kl_5, kl_6, kl_7, kl_8, kl_10, kl_12, kl_13, if_pos, if_neg, ↓reduceIte, eq_self, not_true_eq_false, not_false_eq_true, Nat.add_zero, Nat.or_zero, reduceCtorEq, or_true, true_or, or_false, false_or, decide_true, decide_false, kn_sub1, sb_m1, pk_sub, kW_ne, kW_at, kW_no, kA_ne, kA_eq, ite_self, and_self, true_and, and_true, lp_MD_unlike_25, jn_MD_unlike_73, jn_MD_unlike_78, md_isOf, hp.1, (hc.1.2 a ha).1, (hc.1.2 j hjW).1, q1, q2])
      (fun k j hj hp => by
        have hjW : j < W.length := by omega
        have g2 := h.hr d hjW
        simp only [zQb] at hp
        have q1 := m_hr (n := m + 1) (by omega) h hc hd (h.row ha)
        have q2 := m_hr (n := m + 1) (by omega) h hc hd (h.row hjW)
        cases hj : zBit set j
        · simp (disch := omega) only [kn_if_t, kn_bs, kn_or_l, kn_or_r, kn_inT, nI_clamp, nI_leI, nI_ltI, nI_eq, nI_add, pk_mul, nI_1, kn_eq0, kn_lt0, kn_le0, kn_0le, kn_div, kn_rem, kn_or, kn_and, kn_or0, kn_ad0, kn_shl1, kn_bitB, zBt, zBf, zB1t, zB1f, zB_01, zB_10, kl_2, kl_3, kl_4, kl_5, kl_6, kl_7, kl_8, kl_10, kl_12, kl_13, if_pos, if_neg, ↓reduceIte, eq_self, not_true_eq_false, not_false_eq_true, Nat.add_zero, Nat.or_zero, reduceCtorEq, or_true, true_or, or_false, false_or, decide_true, decide_false, kn_sub1, sb_m1, pk_sub, kW_ne, kW_at, kW_no, kA_ne, kA_eq, ite_self, and_self, true_and, and_true, lp_MD_unlike_25, jn_MD_unlike_73, jn_MD_unlike_78, md_isOf, hj]
        · rw [hj] at hp
          simp only [Bool.not_true, Bool.false_or, bne_iff_ne, ne_eq] at hp
          simp (disch := omega) only [kn_if_t, kn_bs, kn_or_l, kn_or_r, kn_inT, nI_clamp, nI_leI, nI_ltI, nI_eq, nI_add, pk_mul, nI_1, kn_eq0, kn_lt0, kn_le0, kn_0le, kn_div, kn_rem, kn_or, kn_and, kn_or0, kn_ad0, kn_shl1, kn_bitB, zBt, zBf, zB1t, zB1f, zB_01, zB_10, kl_2, kl_3, kl_4, kl_5, kl_6, kl_7, kl_8, kl_10, kl_12, kl_13, if_pos, if_neg, ↓reduceIte, eq_self, not_true_eq_false, not_false_eq_true, Nat.add_zero, Nat.or_zero, reduceCtorEq, or_true, true_or, or_false, false_or, decide_true, decide_false, kn_sub1, sb_m1, pk_sub, kW_ne, kW_at, kW_no, kA_ne, kA_eq, ite_self, and_self, true_and, and_true, lp_MD_unlike_25, jn_MD_unlike_73, jn_MD_unlike_78, md_isOf, hj, (hc.1.2 a ha).1, (hc.1.2 j hjW).1, q1, q2, hp]) a 0 m (by omega) (by omega) rfl
    have e' : lp_MD_unlike_25 (m + 1) (nI d) (nI set) z (nI a) μ (m + 1) (zB true) 0 = _ := e
    rw [e']
    cases zAll (fun b => zQb W D w d set a b) a <;> rfl
theorem m_unlike {n : Nat} (hn : 100 ≤ n) {μ : kbM} {W : zW} {D : List (Nat × Nat)} {w : Nat} (h : hOk W D w) (hc : mH μ W D w) {d set : Nat} (hd : d < D.length) (hs : set < 1024) : f_MD_unlike n (nI d) (nI set) μ = some (nI (zUnl W D w d set)) := by
  have h10 := h.l10
  have e : lp_MD_unlike_5 n (nI d) (nI set) μ n 0 0 = some (nI (zUnl W D w d set)) := kn_loop (fun k (s : Nat) i => lp_MD_unlike_5 n (nI d) (nI set) μ k (nI s) (nI i)) (fun a s => s + (if zNw W D w d set a = true then 1 else 0)) 0 W.length _
    (fun k => by simp (disch := omega) only [kn_if_t, kn_bs, kn_or_l, kn_or_r, kn_inT, nI_clamp, nI_leI, nI_ltI, nI_eq, nI_add, pk_mul, nI_1, kn_eq0, kn_lt0, kn_le0, kn_0le, kn_div, kn_rem, kn_or, kn_and, kn_or0, kn_ad0, kn_shl1, kn_bitB, zBt, zBf, zB1t, zB1f, zB_01, zB_10, kl_2, kl_3, kl_4, kl_5, kl_6, kl_7, kl_8, kl_10, kl_12, kl_13, if_pos, if_neg, ↓reduceIte, eq_self, not_true_eq_false, not_false_eq_true, Nat.add_zero, Nat.or_zero, reduceCtorEq, or_true, true_or, or_false, false_or, decide_true, decide_false, kn_sub1, sb_m1, pk_sub, kW_ne, kW_at, kW_no, kA_ne, kA_eq, ite_self, and_self, true_and, and_true, lp_MD_unlike_5, hc.1.1] <;> rfl)
    (fun k i hi => by
      have q := fun z => m_nw hn z h hc hd hs hi
      have o := md_isOf (a := set) (k := i) (by omega) (by omega)
      cases hp : zNw W D w d set i <;> (simp only [hp] at q; simp (disch := omega) only [kn_if_t, kn_bs, kn_or_l, kn_or_r, kn_inT, nI_clamp, nI_leI, nI_ltI, nI_eq, nI_add, pk_mul, nI_1, kn_eq0, kn_lt0, kn_le0, kn_0le, kn_div, kn_rem, kn_or, kn_and, kn_or0, kn_ad0, kn_shl1, kn_bitB, zBt, zBf, zB1t, zB1f, zB_01, zB_10, kl_2, kl_3, kl_4, kl_5, kl_6, kl_7, kl_8, kl_10, kl_12, kl_13, if_pos, if_neg, ↓reduceIte, eq_self, not_true_eq_false, not_false_eq_true, Nat.add_zero, Nat.or_zero, reduceCtorEq, or_true, true_or, or_false, false_or, decide_true, decide_false, kn_sub1, sb_m1, pk_sub, kW_ne, kW_at, kW_no, kA_ne, kA_eq, ite_self, and_self, true_and, and_true, lp_MD_unlike_5, jn_MD_unlike_86, jn_MD_unlike_97, hc.1.1, o, q, Bool.false_eq_true])) W.length 0 n (by omega) (by omega)
  unfold f_MD_unlike
  rw [e, kn_bs]
def zLis (W : zW) (D : List (Nat × Nat)) (w set c : Nat) : Int32 × Nat := zFold (fun d s => if s.2 < zUnl W D w d set then (nI d, zUnl W D w d set) else s) (-1, 0) c
theorem zLis_s (W : zW) (D : List (Nat × Nat)) (w set c : Nat) : zLis W D w set (c + 1) = if (zLis W D w set c).2 < zUnl W D w c set then (nI c, zUnl W D w c set) else zLis W D w set c := rfl
theorem zLis_ok (W : zW) (D : List (Nat × Nat)) (w set : Nat) : ∀ c, ((zLis W D w set c).1 = -1 ∧ (zLis W D w set c).2 = 0) ∨ ∃ d, d < c ∧ (zLis W D w set c).1 = nI d ∧ (zLis W D w set c).2 = zUnl W D w d set := by
  intro c
  induction c with
  | zero => exact Or.inl ⟨rfl, rfl⟩
  | succ c ih =>
    rw [zLis_s]
    by_cases hl : (zLis W D w set c).2 < zUnl W D w c set
    · rw [if_pos hl]; exact Or.inr ⟨c, by omega, rfl, rfl⟩
    · rw [if_neg hl]
      rcases ih with q | ⟨d, q1, q2⟩
      · exact Or.inl q
      · exact Or.inr ⟨d, by omega, q2⟩
theorem zLis_le {W : zW} {D : List (Nat × Nat)} {w : Nat} (h : hOk W D w) (set c : Nat) : (zLis W D w set c).2 ≤ 10 := by
  rcases zLis_ok W D w set c with q | ⟨d, -, -, q⟩
  · omega
  · rw [q]; exact zUnl_le h
theorem c_listen {n : Nat} (hn : 100 ≤ n) {μ : kbM} {W : zW} {D : List (Nat × Nat)} {w : Nat} (h : hOk W D w) (hc : cH μ W D w) {set : Nat} (hs : set < 1024) : ∃ μ', f_HO_tellingDoor n (nI set) μ = some ((zLis W D w set D.length).1, μ') := by
  have h6 := h.l6
  have key := kn_for (fun k (s : Int32 × Int32 × Int32 × kbM) => lp_HO_tellingDoor_7 n (nI set) k s.1 s.2.1 s.2.2.1 s.2.2.2) (fun i s => s.1 = (zLis W D w set i).1 ∧ s.2.1 = nI (zLis W D w set i).2 ∧ s.2.2.1 = nI i ∧ cH s.2.2.2 W D w) D.length
    (fun r => r.1 = (zLis W D w set D.length).1)
    (fun k s hs' => by
      obtain ⟨a, b, c, ν⟩ := s
      simp only at hs'
      obtain ⟨rfl, rfl, rfl, h1⟩ := hs'
      exact ⟨(_, ν), by simp (disch := omega) only [kn_if_t, kn_bs, kn_or_l, kn_or_r, kn_inT, nI_clamp, nI_leI, nI_ltI, nI_eq, nI_add, pk_mul, nI_1, kn_eq0, kn_lt0, kn_le0, kn_0le, kn_div, kn_rem, kn_or, kn_and, kn_or0, kn_ad0, kn_shl1, kn_bitB, zBt, zBf, zB1t, zB1f, zB_01, zB_10, kl_2, kl_3, kl_4, kl_5, kl_6, kl_7, kl_8, kl_10, kl_12, kl_13, if_pos, if_neg, ↓reduceIte, eq_self, not_true_eq_false, not_false_eq_true, Nat.add_zero, Nat.or_zero, reduceCtorEq, or_true, true_or, or_false, false_or, decide_true, decide_false, kn_sub1, sb_m1, pk_sub, kW_ne, kW_at, kW_no, kA_ne, kA_eq, ite_self, and_self, true_and, and_true, lp_HO_tellingDoor_7, h1.2.1.1], rfl⟩)
    (fun k i s hi hs' => by
      obtain ⟨a, b, c, ν⟩ := s
      simp only at hs'
      obtain ⟨rfl, rfl, rfl, h1⟩ := hs'
      try simp only at h1
      obtain ⟨ν1, e1⟩ := c_unlike hn h h1 hi hs
      have f1 := fr_f_HO_unlike e1
      have hc1 := h1.fr f1 (by decide)
      have l1 := zUnl_le (d := i) (set := set) h
      have l2 := zLis_le h set i
      by_cases hl : (zLis W D w set i).2 < zUnl W D w i set
      · exact Or.inr ⟨(nI i, nI (zUnl W D w i set), nI (i + 1), ν1), by simp (disch := omega) only [kn_if_t, kn_bs, kn_or_l, kn_or_r, kn_inT, nI_clamp, nI_leI, nI_ltI, nI_eq, nI_add, pk_mul, nI_1, kn_eq0, kn_lt0, kn_le0, kn_0le, kn_div, kn_rem, kn_or, kn_and, kn_or0, kn_ad0, kn_shl1, kn_bitB, zBt, zBf, zB1t, zB1f, zB_01, zB_10, kl_2, kl_3, kl_4, kl_5, kl_6, kl_7, kl_8, kl_10, kl_12, kl_13, if_pos, if_neg, ↓reduceIte, eq_self, not_true_eq_false, not_false_eq_true, Nat.add_zero, Nat.or_zero, reduceCtorEq, or_true, true_or, or_false, false_or, decide_true, decide_false, kn_sub1, sb_m1, pk_sub, kW_ne, kW_at, kW_no, kA_ne, kA_eq, ite_self, and_self, true_and, and_true, lp_HO_tellingDoor_7, jn_HO_tellingDoor_40, h1.2.1.1, e1], by simp only [zLis_s, if_pos hl], by simp only [zLis_s, if_pos hl], rfl, hc1⟩
      · exact Or.inr ⟨((zLis W D w set i).1, nI (zLis W D w set i).2, nI (i + 1), ν1), by simp (disch := omega) only [kn_if_t, kn_bs, kn_or_l, kn_or_r, kn_inT, nI_clamp, nI_leI, nI_ltI, nI_eq, nI_add, pk_mul, nI_1, kn_eq0, kn_lt0, kn_le0, kn_0le, kn_div, kn_rem, kn_or, kn_and, kn_or0, kn_ad0, kn_shl1, kn_bitB, zBt, zBf, zB1t, zB1f, zB_01, zB_10, kl_2, kl_3, kl_4, kl_5, kl_6, kl_7, kl_8, kl_10, kl_12, kl_13, if_pos, if_neg, ↓reduceIte, eq_self, not_true_eq_false, not_false_eq_true, Nat.add_zero, Nat.or_zero, reduceCtorEq, or_true, true_or, or_false, false_or, decide_true, decide_false, kn_sub1, sb_m1, pk_sub, kW_ne, kW_at, kW_no, kA_ne, kA_eq, ite_self, and_self, true_and, and_true, lp_HO_tellingDoor_7, jn_HO_tellingDoor_40, h1.2.1.1, e1], by simp only [zLis_s, if_neg hl], by simp only [zLis_s, if_neg hl], rfl, hc1⟩)
    D.length 0 n (-1, 0, 0, μ) (by omega) (by omega) ⟨rfl, rfl, rfl, hc⟩
  obtain ⟨r, e, h1⟩ := key
  refine ⟨r.2, ?_⟩
  unfold f_HO_tellingDoor
  rw [show lp_HO_tellingDoor_7 n (nI set) n (-1) 0 0 μ = some r from e, kn_bs, h1]
theorem m_listen {n : Nat} (hn : 100 ≤ n) (z : Int32) {μ : kbM} {W : zW} {D : List (Nat × Nat)} {w : Nat} (h : hOk W D w) (hc : mH μ W D w) {set : Nat} (hs : set < 1024) : lp_MD_listen_33 n z (nI set) μ n (-1) 0 0 = some ((zLis W D w set D.length).1, nI (zLis W D w set D.length).2) := by
  have h6 := h.l6
  exact kn_loop (fun k (s : Int32 × Nat) i => lp_MD_listen_33 n z (nI set) μ k s.1 (nI s.2) (nI i)) (fun d s => if s.2 < zUnl W D w d set then (nI d, zUnl W D w d set) else s) (-1, 0) D.length _
    (fun k => by simp (disch := omega) only [kn_if_t, kn_bs, kn_or_l, kn_or_r, kn_inT, nI_clamp, nI_leI, nI_ltI, nI_eq, nI_add, pk_mul, nI_1, kn_eq0, kn_lt0, kn_le0, kn_0le, kn_div, kn_rem, kn_or, kn_and, kn_or0, kn_ad0, kn_shl1, kn_bitB, zBt, zBf, zB1t, zB1f, zB_01, zB_10, kl_2, kl_3, kl_4, kl_5, kl_6, kl_7, kl_8, kl_10, kl_12, kl_13, if_pos, if_neg, ↓reduceIte, eq_self, not_true_eq_false, not_false_eq_true, Nat.add_zero, Nat.or_zero, reduceCtorEq, or_true, true_or, or_false, false_or, decide_true, decide_false, kn_sub1, sb_m1, pk_sub, kW_ne, kW_at, kW_no, kA_ne, kA_eq, ite_self, and_self, true_and, and_true, lp_MD_listen_33, hc.2.1.1] <;> rfl)
    (fun k i hi => by
      have e1 := m_unlike hn h hc hi hs
      have l1 := zUnl_le (d := i) (set := set) h
      have l2 := zLis_le h set i
      show lp_MD_listen_33 n z (nI set) μ (k + 1) (zLis W D w set i).1 (nI (zLis W D w set i).2) (nI i) = lp_MD_listen_33 n z (nI set) μ k (if (zLis W D w set i).2 < zUnl W D w i set then (nI i, zUnl W D w i set) else zLis W D w set i).1 (nI (if (zLis W D w set i).2 < zUnl W D w i set then (nI i, zUnl W D w i set) else zLis W D w set i).2) (nI (i + 1))
      by_cases hl : (zLis W D w set i).2 < zUnl W D w i set
      · simp (disch := omega) only [kn_if_t, kn_bs, kn_or_l, kn_or_r, kn_inT, nI_clamp, nI_leI, nI_ltI, nI_eq, nI_add, pk_mul, nI_1, kn_eq0, kn_lt0, kn_le0, kn_0le, kn_div, kn_rem, kn_or, kn_and, kn_or0, kn_ad0, kn_shl1, kn_bitB, zBt, zBf, zB1t, zB1f, zB_01, zB_10, kl_2, kl_3, kl_4, kl_5, kl_6, kl_7, kl_8, kl_10, kl_12, kl_13, if_pos, if_neg, ↓reduceIte, eq_self, not_true_eq_false, not_false_eq_true, Nat.add_zero, Nat.or_zero, reduceCtorEq, or_true, true_or, or_false, false_or, decide_true, decide_false, kn_sub1, sb_m1, pk_sub, kW_ne, kW_at, kW_no, kA_ne, kA_eq, ite_self, and_self, true_and, and_true, lp_MD_listen_33, jn_MD_listen_70, hc.2.1.1, e1]
      · simp (disch := omega) only [kn_if_t, kn_bs, kn_or_l, kn_or_r, kn_inT, nI_clamp, nI_leI, nI_ltI, nI_eq, nI_add, pk_mul, nI_1, kn_eq0, kn_lt0, kn_le0, kn_0le, kn_div, kn_rem, kn_or, kn_and, kn_or0, kn_ad0, kn_shl1, kn_bitB, zBt, zBf, zB1t, zB1f, zB_01, zB_10, kl_2, kl_3, kl_4, kl_5, kl_6, kl_7, kl_8, kl_10, kl_12, kl_13, if_pos, if_neg, ↓reduceIte, eq_self, not_true_eq_false, not_false_eq_true, Nat.add_zero, Nat.or_zero, reduceCtorEq, or_true, true_or, or_false, false_or, decide_true, decide_false, kn_sub1, sb_m1, pk_sub, kW_ne, kW_at, kW_no, kA_ne, kA_eq, ite_self, and_self, true_and, and_true, lp_MD_listen_33, jn_MD_listen_70, hc.2.1.1, e1]) D.length 0 n (by omega) (by omega)
def zWhA (A : zA) : Nat := zWhich A.1.1.1 A.2.2.1 A.1.1.2 A.1.2.2.1
def zLsA (A : zA) : Int32 × Nat := zLis A.1.1.1 A.2.2.1 A.1.1.2 (zWhA A) A.2.2.1.length
theorem zWhA_lt {A : zA} (h : zOk A) : zWhA A < 1024 := Nat.lt_of_lt_of_le (zOr_lt _ _) (Nat.pow_le_pow_right (by decide) h.words.1)
def s_listen (A : zA) (u : Int32) : Int32 × Int32 := if zIn u 2 = true then (0, if u = 0 then (zLsA A).1 else nI (zLsA A).2) else (1, 0)
theorem cl_listen {n : Nat} (hn : 100 ≤ n) {μ : kbM} {A : zA} (hA : zOk A) (h : rC μ A) (u : Int32) : ∃ μ1, f_L_listen n u μ = some ((s_listen A u).1, μ1) ∧ ((s_listen A u).1 = 0 → μ1.2 97 0 = (s_listen A u).2.toInt64) := by
  have h6 := hA.doors.1
  have hlt := zWhA_lt hA
  unfold f_L_listen f_KB_listen s_listen jn_KB_listen_46
  rw [show (2 : Int32) = nI 2 from rfl, kb_needWhat n μ u (by decide)]
  cases h2 : zIn u 2 with
  | false => exact ⟨μ, rfl, fun q => absurd q z1n⟩
  | true =>
    obtain ⟨μ1, e1⟩ := c_listen hn hA.H h.H hlt
    have f1 := fr_f_HO_tellingDoor e1
    have hH1 := h.H.fr f1 (by decide)
    have e1' : f_HO_tellingDoor n (nI (zWhA A)) μ = some ((zLsA A).1, μ1) := e1
    have ew : f_HO_wordsHeard n μ = some (nI (zWhA A)) := c_which hn hA.H h.H hA.T h.1.2.2.2.1 h.1.2.2.2.2.2.1
    rw [if_pos rfl, kn_or_r, ew, kn_bs, e1', kn_bs, if_pos rfl]
    by_cases hu : u = 0
    · rw [if_pos hu, if_pos hu]; exact ⟨_, rfl, fun _ => kX_at⟩
    · rw [if_neg hu, if_neg hu]
      rcases zLis_ok A.1.1.1 A.2.2.1 A.1.1.2 (zWhA A) A.2.2.1.length with ⟨q1, q2⟩ | ⟨d, hd, q1, q2⟩
      · have q1' : (zLsA A).1 = -1 := q1
        have q2' : (zLsA A).2 = 0 := q2
        rw [if_pos q1', q2']; exact ⟨_, rfl, fun _ => kX_at⟩
      · have q1' : (zLsA A).1 = nI d := q1
        have q2' : (zLsA A).2 = zUnl A.1.1.1 A.2.2.1 A.1.1.2 d (zWhA A) := q2
        obtain ⟨μ2, e2⟩ := c_unlike hn hA.H hH1 hd hlt
        have hne : ¬ nI d = -1 := (kn_nm1 (show d < 2 ^ 31 by omega)).mp
        simp only [q1', hne, if_false, e2, kn_bs, q2']
        exact ⟨_, rfl, fun _ => kX_at⟩
theorem md_listen {n : Nat} (hn : 100 ≤ n) {μ : kbM} {A : zA} (hA : zOk A) (h0 : rM μ A) (u : Int32) : ∃ v μ2, f_MD_listen n u μ = some (v, μ2) ∧ μ2.1 57 3 = (s_listen A u).1 ∧ ((s_listen A u).1 = 0 → v = (s_listen A u).2) := by
  have hlt := zWhA_lt hA
  have h := h0.c0 0
  unfold f_MD_listen s_listen jn_MD_listen_14 jn_MD_listen_86 f_MD_fail
  rcases zIn_2 u with ⟨q1, q2⟩ | ⟨q1, q2, q3⟩ | ⟨q1, q2, q3, q4⟩
  · rw [if_pos q1, q2]; exact ⟨_, _, rfl, kW_at, fun q => absurd q z1n⟩
  · rw [if_neg q1, if_neg q2, q3]; exact ⟨_, _, rfl, kW_at, fun q => absurd q z1n⟩
  · have ew : f_MD_whichNow n (kbW μ 57 3 0) = some (nI (zWhA A)) := m_which hn hA.H h.H hA.T h.1.2.2.2.1 h.1.2.2.2.2.2.1
    have el : lp_MD_listen_33 n u (nI (zWhA A)) (kbW μ 57 3 0) n (-1) 0 0 = some ((zLsA A).1, nI (zLsA A).2) := m_listen hn u hA.H h.H hlt
    rw [if_neg q1, if_pos q2, q3, ew, kn_bs, el, kn_bs, if_pos rfl]
    by_cases hu : u = 0
    · rw [if_pos hu, if_pos hu]; exact ⟨_, _, rfl, kW_at, fun _ => rfl⟩
    · rw [if_neg hu, if_neg hu]; exact ⟨_, _, rfl, kW_at, fun _ => rfl⟩
theorem op_28 {n : Nat} (hn : 5000 ≤ n) {μ : kbM} (hI : kbInv μ) (u1 : Int32) : ∃ μ', c_law_28 n u1 μ = some μ' ∧ kbInv μ' := by
  obtain ⟨A, hA, hC, hM⟩ := hI
  obtain ⟨μ1, h1, h4⟩ := cl_listen (n := n) (by omega) hA hC u1
  have f1 := fr_f_L_listen h1
  have hC1 := hC.fr f1 (by decide) (by decide)
  have hM1 := hM.fr f1 (by decide) (by decide)
  obtain ⟨v, μ2, h2, h3, h5⟩ := md_listen (n := n) (by omega) hA hM1 u1
  have f2 := fr_f_MD_listen h2
  refine ⟨μ2, law_int h1 h2 h3 (fun q => ?_), A, hA, hC1.fr f2 (by decide) (by decide), hM1.fr f2 (by decide) (by decide)⟩
  rw [fr_at2 f2 (by decide) (by decide), h4 q, h5 q]
