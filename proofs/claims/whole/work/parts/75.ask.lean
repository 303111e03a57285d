/-! count, word, door -/
theorem zIn_5 (x : Int32) : (zIn x 5 = false ∧ ¬ x = 0 ∧ ¬ x = 1 ∧ ¬ x = 2 ∧ ¬ x = 3 ∧ ¬ x = 4) ∨ x = 0 ∨ x = 1 ∨ x = 2 ∨ x = 3 ∨ x = 4 := by
  by_cases e0 : x = 0
  · simp [e0]
  by_cases e1 : x = 1
  · simp [e1]
  by_cases e2 : x = 2
  · simp [e2]
  by_cases e3 : x = 3
  · simp [e3]
  by_cases e4 : x = 4
  · simp [e4]
  refine Or.inl ⟨?_, e0, e1, e2, e3, e4⟩
  rcases zIn_cases x (c := 5) (by decide) with ⟨w, hw, rfl⟩ | ⟨h, -⟩
  · rcases (show w = 0 ∨ w = 1 ∨ w = 2 ∨ w = 3 ∨ w = 4 by omega) with rfl | rfl | rfl | rfl | rfl
    · exact absurd rfl e0
    · exact absurd rfl e1
    · exact absurd rfl e2
    · exact absurd rfl e3
    · exact absurd rfl e4
  · exact h
theorem kn_isIn4 (x : Int32) : f_MD_isIn x.toInt64 0 4 = some (zB (zIn x 5)) := by
  have := kn_isIn x (c := 5) (by decide)
  rw [show ((nI 5 - 1).toInt64) = 4 by decide] at this
  exact this
def zSumW (W : zW) : Nat := zSum (fun i => zWorthAt W i) W.length
def zSumZ (W : zW) : Nat := zSum (fun i => zSize (zRowAt W i)) W.length
theorem c_sumW {n : Nat} (hn : 100 ≤ n) {μ : kbM} {W : zW} (h10 : W.length ≤ 10) (hc : cWords μ 13 14 15 16 17 W) : f_WO_worthOfAll_13 n μ = some (nI (zSumW W)) := by
  have e : lp_WO_worthOfAll_13_4 n μ n 0 0 = some (nI (zSumW W)) := kn_loop (fun k (s : Nat) i => lp_WO_worthOfAll_13_4 n μ k (nI s) (nI i)) (fun i a => a + zWorthAt W i) 0 W.length _
    (fun k => by simp (disch := omega) only [kn_if_t, kn_bs, kn_or_l, kn_or_r, kn_inT, nI_clamp, nI_leI, nI_ltI, nI_eq, nI_add, pk_mul, nI_1, kn_eq0, kn_lt0, kn_le0, kn_0le, kn_div, kn_rem, kn_or, kn_and, kn_or0, kn_ad0, kn_shl1, kn_bitB, zBt, zBf, zB1t, zB1f, zB_01, zB_10, kl_2, kl_3, kl_4, kl_5, kl_6, kl_7, kl_8, kl_10, kl_12, kl_13, if_pos, if_neg, ↓reduceIte, eq_self, not_true_eq_false, not_false_eq_true, Nat.add_zero, Nat.or_zero, reduceCtorEq, or_true, true_or, or_false, false_or, decide_true, decide_false, kn_sub1, sb_m1, pk_sub, kW_ne, kW_at, kW_no, kA_ne, kA_eq, ite_self, and_self, true_and, and_true, lp_WO_worthOfAll_13_4, hc.1] <;> rfl)
    (fun k i hi => by simp (disch := omega) only [kn_if_t, kn_bs, kn_or_l, kn_or_r, kn_inT, nI_clamp, nI_leI, nI_ltI, nI_eq, nI_add, pk_mul, nI_1, kn_eq0, kn_lt0, kn_le0, kn_0le, kn_div, kn_rem, kn_or, kn_and, kn_or0, kn_ad0, kn_shl1, kn_bitB, zBt, zBf, zB1t, zB1f, zB_01, zB_10, kl_2, kl_3, kl_4, kl_5, kl_6, kl_7, kl_8, kl_10, kl_12, kl_13, if_pos, if_neg, ↓reduceIte, eq_self, not_true_eq_false, not_false_eq_true, Nat.add_zero, Nat.or_zero, reduceCtorEq, or_true, true_or, or_false, false_or, decide_true, decide_false, kn_sub1, sb_m1, pk_sub, kW_ne, kW_at, kW_no, kA_ne, kA_eq, ite_self, and_self, true_and, and_true, lp_WO_worthOfAll_13_4, hc.1, (hc.2 i hi).2.2.2]) W.length 0 n (by omega) (by omega)
  unfold f_WO_worthOfAll_13
  rw [e, kn_bs]
theorem c_sumZ {n : Nat} (hn : 100 ≤ n) {μ : kbM} {W : zW} (h10 : W.length ≤ 10) (hc : cWords μ 13 14 15 16 17 W) : f_WO_soundsOfAll_13 n μ = some (nI (zSumZ W)) := by
  have e : lp_WO_soundsOfAll_13_4 n μ n 0 0 = some (nI (zSumZ W)) := kn_loop (fun k (s : Nat) i => lp_WO_soundsOfAll_13_4 n μ k (nI s) (nI i)) (fun i a => a + zSize (zRowAt W i)) 0 W.length _
    (fun k => by simp (disch := omega) only [kn_if_t, kn_bs, kn_or_l, kn_or_r, kn_inT, nI_clamp, nI_leI, nI_ltI, nI_eq, nI_add, pk_mul, nI_1, kn_eq0, kn_lt0, kn_le0, kn_0le, kn_div, kn_rem, kn_or, kn_and, kn_or0, kn_ad0, kn_shl1, kn_bitB, zBt, zBf, zB1t, zB1f, zB_01, zB_10, kl_2, kl_3, kl_4, kl_5, kl_6, kl_7, kl_8, kl_10, kl_12, kl_13, if_pos, if_neg, ↓reduceIte, eq_self, not_true_eq_false, not_false_eq_true, Nat.add_zero, Nat.or_zero, reduceCtorEq, or_true, true_or, or_false, false_or, decide_true, decide_false, kn_sub1, sb_m1, pk_sub, kW_ne, kW_at, kW_no, kA_ne, kA_eq, ite_self, and_self, true_and, and_true, lp_WO_soundsOfAll_13_4, hc.1] <;> rfl)
    (fun k i hi => by simp (disch := omega) only [kn_if_t, kn_bs, kn_or_l, kn_or_r, kn_inT, nI_clamp, nI_leI, nI_ltI, nI_eq, nI_add, pk_mul, nI_1, kn_eq0, kn_lt0, kn_le0, kn_0le, kn_div, kn_rem, kn_or, kn_and, kn_or0, kn_ad0, kn_shl1, kn_bitB, zBt, zBf, zB1t, zB1f, zB_01, zB_10, kl_2, kl_3, kl_4, kl_5, kl_6, kl_7, kl_8, kl_10, kl_12, kl_13, if_pos, if_neg, ↓reduceIte, eq_self, not_true_eq_false, not_false_eq_true, Nat.add_zero, Nat.or_zero, reduceCtorEq, or_true, true_or, or_false, false_or, decide_true, decide_false, kn_sub1, sb_m1, pk_sub, kW_ne, kW_at, kW_no, kA_ne, kA_eq, ite_self, and_self, true_and, and_true, lp_WO_soundsOfAll_13_4, hc.1, (hc.2 i hi).2.1]) W.length 0 n (by omega) (by omega)
  unfold f_WO_soundsOfAll_13
  rw [e, kn_bs]
theorem m_sumW {n : Nat} (hn : 100 ≤ n) {μ : kbM} {W : zW} (h10 : W.length ≤ 10) (hc : mWords μ W) : lp_MD_count_87 n μ n 0 0 = some (nI (zSumW W)) :=
  kn_loop (fun k (s : Nat) i => lp_MD_count_87 n μ k (nI s) (nI i)) (fun i a => a + zWorthAt W i) 0 W.length _
    (fun k => by simp (disch := omega) only [kn_if_t, kn_bs, kn_or_l, kn_or_r, kn_inT, nI_clamp, nI_leI, nI_ltI, nI_eq, nI_add, pk_mul, nI_1, kn_eq0, kn_lt0, kn_le0, kn_0le, kn_div, kn_rem, kn_or, kn_and, kn_or0, kn_ad0, kn_shl1, kn_bitB, zBt, zBf, zB1t, zB1f, zB_01, zB_10, kl_2, kl_3, kl_4, kl_5, kl_6, kl_7, kl_8, kl_10, kl_12, kl_13, if_pos, if_neg, ↓reduceIte, eq_self, not_true_eq_false, not_false_eq_true, Nat.add_zero, Nat.or_zero, reduceCtorEq, or_true, true_or, or_false, false_or, decide_true, decide_false, kn_sub1, sb_m1, pk_sub, kW_ne, kW_at, kW_no, kA_ne, kA_eq, ite_self, and_self, true_and, and_true, lp_MD_count_87, hc.1] <;> rfl)
    (fun k i hi => by simp (disch := omega) only [kn_if_t, kn_bs, kn_or_l, kn_or_r, kn_inT, nI_clamp, nI_leI, nI_ltI, nI_eq, nI_add, pk_mul, nI_1, kn_eq0, kn_lt0, kn_le0, kn_0le, kn_div, kn_rem, kn_or, kn_and, kn_or0, kn_ad0, kn_shl1, kn_bitB, zBt, zBf, zB1t, zB1f, zB_01, zB_10, kl_2, kl_3, kl_4, kl_5, kl_6, kl_7, kl_8, kl_10, kl_12, kl_13, if_pos, if_neg, ↓reduceIte, eq_self, not_true_eq_false, not_false_eq_true, Nat.add_zero, Nat.or_zero, reduceCtorEq, or_true, true_or, or_false, false_or, decide_true, decide_false, kn_sub1, sb_m1, pk_sub, kW_ne, kW_at, kW_no, kA_ne, kA_eq, ite_self, and_self, true_and, and_true, lp_MD_count_87, hc.1, (hc.2 i hi).2.2]) W.length 0 n (by omega) (by omega)
theorem m_sumZ {n : Nat} (hn : 100 ≤ n) {μ : kbM} {W : zW} (hW : zWok W) (hc : mWords μ W) : lp_MD_count_114 n μ n 0 0 = some (nI (zSumZ W)) := by
  have h10 := hW.1
  exact kn_loop (fun k (s : Nat) i => lp_MD_count_114 n μ k (nI s) (nI i)) (fun i a => a + zSize (zRowAt W i)) 0 W.length _
    (fun k => by simp (disch := omega) only [kn_if_t, kn_bs, kn_or_l, kn_or_r, kn_inT, nI_clamp, nI_leI, nI_ltI, nI_eq, nI_add, pk_mul, nI_1, kn_eq0, kn_lt0, kn_le0, kn_0le, kn_div, kn_rem, kn_or, kn_and, kn_or0, kn_ad0, kn_shl1, kn_bitB, zBt, zBf, zB1t, zB1f, zB_01, zB_10, kl_2, kl_3, kl_4, kl_5, kl_6, kl_7, kl_8, kl_10, kl_12, kl_13, if_pos, if_neg, ↓reduceIte, eq_self, not_true_eq_false, not_false_eq_true, Nat.add_zero, Nat.or_zero, reduceCtorEq, or_true, true_or, or_false, false_or, decide_true, decide_false, kn_sub1, sb_m1, pk_sub, kW_ne, kW_at, kW_no, kA_ne, kA_eq, ite_self, and_self, true_and, and_true, lp_MD_count_114, hc.1] <;> rfl)
    (fun k i hi => by simp (disch := omega) only [kn_if_t, kn_bs, kn_or_l, kn_or_r, kn_inT, nI_clamp, nI_leI, nI_ltI, nI_eq, nI_add, pk_mul, nI_1, kn_eq0, kn_lt0, kn_le0, kn_0le, kn_div, kn_rem, kn_or, kn_and, kn_or0, kn_ad0, kn_shl1, kn_bitB, zBt, zBf, zB1t, zB1f, zB_01, zB_10, kl_2, kl_3, kl_4, kl_5, kl_6, kl_7, kl_8, kl_10, kl_12, kl_13, if_pos, if_neg, ↓reduceIte, eq_self, not_true_eq_false, not_false_eq_true, Nat.add_zero, Nat.or_zero, reduceCtorEq, or_true, true_or, or_false, false_or, decide_true, decide_false, kn_sub1, sb_m1, pk_sub, kW_ne, kW_at, kW_no, kA_ne, kA_eq, ite_self, and_self, true_and, and_true, lp_MD_count_114, hc.1, (hc.2 i hi).1, md_sizeOf (n := n) (by omega) (hW.row hi).2.2]) W.length 0 n (by omega) (by omega)
def s_count (A : zA) (u : Int32) : Int32 × Int32 := if u = 0 then (0, nI A.1.1.1.length) else if u = 1 then (0, nI A.2.2.1.length) else if u = 2 then (0, nI A.1.1.2) else if u = 3 then (0, nI (zSumW A.1.1.1)) else if u = 4 then (0, nI (zSumZ A.1.1.1)) else if u = 5 then (0, nI A.1.2.1.length) else if u = 6 then (0, nI A.1.2.2.1.length) else if u = 7 then (0, nI A.2.2.2.2.1.1) else if u = 8 then (0, A.1.2.2.2 0) else if u = 9 then (0, A.1.2.2.2 1) else if u = 10 then (0, A.1.2.2.2 2) else (1, 0)
theorem cl_count {n : Nat} (hn : 100 ≤ n) {μ : kbM} {A : zA} (hA : zOk A) (h : rC μ A) (u : Int32) : ∃ μ1, f_L_count n u μ = some ((s_count A u).1, μ1) ∧ ((s_count A u).1 = 0 → μ1.2 97 0 = (s_count A u).2.toInt64) := by
  have hs := h.1.2.2.2.2.2.2
  unfold f_L_count f_KB_count s_count
  by_cases e0 : u = 0
  · rw [if_pos e0, if_pos e0, h.words.1]; exact ⟨_, rfl, fun _ => kX_at⟩
  rw [if_neg e0, if_neg e0]
  by_cases e0 : u = 1
  · rw [if_pos e0, if_pos e0, h.doors.1]; exact ⟨_, rfl, fun _ => kX_at⟩
  rw [if_neg e0, if_neg e0]
  by_cases e0 : u = 2
  · rw [if_pos e0, if_pos e0, h.wet]; exact ⟨_, rfl, fun _ => kX_at⟩
  rw [if_neg e0, if_neg e0]
  by_cases e0 : u = 3
  · rw [if_pos e0, if_pos e0, c_sumW hn hA.words.1 h.words, kn_bs]; exact ⟨_, rfl, fun _ => kX_at⟩
  rw [if_neg e0, if_neg e0]
  by_cases e0 : u = 4
  · rw [if_pos e0, if_pos e0, c_sumZ hn hA.words.1 h.words, kn_bs]; exact ⟨_, rfl, fun _ => kX_at⟩
  rw [if_neg e0, if_neg e0]
  by_cases e0 : u = 5
  · rw [if_pos e0, if_pos e0, h.1.2.2.1]; exact ⟨_, rfl, fun _ => kX_at⟩
  rw [if_neg e0, if_neg e0]
  by_cases e0 : u = 6
  · rw [if_pos e0, if_pos e0, h.1.2.2.2.1]; exact ⟨_, rfl, fun _ => kX_at⟩
  rw [if_neg e0, if_neg e0]
  by_cases e0 : u = 7
  · rw [if_pos e0, if_pos e0, h.2.2.2.2.2.2.1.1]; exact ⟨_, rfl, fun _ => kX_at⟩
  rw [if_neg e0, if_neg e0]
  by_cases e0 : u = 8
  · rw [if_pos e0, if_pos e0, hs 0 (by decide)]; exact ⟨_, rfl, fun _ => kX_at⟩
  rw [if_neg e0, if_neg e0]
  by_cases e0 : u = 9
  · rw [if_pos e0, if_pos e0, hs 1 (by decide)]; exact ⟨_, rfl, fun _ => kX_at⟩
  rw [if_neg e0, if_neg e0]
  by_cases e0 : u = 10
  · rw [if_pos e0, if_pos e0, hs 2 (by decide)]; exact ⟨_, rfl, fun _ => kX_at⟩
  rw [if_neg e0, if_neg e0]
  exact ⟨μ, rfl, fun q => absurd q z1n⟩
theorem md_count {n : Nat} (hn : 100 ≤ n) {μ : kbM} {A : zA} (hA : zOk A) (h0 : rM μ A) (u : Int32) : ∃ v μ2, f_MD_count n u μ = some (v, μ2) ∧ μ2.1 57 3 = (s_count A u).1 ∧ ((s_count A u).1 = 0 → v = (s_count A u).2) := by
  have h := h0.c0 0
  have hs := h.1.2.2.2.2.2.2
  unfold f_MD_count s_count f_MD_fail
  by_cases e0 : u = 0
  · rw [if_pos e0, if_pos e0, h.words.1]; exact ⟨_, _, rfl, kW_at, fun _ => rfl⟩
  rw [if_neg e0, if_neg e0]
  by_cases e0 : u = 1
  · rw [if_pos e0, if_pos e0, h.doors.1]; exact ⟨_, _, rfl, kW_at, fun _ => rfl⟩
  rw [if_neg e0, if_neg e0]
  by_cases e0 : u = 2
  · rw [if_pos e0, if_pos e0, h.wet]; exact ⟨_, _, rfl, kW_at, fun _ => rfl⟩
  rw [if_neg e0, if_neg e0]
  by_cases e0 : u = 3
  · rw [if_pos e0, if_pos e0, m_sumW hn hA.words.1 h.words, kn_bs]; exact ⟨_, _, rfl, kW_at, fun _ => rfl⟩
  rw [if_neg e0, if_neg e0]
  by_cases e0 : u = 4
  · rw [if_pos e0, if_pos e0, m_sumZ hn hA.words h.words, kn_bs]; exact ⟨_, _, rfl, kW_at, fun _ => rfl⟩
  rw [if_neg e0, if_neg e0]
  by_cases e0 : u = 5
  · rw [if_pos e0, if_pos e0, h.1.2.2.1]; exact ⟨_, _, rfl, kW_at, fun _ => rfl⟩
  rw [if_neg e0, if_neg e0]
  by_cases e0 : u = 6
  · rw [if_pos e0, if_pos e0, h.1.2.2.2.1]; exact ⟨_, _, rfl, kW_at, fun _ => rfl⟩
  rw [if_neg e0, if_neg e0]
  by_cases e0 : u = 7
  · rw [if_pos e0, if_pos e0, h.2.2.2.2.2.1.1]; exact ⟨_, _, rfl, kW_at, fun _ => rfl⟩
  rw [if_neg e0, if_neg e0]
  by_cases e0 : u = 8
  · rw [if_pos e0, if_pos e0, e0, show kbIn (8 - 8) 3 = true by decide, kn_if_t, show ((8 : Int32) - 8).toNatClampNeg = 0 by decide, hs 0 (by decide)]; exact ⟨_, _, rfl, kW_at, fun _ => rfl⟩
  rw [if_neg e0, if_neg e0]
  by_cases e0 : u = 9
  · rw [if_pos e0, if_pos e0, e0, show kbIn (9 - 8) 3 = true by decide, kn_if_t, show ((9 : Int32) - 8).toNatClampNeg = 1 by decide, hs 1 (by decide)]; exact ⟨_, _, rfl, kW_at, fun _ => rfl⟩
  rw [if_neg e0, if_neg e0]
  by_cases e0 : u = 10
  · rw [if_pos e0, if_pos e0, e0, show kbIn (10 - 8) 3 = true by decide, kn_if_t, show ((10 : Int32) - 8).toNatClampNeg = 2 by decide, hs 2 (by decide)]; exact ⟨_, _, rfl, kW_at, fun _ => rfl⟩
  rw [if_neg e0, if_neg e0]
  exact ⟨_, _, rfl, kW_at, fun q => absurd q z1n⟩
theorem op_3 {n : Nat} (hn : 5000 ≤ n) {μ : kbM} (hI : kbInv μ) (u1 : Int32) : ∃ μ', c_law_3 n u1 μ = some μ' ∧ kbInv μ' := by
  obtain ⟨A, hA, hC, hM⟩ := hI
  obtain ⟨μ1, h1, h4⟩ := cl_count (n := n) (by omega) hA hC u1
  have f1 := fr_f_L_count h1
  have hC1 := hC.fr f1 (by decide) (by decide)
  have hM1 := hM.fr f1 (by decide) (by decide)
  obtain ⟨v, μ2, h2, h3, h5⟩ := md_count (n := n) (by omega) hA hM1 u1
  have f2 := fr_f_MD_count h2
  refine ⟨μ2, law_int h1 h2 h3 (fun q => ?_), A, hA, hC1.fr f2 (by decide) (by decide), hM1.fr f2 (by decide) (by decide)⟩
  rw [fr_at2 f2 (by decide) (by decide), h4 q, h5 q]
def s_word (A : zA) (u1 u2 : Int32) : Int32 × Int32 := if zIn u1 A.1.1.1.length = true then (if u2 = 0 then (0, nI (zRowAt A.1.1.1 u1.toNatClampNeg)) else if u2 = 1 then (0, nI (zSize (zRowAt A.1.1.1 u1.toNatClampNeg))) else if u2 = 2 then (0, nI (zPartAt A.1.1.1 u1.toNatClampNeg)) else if u2 = 3 then (0, nI (zWorthAt A.1.1.1 u1.toNatClampNeg)) else if u2 = 4 then (0, nI (zDoorsOf A.1.1.1 A.2.2.1 u1.toNatClampNeg)) else (1, 0)) else (1, 0)
theorem cl_word {n : Nat} (hn : 100 ≤ n) {μ : kbM} {A : zA} (hA : zOk A) (h : rC μ A) (u1 u2 : Int32) : ∃ μ1, f_L_word n u1 u2 μ = some ((s_word A u1 u2).1, μ1) ∧ ((s_word A u1 u2).1 = 0 → μ1.2 97 0 = (s_word A u1 u2).2.toInt64) := by
  have h10 := hA.words.1
  unfold f_L_word f_KB_word s_word
  rw [kb_needWord n h.words h10]
  rcases zIn_cases u1 (c := A.1.1.1.length) (by omega) with ⟨i, hi, rfl⟩ | ⟨h1, -⟩
  · have hw := h.words.2 i hi
    rw [zIn_n (by omega), if_pos (decide_eq_true hi), if_pos (decide_eq_true hi), kn_or_r, kn_inT (by omega) (by omega), nI_clamp (by omega), hw.1, hw.2.1, hw.2.2.1, hw.2.2.2, c_doorsOf hn hA.H h.H hi]
    by_cases e0 : u2 = 0
    · rw [if_pos e0, if_pos e0]; exact ⟨_, rfl, fun _ => kX_at⟩
    rw [if_neg e0, if_neg e0]
    by_cases e0 : u2 = 1
    · rw [if_pos e0, if_pos e0]; exact ⟨_, rfl, fun _ => kX_at⟩
    rw [if_neg e0, if_neg e0]
    by_cases e0 : u2 = 2
    · rw [if_pos e0, if_pos e0]; exact ⟨_, rfl, fun _ => kX_at⟩
    rw [if_neg e0, if_neg e0]
    by_cases e0 : u2 = 3
    · rw [if_pos e0, if_pos e0]; exact ⟨_, rfl, fun _ => kX_at⟩
    rw [if_neg e0, if_neg e0]
    by_cases e0 : u2 = 4
    · rw [if_pos e0, if_pos e0]; exact ⟨_, rfl, fun _ => kX_at⟩
    rw [if_neg e0, if_neg e0]
    exact ⟨μ, rfl, fun q => absurd q z1n⟩
  · rw [h1]
    exact ⟨μ, rfl, fun q => absurd q z1n⟩
theorem md_word {n : Nat} (hn : 100 ≤ n) {μ : kbM} {A : zA} (hA : zOk A) (h0 : rM μ A) (u1 u2 : Int32) : ∃ v μ2, f_MD_word n u1 u2 μ = some (v, μ2) ∧ μ2.1 57 3 = (s_word A u1 u2).1 ∧ ((s_word A u1 u2).1 = 0 → v = (s_word A u1 u2).2) := by
  have h10 := hA.words.1
  have h := h0.c0 0
  unfold f_MD_word s_word jn_MD_word_25 jn_MD_word_142 f_MD_fail
  rw [md_isWord h.words h10, kn_isIn4]
  simp only [kn_bs]
  rcases zIn_cases u1 (c := A.1.1.1.length) (by omega) with ⟨i, hi, rfl⟩ | ⟨h1, -⟩
  · have hw := h.words.2 i hi
    have hr := hA.words.row hi
    rw [zIn_n (by omega), decide_eq_true hi, if_neg (show ¬ zB true = 0 by decide), if_pos rfl, kn_inT (by omega) (by omega), nI_clamp (by omega), hw.1, hw.2.1, hw.2.2, m_doorsOf hn u2 hA.H h.H hi, md_sizeOf (by omega) hr.2.2]
    simp only [kn_bs, kn_if_t]
    rcases zIn_5 u2 with ⟨q, q0, q1, q2, q3, q4⟩ | q | q | q | q | q
    · rw [q, if_neg q0, if_neg q1, if_neg q2, if_neg q3, if_neg q0, if_neg q1, if_neg q2, if_neg q3, if_neg q4]; exact ⟨_, _, rfl, kW_at, fun q => absurd q z1n⟩
    all_goals subst q; exact ⟨_, _, rfl, kW_at, fun _ => rfl⟩
  · rw [h1]
    exact ⟨_, _, rfl, kW_at, fun q => absurd q z1n⟩
theorem op_4 {n : Nat} (hn : 5000 ≤ n) {μ : kbM} (hI : kbInv μ) (u1 u2 : Int32) : ∃ μ', c_law_4 n u1 u2 μ = some μ' ∧ kbInv μ' := by
  obtain ⟨A, hA, hC, hM⟩ := hI
  obtain ⟨μ1, h1, h4⟩ := cl_word (n := n) (by omega) hA hC u1 u2
  have f1 := fr_f_L_word h1
  have hC1 := hC.fr f1 (by decide) (by decide)
  have hM1 := hM.fr f1 (by decide) (by decide)
  obtain ⟨v, μ2, h2, h3, h5⟩ := md_word (n := n) (by omega) hA hM1 u1 u2
  have f2 := fr_f_MD_word h2
  refine ⟨μ2, law_int h1 h2 h3 (fun q => ?_), A, hA, hC1.fr f2 (by decide) (by decide), hM1.fr f2 (by decide) (by decide)⟩
  rw [fr_at2 f2 (by decide) (by decide), h4 q, h5 q]
def s_door (A : zA) (u1 u2 : Int32) : Int32 × Int32 := if zIn u1 A.2.2.1.length = true then (if u2 = 0 then (0, nI (zKind A.2.2.1 u1.toNatClampNeg)) else if u2 = 1 then (0, nI (zHand A.2.2.1 u1.toNatClampNeg)) else if u2 = 2 then (0, zB (zBit A.1.1.2 u1.toNatClampNeg)) else if u2 = 3 then (0, nI (zWordsOf A.1.1.1 A.2.2.1 u1.toNatClampNeg)) else if u2 = 4 then (0, nI (zConf A.1.1.1 A.2.2.1 A.1.1.2 u1.toNatClampNeg)) else (1, 0)) else (1, 0)
theorem cl_door {n : Nat} (hn : 100 ≤ n) {μ : kbM} {A : zA} (hA : zOk A) (h : rC μ A) (u1 u2 : Int32) : ∃ μ1, f_L_door n u1 u2 μ = some ((s_door A u1 u2).1, μ1) ∧ ((s_door A u1 u2).1 = 0 → μ1.2 97 0 = (s_door A u1 u2).2.toInt64) := by
  have h6 := hA.doors.1
  have hwt := hA.wet
  unfold f_L_door f_KB_door s_door jn_KB_door_76
  rw [kb_needDoor n h.doors h6]
  rcases zIn_cases u1 (c := A.2.2.1.length) (by omega) with ⟨i, hi, rfl⟩ | ⟨h1, -⟩
  · have hw := h.doors.2 i hi
    obtain ⟨μ5, e5⟩ := c_conf hn hA.H h.H hi
    rw [zIn_n (by omega), if_pos (decide_eq_true hi), if_pos (decide_eq_true hi), kn_or_r, kn_inT (by omega) (by omega), nI_clamp (by omega), hw.1, hw.2, c_wordsOf hn hA.H h.H hi, e5, st_isWet h.wet (by omega) (by omega)]
    by_cases e0 : u2 = 0
    · rw [if_pos e0, if_pos e0]; exact ⟨_, rfl, fun _ => kX_at⟩
    rw [if_neg e0, if_neg e0]
    by_cases e0 : u2 = 1
    · rw [if_pos e0, if_pos e0]; exact ⟨_, rfl, fun _ => kX_at⟩
    rw [if_neg e0, if_neg e0]
    by_cases e0 : u2 = 2
    · rw [if_pos e0, if_pos e0]
      cases zBit A.1.1.2 i
      · exact ⟨_, rfl, fun _ => kX_at⟩
      · exact ⟨_, rfl, fun _ => kX_at⟩
    rw [if_neg e0, if_neg e0]
    by_cases e0 : u2 = 3
    · rw [if_pos e0, if_pos e0]; exact ⟨_, rfl, fun _ => kX_at⟩
    rw [if_neg e0, if_neg e0]
    by_cases e0 : u2 = 4
    · rw [if_pos e0, if_pos e0]; exact ⟨_, rfl, fun _ => kX_at⟩
    rw [if_neg e0, if_neg e0]
    exact ⟨μ, rfl, fun q => absurd q z1n⟩
  · rw [h1]
    exact ⟨μ, rfl, fun q => absurd q z1n⟩
theorem md_door {n : Nat} (hn : 100 ≤ n) {μ : kbM} {A : zA} (hA : zOk A) (h0 : rM μ A) (u1 u2 : Int32) : ∃ v μ2, f_MD_door n u1 u2 μ = some (v, μ2) ∧ μ2.1 57 3 = (s_door A u1 u2).1 ∧ ((s_door A u1 u2).1 = 0 → v = (s_door A u1 u2).2) := by
  have h6 := hA.doors.1
  have hwt := hA.wet
  have h := h0.c0 0
  unfold f_MD_door s_door jn_MD_door_25 jn_MD_door_92 f_MD_fail
  rw [md_isDoor h.doors h6, kn_isIn4]
  simp only [kn_bs]
  rcases zIn_cases u1 (c := A.2.2.1.length) (by omega) with ⟨i, hi, rfl⟩ | ⟨h1, -⟩
  · have hw := h.doors.2 i hi
    rw [zIn_n (by omega), decide_eq_true hi, if_neg (show ¬ zB true = 0 by decide), if_pos rfl, kn_inT (by omega) (by omega), nI_clamp (by omega), hw.1, hw.2, m_wordsOf hn hA.H h.H hi, m_conf hn hA.H h.H hi, h.wet, kn_bitB (by omega) (by omega)]
    simp only [kn_bs, kn_if_t]
    rcases zIn_5 u2 with ⟨q, q0, q1, q2, q3, q4⟩ | q | q | q | q | q
    · rw [q, if_neg q0, if_neg q1, if_neg q2, if_neg q3, if_neg q0, if_neg q1, if_neg q2, if_neg q3, if_neg q4]; exact ⟨_, _, rfl, kW_at, fun q => absurd q z1n⟩
    all_goals subst q; exact ⟨_, _, rfl, kW_at, fun _ => rfl⟩
  · rw [h1]
    exact ⟨_, _, rfl, kW_at, fun q => absurd q z1n⟩
theorem op_5 {n : Nat} (hn : 5000 ≤ n) {μ : kbM} (hI : kbInv μ) (u1 u2 : Int32) : ∃ μ', c_law_5 n u1 u2 μ = some μ' ∧ kbInv μ' := by
  obtain ⟨A, hA, hC, hM⟩ := hI
  obtain ⟨μ1, h1, h4⟩ := cl_door (n := n) (by omega) hA hC u1 u2
  have f1 := fr_f_L_door h1
  have hC1 := hC.fr f1 (by decide) (by decide)
  have hM1 := hM.fr f1 (by decide) (by decide)
  obtain ⟨v, μ2, h2, h3, h5⟩ := md_door (n := n) (by omega) hA hM1 u1 u2
  have f2 := fr_f_MD_door h2
  refine ⟨μ2, law_int h1 h2 h3 (fun q => ?_), A, hA, hC1.fr f2 (by decide) (by decide), hM1.fr f2 (by decide) (by decide)⟩
  rw [fr_at2 f2 (by decide) (by decide), h4 q, h5 q]
