/-! rain, undo, hear, forget -/
theorem zB_inj {a b : Bool} : zB a = zB b ↔ a = b := by cases a <;> cases b <;> simp [zB]
def t_rain (A : zA) (u : Int32) (b : Bool) : zSes × Int32 × Bool := if zIn u A.2.2.1.length = true then (if zBit A.1.1.2 u.toNatClampNeg = b then (zRf A.1 1, 0, false) else (zDo A.1 (3, u.toNatClampNeg, 0, 0, 0) (A.1.1.1, A.1.1.2 ^^^ 2 ^ u.toNatClampNeg), 0, true)) else (A.1, 1, false)
theorem c_act2 {μ ν : kbM} {A : zA} {a : zAct} {w : Nat} (h : rC μ A) (h7 : ν.1 12 7 = nI w) (h5 : ν.1 12 5 = nI (zKeep A.1.2.1 a A.1.1).length) (hL : cLog ν 18 (zKeep A.1.2.1 a A.1.1)) (h6 : ν.1 12 6 = μ.1 12 6) (hs : ∀ c ∈ [0, 1, 2, 13, 14, 15, 16, 17, 19, 20, 21, 22, 23, 24, 25, 26, 27, 28, 29, 30, 31, 32, 33, 34, 35, 36, 38], ν.1 c = μ.1 c) : rC ν (zDo A.1 a (A.1.1.1, w), A.2) := by
  refine h.ses (fun c hc => hs c (by revert c; decide)) (h.1.do (h.words.cg fun c hc => hs c (by revert c; decide)) h7 h5 hL h6 (hs 19 (by decide)) (hs 20 (by decide)) (hs 21 (by decide))) ?_
  have := h.2.2.2.2.2.1
  unfold cKnown at this ⊢
  rw [hs 38 (by decide)]; exact this
theorem cl_rain {n : Nat} {μ : kbM} {A : zA} (hA : zOk A) (h : rC μ A) (u : Int32) (b : Bool) : ∃ μ1, f_L_rain n u (zB b) μ = some ((t_rain A u b).2.1, μ1) ∧ ((t_rain A u b).2.1 = 0 → μ1.2 97 0 = if (t_rain A u b).2.2 = true then 1 else 0) ∧ rC μ1 ((t_rain A u b).1, A.2) := by
  have h6 := hA.doors.1
  have hwt := hA.wet
  unfold f_L_rain f_KB_rain t_rain jn_L_rain_16
  rw [kb_needDoor n h.doors h6]
  rcases zIn_cases u (c := A.2.2.1.length) (by omega) with ⟨d, hd, rfl⟩ | ⟨h1, -⟩
  · rw [zIn_n (by omega), if_pos (decide_eq_true hd), if_pos (decide_eq_true hd), kn_or_r, st_isWet h.wet (by omega) (by omega), kn_bs, nI_clamp (by omega)]
    by_cases e : zBit A.1.1.2 d = b
    · rw [if_pos (zB_inj.mpr e), if_pos e]
      exact ⟨_, rfl, fun _ => kX_at, (c_refuse h (by decide)).kX _⟩
    · rw [if_neg (mt zB_inj.mp e), if_neg e]
      obtain ⟨x, e1, k1, k2, k3, k4⟩ := c_keep (μ := μ) (G := A.1.2.1) h.1.2.2.1 h.1.2.2.2.2.1 hA.1.2.1 (3, d, 0, 0, 0) A.1.1
      rw [show f_ST_keepAct_12 3 (nI d) 0 0 0 μ = some x from e1, kn_bs]
      unfold f_ST_turnWeather_12
      rw [k4 7 (by decide), h.wet, kn_shl1 (by omega), kn_xor]
      refine ⟨_, rfl, fun _ => kX_at, (c_act2 h kW_at ?_ ?_ ?_ ?_).kX _⟩
      · rw [kW_no (by decide)]; exact k2
      · unfold cLog at k1 ⊢; rw [kW_ne (by decide)]; exact k1
      · rw [kW_no (by decide), k4 6 (by decide)]
      · intro c hc
        rw [kW_ne (by revert c; decide), k3 c (by revert c; decide) (by revert c; decide)]
  · rw [h1]
    exact ⟨μ, rfl, fun q => absurd q z1n, h⟩
theorem md_rain {n : Nat} (hn : 2000 ≤ n) {μ : kbM} {A : zA} (hA : zOk A) (h0 : rM μ A) (u : Int32) (b : Bool) : ∃ μ2, f_MD_rain n u (zB b) μ = some (zB (t_rain A u b).2.2, μ2) ∧ μ2.1 57 3 = (t_rain A u b).2.1 ∧ rM μ2 ((t_rain A u b).1, A.2) := by
  have h6 := hA.doors.1
  have hwt := hA.wet
  have h := h0.c0 0
  unfold f_MD_rain t_rain
  rw [md_isDoor h.doors h6, kn_bs]
  rcases zIn_cases u (c := A.2.2.1.length) (by omega) with ⟨d, hd, rfl⟩ | ⟨h1, -⟩
  · rw [zIn_n (by omega), decide_eq_true hd, if_neg (show ¬ zB true = 0 by decide), if_pos rfl, h.wet, md_isOf (by omega) (by omega), kn_bs, nI_clamp (by omega)]
    by_cases e : zBit A.1.1.2 d = b
    · rw [if_pos (zB_inj.mpr e), if_pos e]
      exact ⟨_, rfl, by rw [kW_ne (by decide)]; exact kW_at, m_refuse h (by decide)⟩
    · rw [if_neg (mt zB_inj.mp e), if_neg e]
      obtain ⟨x, e1, k1, k2, k3, k4, kw, kwt⟩ := m_keepA hn hA h (3, d, 0, 0, 0)
      rw [e1, kn_bs, kwt, kn_shl1 (by omega), kn_xor]
      refine ⟨_, rfl, ?_, m_act h ?_ kW_at ?_ ?_ ?_ ?_⟩
      · rw [kW_no (by decide), k4 3 (by decide)]; exact kW_at
      · exact kw.cg (by rw [kW_no (by decide)]) (fun c hc => kW_ne (by revert c; decide))
      · rw [kW_no (by decide)]; exact k2
      · unfold mPast mPack at k1 ⊢; rw [kW_ne (by decide)]; exact k1
      · intro c hc
        rw [kW_ne (by revert c; decide), k3 c (by revert c; decide) (by revert c; decide)]
      · intro k hk
        rw [kW_no (by revert k; decide), k4 k (by revert k; decide)]
  · rw [h1]
    exact ⟨_, rfl, kW_at, h.c0 1⟩
theorem ok_rain {A : zA} (hA : zOk A) (u : Int32) (b : Bool) : zOk ((t_rain A u b).1, A.2) := by
  have h6 := hA.doors.1
  have hwt := hA.wet
  unfold t_rain
  rcases zIn_cases u (c := A.2.2.1.length) (by omega) with ⟨d, hd, rfl⟩ | ⟨h1, -⟩
  · rw [zIn_n (by omega), decide_eq_true hd, if_pos rfl, nI_clamp (by omega)]
    by_cases e : zBit A.1.1.2 d = b
    · rw [if_pos e]; exact hA.ses (zRf_ok hA.1 1)
    · rw [if_neg e]
      have hx : A.1.1.2 ^^^ 2 ^ d < 64 := by
        have h1 : 2 ^ d < 2 ^ 6 := Nat.pow_lt_pow_right (by decide) (by omega)
        exact Nat.xor_lt_two_pow (n := 6) hwt h1
      refine hA.ses (zDo_ok hA.1 ⟨hA.words, hx⟩ ⟨?_, (by show 3 ≤ 3; decide), (by show d < 2 ^ 31; omega), (by show 0 < 2 ^ 31; decide), (by show 0 ≤ 2; decide), (by show 0 ≤ 99; decide), fun q => (by simp at q), fun q => (by simp at q), fun q => (by simp at q), fun _ => hd⟩)
      show (A.1.1.1, (A.1.1.2 ^^^ 2 ^ d) ^^^ 2 ^ d) = A.1.1
      rw [Nat.xor_assoc, Nat.xor_self, Nat.xor_zero]
  · rw [h1]; exact hA
theorem op_15 {n : Nat} (hn : 5000 ≤ n) {μ : kbM} (hI : kbInv μ) (u1 u2 : Int32) : ∃ μ', c_law_15 n u1 u2 μ = some μ' ∧ kbInv μ' := by
  obtain ⟨A, hA, hC, hM⟩ := hI
  have key : ∀ b : Bool, ∃ μ1 μ2, f_L_rain n u1 (zB b) μ = some ((t_rain A u1 b).2.1, μ1) ∧ f_MD_rain n u1 (zB b) μ1 = some (zB (t_rain A u1 b).2.2, μ2) ∧ μ2.1 57 3 = (t_rain A u1 b).2.1 ∧ ((t_rain A u1 b).2.1 = 0 → μ2.2 97 0 = if (t_rain A u1 b).2.2 = true then 1 else 0) ∧ kbInv μ2 := by
    intro b
    obtain ⟨μ1, h1, h4, hC1⟩ := cl_rain (n := n) hA hC u1 b
    have f1 := fr_f_L_rain h1
    have hM1 := hM.fr f1 (by decide) (by decide)
    obtain ⟨μ2, h2, h3, hM2⟩ := md_rain (n := n) (by omega) hA hM1 u1 b
    have f2 := fr_f_MD_rain h2
    exact ⟨μ1, μ2, h1, h2, h3, fun q => by rw [fr_at2 f2 (by decide) (by decide)]; exact h4 q, _, ok_rain hA u1 b, hC1.fr f2 (by decide) (by decide), hM2⟩
  unfold c_law_15
  by_cases hu : u2 = 0
  · obtain ⟨μ1, μ2, h1, h2, h3, h4, hI⟩ := key false
    refine ⟨μ2, ?_, hI⟩
    rw [if_pos hu, show f_L_rain n u1 0 μ = _ from h1, kn_bs, if_pos hu, show f_MD_rain n u1 0 μ1 = _ from h2, kn_bs]
    unfold f_MD_thrown
    rw [kn_bs, if_pos h3]
    by_cases hc : (t_rain A u1 false).2.1 = 0
    · rw [if_pos hc]
      have q := h4 hc
      cases hb : (t_rain A u1 false).2.2
      · rw [hb] at q; simp only [q]; rfl
      · rw [hb] at q; simp only [q]; rfl
    · rw [if_neg hc]
  · obtain ⟨μ1, μ2, h1, h2, h3, h4, hI⟩ := key true
    refine ⟨μ2, ?_, hI⟩
    rw [if_neg hu, show f_L_rain n u1 1 μ = _ from h1, kn_bs, if_neg hu, show f_MD_rain n u1 1 μ1 = _ from h2, kn_bs]
    unfold f_MD_thrown
    rw [kn_bs, if_pos h3]
    by_cases hc : (t_rain A u1 true).2.1 = 0
    · rw [if_pos hc]
      have q := h4 hc
      cases hb : (t_rain A u1 true).2.2
      · rw [hb] at q; simp only [q]; rfl
      · rw [hb] at q; simp only [q]; rfl
    · rw [if_neg hc]
/-! undo -/
def t_undo (A : zA) : zSes × Int32 := match A.1.2.1.getLast? with | none => (A.1, -1) | some q => ((q.2, A.1.2.1.dropLast, A.1.2.2), nI (A.1.2.1.length - 1))
theorem t_undo_nil {A : zA} (e : A.1.2.1 = []) : t_undo A = (A.1, -1) := by unfold t_undo; rw [e]; rfl
theorem t_undo_app {A : zA} {G : List (zAct × zSt)} {q : zAct × zSt} (e : A.1.2.1 = G ++ [q]) : t_undo A = ((q.2, G, A.1.2.2), nI G.length) := by
  unfold t_undo
  rw [e]
  simp
theorem c_undo {n : Nat} (hn : 2000 ≤ n) {μ : kbM} {A : zA} (hA : zOk A) (h : rC μ A) {G : List (zAct × zSt)} {q : zAct × zSt} (e : A.1.2.1 = G ++ [q]) : ∃ ν, f_ST_undoLast_12 n μ = some ν ∧ cWords ν 13 14 15 16 17 q.2.1 ∧ ν.1 12 7 = nI q.2.2 ∧ ν.1 12 5 = nI G.length ∧ ν.1 12 6 = μ.1 12 6 ∧ ∀ c ∈ [0, 1, 2, 18, 19, 20, 21, 22, 23, 24, 25, 26, 27, 28, 29, 30, 31, 32, 33, 34, 35, 36], ν.1 c = μ.1 c := by
  have h10 := hA.words.1
  have h6 := hA.doors.1
  have hwt := hA.wet
  have hlen : A.1.2.1.length = G.length + 1 := by rw [e, List.length_append]; rfl
  have h40 := hA.1.2.1
  have hch := hA.1.2.2.2.1
  rw [e] at hch
  obtain ⟨-, hok⟩ := zChain_un hch
  have hlg := h.1.2.2.2.2.1 G.length (by omega) q (by rw [e, List.getElem?_append_right (Nat.le_refl _), Nat.sub_self]; rfl)
  rw [Nat.mul_comm] at hlg
  have h5 := h.1.2.2.1
  rw [hlen] at h5
  obtain ⟨⟨k, p, r, pt, wt⟩, s⟩ := q
  obtain ⟨ou, o1, o2, o3, o4, o5, o6, o7, o8, o9⟩ := hok
  simp only at ou o1 o2 o3 o4 o5 o6 o7 o8 o9 hlg ⊢
  have hW5 : cWords (kbW μ 12 5 (nI G.length)) 13 14 15 16 17 A.1.1.1 := h.words.cg (fun c hc => kW_ne (by revert c; decide))
  have k0 : k = 0 ∨ k = 1 ∨ k = 2 ∨ k = 3 := by omega
  unfold f_ST_undoLast_12
  simp (disch := omega) only [kn_if_t, kn_bs, kn_or_l, kn_or_r, kn_inT, nI_clamp, nI_leI, nI_ltI, nI_eq, nI_add, pk_mul, nI_1, kn_eq0, kn_lt0, kn_le0, kn_0le, kn_div, kn_rem, kn_or, kn_and, kn_or0, kn_ad0, kn_shl1, kn_bitB, zBt, zBf, zB1t, zB1f, zB_01, zB_10, kl_2, kl_3, kl_4, kl_5, kl_6, kl_7, kl_8, kl_10, kl_12, kl_13, if_pos, if_neg, ↓reduceIte, eq_self, not_true_eq_false, not_false_eq_true, Nat.add_zero, Nat.or_zero, reduceCtorEq, or_true, true_or, or_false, false_or, decide_true, decide_false, kn_sub1, sb_m1, pk_sub, kW_ne, kW_at, kW_no, kA_ne, kA_eq, ite_self, and_self, true_and, and_true, h5, hlg.1, hlg.2.1, hlg.2.2.1, hlg.2.2.2.1, hlg.2.2.2.2, jn_ST_undoLast_12_146, Nat.add_sub_cancel, kn_0lt]
  rcases k0 with rfl | rfl | rfl | rfl
  · obtain ⟨x, e1, w1⟩ := c_remove (n := n) (by omega) hW5 h10 (o6 rfl)
    have f1 := fr_f_WO_remove_13 e1
    have es : s = (A.1.1.1.eraseIdx p, A.1.1.2) := ou.symm
    rw [if_pos (show (0 : Nat) = 0 from rfl), e1, kn_bs]
    refine ⟨x, rfl, by rw [es]; exact w1, ?_, ?_, ?_, fun c hc => ?_⟩
    · rw [fr_at f1 (by decide) (by decide), kW_no (by decide), es]; exact h.wet
    · rw [fr_at f1 (by decide) (by decide), kW_at]
    · rw [fr_at f1 (by decide) (by decide), kW_no (by decide)]
    · rw [fr_at f1 (by revert c; decide) (by revert c; decide), kW_ne (by revert c; decide)]
  · have o := o7 rfl
    have hr := o.2.2.2.2
    obtain ⟨x, e1, w1⟩ := c_insert (n := n) (by omega) (pt := pt) (wt := wt) hW5 o.2.1 o.1 (show r ≤ 244140624 by omega)
    have f1 := fr_f_WO_insert_13 e1
    have es : s = (A.1.1.1.insertIdx p (r, pt, wt), A.1.1.2) := ou.symm
    rw [if_neg (show ¬ (1 : Nat) = 0 by decide), if_pos (show nI 1 = 1 from rfl), e1, kn_bs]
    refine ⟨x, rfl, by rw [es]; exact w1, ?_, ?_, ?_, fun c hc => ?_⟩
    · rw [fr_at f1 (by decide) (by decide), kW_no (by decide), es]; exact h.wet
    · rw [fr_at f1 (by decide) (by decide), kW_at]
    · rw [fr_at f1 (by decide) (by decide), kW_no (by decide)]
    · rw [fr_at f1 (by revert c; decide) (by revert c; decide), kW_ne (by revert c; decide)]
  · obtain ⟨x, e1, w1⟩ := c_change (pt := pt) (wt := wt) hW5 h10 (o8 rfl)
    have f1 := fr_f_WO_change_13 e1
    have es : s = (A.1.1.1.set p (zRowAt A.1.1.1 p, pt, wt), A.1.1.2) := ou.symm
    rw [if_neg (show ¬ (2 : Nat) = 0 by decide), if_neg (show ¬ nI 2 = 1 by decide), if_pos (show (2 : Nat) = 2 from rfl), e1, kn_bs]
    refine ⟨x, rfl, by rw [es]; exact w1, ?_, ?_, ?_, fun c hc => ?_⟩
    · rw [fr_at f1 (by decide) (by decide), kW_no (by decide), es]; exact h.wet
    · rw [fr_at f1 (by decide) (by decide), kW_at]
    · rw [fr_at f1 (by decide) (by decide), kW_no (by decide)]
    · rw [fr_at f1 (by revert c; decide) (by revert c; decide), kW_ne (by revert c; decide)]
  · have es : s = (A.1.1.1, A.1.1.2 ^^^ 2 ^ p) := ou.symm
    have hp := o9 rfl
    rw [if_neg (show ¬ (3 : Nat) = 0 by decide), if_neg (show ¬ nI 3 = 1 by decide), if_neg (show ¬ (3 : Nat) = 2 by decide)]
    unfold f_ST_turnWeather_12
    rw [kn_bs, kW_no (by decide), h.wet, kn_shl1 (by omega), kn_xor]
    refine ⟨_, rfl, ?_, ?_, ?_, ?_, fun c hc => ?_⟩
    · rw [es]; exact hW5.cg (fun c hc => kW_ne (by revert c; decide))
    · rw [kW_at, es]
    · rw [kW_no (by decide), kW_at]
    · rw [kW_no (by decide), kW_no (by decide)]
    · rw [kW_ne (by revert c; decide), kW_ne (by revert c; decide)]
theorem cLog_pre {μ : kbM} {c : Nat} {G : List (zAct × zSt)} {q : zAct × zSt} (h : cLog μ c (G ++ [q])) : cLog μ c G := by
  intro i hi z hz
  exact h i (by rw [List.length_append]; omega) z (by rw [List.getElem?_append_left hi]; exact hz)
theorem mPast_pre {μ : kbM} {c : Nat} {G : List (zAct × zSt)} {q : zAct × zSt} (h : mPast μ c (G ++ [q])) : mPast μ c G := by
  intro i hi z hz
  exact h i (by rw [List.length_append]; omega) z (by rw [List.getElem?_append_left hi]; exact hz)
theorem ok_undo {A : zA} (hA : zOk A) : zOk ((t_undo A).1, A.2) := by
  rcases zLast A.1.2.1 with e | ⟨G, q, e⟩
  · rw [t_undo_nil e]; exact hA
  · rw [t_undo_app e]
    obtain ⟨h1, h2, h3, h4, h5⟩ := hA.1
    rw [e] at h2 h3 h4
    rw [List.length_append] at h2
    exact hA.ses ⟨h3 q (by simp), (by show G.length ≤ 40; omega), fun z hz => h3 z (List.mem_append_left _ hz), (zChain_un h4).1, h5⟩
theorem cl_undo {n : Nat} (hn : 2000 ≤ n) {μ : kbM} {A : zA} (hA : zOk A) (h : rC μ A) : ∃ μ1, f_KB_undo n μ = some ((t_undo A).2, μ1) ∧ rC μ1 ((t_undo A).1, A.2) := by
  have h40 := hA.1.2.1
  unfold f_KB_undo
  rcases zLast A.1.2.1 with e | ⟨G, q, e⟩
  · rw [t_undo_nil e, h.1.2.2.1, e]
    exact ⟨μ, rfl, h⟩
  · have hlen : A.1.2.1.length = G.length + 1 := by rw [e, List.length_append]; rfl
    obtain ⟨ν, e1, w1, n7, n5, n6, ns⟩ := c_undo hn hA h e
    have hq := (hA.1.2.2.1 q (by rw [e]; simp)).1.1
    rw [t_undo_app e, h.1.2.2.1, if_neg (by rw [kn_eq0 (by omega)]; omega), e1, kn_bs, jo_renew, kn_bs, kRn_ne (by decide), n5]
    refine ⟨_, rfl, h.ses (fun c hc => ?_) ?_ (kRn_known ν hq _)⟩
    · rw [kRn_ne (by revert c; decide)]; exact ns c (by revert c; decide)
    · obtain ⟨g1, g2, g3, g4, g5, g6, g7⟩ := h.1
      rw [e] at g5
      refine ⟨w1.cg (fun c hc => kRn_ne (by revert c; decide)), by rw [kRn_ne (by decide)]; exact n7, by rw [kRn_ne (by decide)]; exact n5, by rw [kRn_ne (by decide), n6]; exact g4, ?_, ?_, ?_⟩
      · have := cLog_pre g5
        unfold cLog at this ⊢; rw [kRn_ne (by decide), ns 18 (by decide)]; exact this
      · unfold cHeard at g6 ⊢; rw [kRn_ne (by decide), kRn_ne (by decide), ns 19 (by decide), ns 20 (by decide)]; exact g6
      · rw [kRn_ne (by decide), ns 21 (by decide)]; exact g7
theorem md_undo {n : Nat} (hn : 2000 ≤ n) {μ : kbM} {A : zA} (hA : zOk A) (h0 : rM μ A) : ∃ μ1, f_MD_undo n μ = some ((t_undo A).2, μ1) ∧ rM μ1 ((t_undo A).1, A.2) := by
  have h40 := hA.1.2.1
  have h := h0.c0 0
  unfold f_MD_undo
  rcases zLast A.1.2.1 with e | ⟨G, q, e⟩
  · rw [t_undo_nil e, h.1.2.2.1, e]
    exact ⟨_, rfl, h⟩
  · have hlen : A.1.2.1.length = G.length + 1 := by rw [e, List.length_append]; rfl
    have hq := (hA.1.2.2.1 q (by rw [e]; simp)).1.1
    have hp := h.1.2.2.2.2.1 G.length (by omega) q (by rw [e, List.getElem?_append_right (Nat.le_refl _), Nat.sub_self]; rfl)
    have hp' : mPack (kbW (kbW μ 57 3 0) 57 29 (nI G.length)) 73 (32 * G.length) q.2 := hp.congr hq (fun j hj => by rw [kW_ne (by decide)])
    obtain ⟨x, e1, w1, x28, x3, x4⟩ := m_unpack_73 (n := n) (by omega) hp' hq (by omega)
    rw [t_undo_app e, h.1.2.2.1, if_neg (by rw [kn_eq0 (by omega)]; omega), kn_sub1 (by omega), hlen, Nat.add_sub_cancel, kW_at, show (32 : Int32) = nI 32 from rfl, pk_mul, e1, kn_bs, x4 29 (by decide) (by decide), kW_at]
    refine ⟨_, rfl, h.ses (fun c hc => ?_) (fun k hk => ?_) ?_⟩
    · rw [x3 c (by revert c; decide) (by revert c; decide) (by revert c; decide) (by revert c; decide), kW_ne (by revert c; decide)]
    · rw [x4 k (by revert k; decide) (by revert k; decide), kW_no (by revert k; decide)]
    · obtain ⟨g1, g2, g3, g4, g5, g6, g7⟩ := h.1
      rw [e] at g5
      have g5' := mPast_pre g5
      refine ⟨w1, x28, by rw [x4 29 (by decide) (by decide), kW_at], by rw [x4 30 (by decide) (by decide), kW_no (by decide)]; exact g4, ?_, ?_, ?_⟩
      · unfold mPast mPack at g5' ⊢; rw [x3 73 (by decide) (by decide) (by decide) (by decide), kW_ne (by decide)]; exact g5'
      · unfold cHeard at g6 ⊢; rw [x3 89 (by decide) (by decide) (by decide) (by decide), x3 90 (by decide) (by decide) (by decide) (by decide), kW_ne (by decide), kW_ne (by decide)]; exact g6
      · rw [x3 68 (by decide) (by decide) (by decide) (by decide), kW_ne (by decide)]; exact g7
theorem op_16 {n : Nat} (hn : 5000 ≤ n) {μ : kbM} (hI : kbInv μ) : ∃ μ', c_law_16 n μ = some μ' ∧ kbInv μ' := by
  obtain ⟨A, hA, hC, hM⟩ := hI
  obtain ⟨μ1, h1, hC1⟩ := cl_undo (n := n) (by omega) hA hC
  have f1 := fr_f_KB_undo h1
  have hM1 := hM.fr f1 (by decide) (by decide)
  obtain ⟨μ2, h2, hM2⟩ := md_undo (n := n) (by omega) hA hM1
  have f2 := fr_f_MD_undo h2
  refine ⟨μ2, ?_, _, ok_undo hA, hC1.fr f2 (by decide) (by decide), hM2⟩
  unfold c_law_16
  rw [h1, kn_bs]
  simp only
  rw [h2, kn_bs, if_pos rfl]
