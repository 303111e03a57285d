theorem m_handloop {n : Nat} {μ0 : kbM} {x : pX} {μ : kbM} {s : pS} (hs : mSs μ0 μ x s) (ho : tOk' x s) (hsn : pSnd x s.1.2.1 s.1.2.2 = true) {μ4 : kbM} (e4 : f_MD_wrong (nI 4) μ = some μ4) (r4 : mFf μ0 μ4 4 s.1.2.1) (v1 v2 : Int32) : ∀ j k i v, i + j = s.1.2.2 → j + 1 < k → v < 16 → s.1.2.1 ≤ i → (∀ h, pHd x.1 j i v = some h → lp_MD_readDoor_46 n v1 v2 k (nI v) (nI i) μ = some (nI h, μ)) ∧ (pHd x.1 j i v = none → ∃ w, lp_MD_readDoor_46 n v1 v2 k (nI v) (nI i) μ = some (w, μ4)) := by
  have hx := ho.1
  have hx6 := ho.1.1
  have t1 := ho.2.1.1
  have t2 := ho.2.1.2.1
  have k9 := hs.2.2.1.2.2.1
  intro j
  induction j with
  | zero =>
    intro k i v h1 h2 h3 h4
    obtain ⟨k, rfl⟩ : ∃ z, k = z + 1 := ⟨k - 1, by omega⟩
    refine ⟨fun h e => ?_, fun e => by cases e⟩
    cases e
    simp only [lp_MD_readDoor_46]
    rw [if_pos hs.2.1, k9, if_pos (by rw [nI_leI (by omega) (by omega)]; omega)]
  | succ j ih =>
    intro k i v h1 h2 h3 h4
    obtain ⟨k, rfl⟩ : ∃ z, k = z + 1 := ⟨k - 1, by omega⟩
    have hb := hx.2 i (by omega)
    have sz := pSnd_at hsn h4 (by omega)
    have sl := sndN_le (x.1 i)
    obtain ⟨b1, b2⟩ := hb_ok (sndN (x.1 i)) (by omega) (by omega)
    obtain ⟨o1, o2⟩ := or16 v h3 (sndN (x.1 i) - 1) (by omega)
    have start : lp_MD_readDoor_46 n v1 v2 (k + 1) (nI v) (nI i) μ = if zBit v (sndN (x.1 i) - 1) = true then lp_MD_readDoor_46 n v1 v2 k (nI (v ||| 2 ^ (sndN (x.1 i) - 1))) (nI (i + 1)) μ4 else lp_MD_readDoor_46 n v1 v2 k (nI (v ||| 2 ^ (sndN (x.1 i) - 1))) (nI (i + 1)) μ := by
      rw [lp_MD_readDoor_46]
      unfold jn_MD_readDoor_90
      rw [if_pos hs.2.1, k9, if_neg (by rw [nI_leI (by omega) (by omega)]; omega), kn_inT (by omega) (by omega), kn_if_t, nI_clamp (by omega), hs.1.2 _ (by omega), md_snd hb, kn_bs, b2, kn_or, nI_1]
      cases hz : zBit v (sndN (x.1 i) - 1)
      · rw [if_pos (o2.mpr hz), if_neg Bool.false_ne_true]
      · rw [if_neg (fun z => by rw [o2.mp z] at hz; cases hz), if_pos rfl, kl_4, e4, kn_bs]
    rw [start]
    simp only [pHd]
    cases hz : zBit v (sndN (x.1 i) - 1)
    · rw [if_neg Bool.false_ne_true, if_neg Bool.false_ne_true]
      exact ih k (i + 1) _ (by omega) (by omega) o1 (by omega)
    · rw [if_pos rfl, if_pos rfl]
      refine ⟨(fun h e => by cases e), fun _ => ⟨nI (v ||| 2 ^ (sndN (x.1 i) - 1)), ?_⟩⟩
      obtain ⟨k, rfl⟩ : ∃ z, k = z + 1 := ⟨k - 1, by omega⟩
      simp only [lp_MD_readDoor_46]
      rw [if_neg r4.ne]
theorem m_door {n : Nat} (hn : 1000 ≤ n) {μ0 : kbM} {x : pX} {μ : kbM} {s : pS} (hs : mSs μ0 μ x s) (ho : tOk' x s) (hb : bOk s.2) {wd : Nat} (hwd : wd ≤ 3) : ∃ μ', f_MD_readDoor n (nI wd) μ = some μ' ∧ mRr μ0 μ' x (pDoor x wd s) := by
  have hD := hb.2.2
  have hd6 := hD.1
  have hx6 := ho.1.1
  unfold f_MD_readDoor pDoor
  rw [hs.2.2.2.1.2.2.1, kl_6]
  by_cases hl : 6 ≤ s.2.2.2.length
  · obtain ⟨μ', e1, r1⟩ := m_wrong hs (c := 2) (by decide) (by decide)
    rw [if_pos (by rw [nI_eq (by omega) (by decide)]; omega), if_pos hl, kl_2, e1, kn_bs]
    unfold jn_MD_readDoor_18
    rw [if_neg r1.ne]
    exact ⟨μ', rfl, r1⟩
  · rw [if_neg (by rw [nI_eq (by omega) (by decide)]; omega), if_neg hl]
    unfold jn_MD_readDoor_18 pDr1
    obtain ⟨μ1, e1, r1⟩ := m_adv hn hs ho.1 ho.2.1.2.1
    obtain ⟨a1, a2⟩ := pAdv_tok ho
    have t1 := a1.2.1.1
    have t2 := a1.2.1.2.1
    obtain ⟨s1, s2, s3⟩ := m_sounds hn r1 a1
    rw [if_pos hs.2.1, e1, kn_bs]
    by_cases h1 : (pAdv x s).1.1 = 1
    · rw [if_pos h1]
      cases hsn : pSnd x (pAdv x s).1.2.1 (pAdv x s).1.2.2
      · obtain ⟨μ', e2, r2⟩ := s2 h1 hsn
        rw [if_neg Bool.false_ne_true, e2, kn_bs, if_pos rfl]
        exact ⟨μ', rfl, r2⟩
      · rw [s1 h1 hsn, kn_bs, if_pos rfl, if_neg (show ¬ (1 : Int32) = 0 by decide)]
        dsimp only
        obtain ⟨μ4, e4, r4⟩ := m_wrong r1 (c := 4) (by decide) (by decide)
        obtain ⟨L1, L2⟩ := m_handloop (n := n) r1 a1 hsn e4 r4 (nI wd) (nI s.2.2.2.length) ((pAdv x s).1.2.2 - (pAdv x s).1.2.1) n (pAdv x s).1.2.1 0 (by omega) (by omega) (by decide) (Nat.le_refl _)
        rw [r1.2.2.1.2.1, show (0 : Int32) = nI 0 from rfl]
        unfold jn_MD_readDoor_101
        cases hh : pHd x.1 ((pAdv x s).1.2.2 - (pAdv x s).1.2.1) (pAdv x s).1.2.1 0 with
        | none =>
          obtain ⟨w, e5⟩ := L2 hh
          rw [e5, kn_bs]
          dsimp only
          rw [if_neg r4.ne]
          exact ⟨μ4, rfl, r4⟩
        | some h =>
          obtain ⟨μ2, e2, r2⟩ := m_adv hn r1 a1.1 t2
          rw [L1 h hh, kn_bs]
          dsimp only
          obtain ⟨c1, c2, c3, ⟨o1, o2, ⟨o3, o3'⟩⟩, l1, l2, l3⟩ := r2
          have o3s : μ2.1 61 4 = nI s.2.2.2.length := o3
          rw [if_pos r1.2.1, e2, kn_bs, kl_6, nI_add, kn_inT (by omega) (by omega), kn_if_t, kn_if_t, nI_clamp (by omega)]
          refine ⟨_, rfl, ?_, ?_, ?_, ⟨?_, ?_, ⟨?_, fun i hi => ?_⟩⟩, fun k hk => ?_, fun k hk => ?_, ?_⟩
          · unfold mTx at c1 ⊢; rw [kW_ne (by decide), kW_ne (by decide), kW_ne (by decide), kW_ne (by decide), kW_ne (by decide), kW_ne (by decide)]; exact c1
          · rw [kW_ne (by decide), kW_ne (by decide), kW_ne (by decide)]; exact c2
          · unfold mKt at c3 ⊢; rw [kW_ne (by decide), kW_ne (by decide), kW_ne (by decide)]; exact c3
          · refine ⟨?_, ?_⟩
            · rw [kW_no (by decide), kW_ne (by decide), kW_ne (by decide)]; exact o1.1
            · rw [kW_ne (by decide), kW_ne (by decide), kW_ne (by decide)]; exact o1.2
          · refine ⟨?_, ?_⟩
            · rw [kW_no (by decide), kW_ne (by decide), kW_ne (by decide)]; exact o2.1
            · rw [kW_ne (by decide), kW_ne (by decide), kW_ne (by decide), kW_ne (by decide), kW_ne (by decide), kW_ne (by decide), kW_ne (by decide), kW_ne (by decide), kW_ne (by decide)]; exact o2.2
          · rw [kW_at, kW_ne (by decide), kW_ne (by decide), o3s, nI_1]; exact congrArg nI (zD_app _ _).1.symm
          · have hi' : i < s.2.2.2.length + 1 := by rw [← (zD_app _ _).1]; exact hi
            unfold zKind zHand
            have g := (zD_app s.2.2.2 (wd, h)).2 i hi'
            show _ = nI (((s.2.2.2 ++ [_]).getD i (0, 0)).1) ∧ _ = nI (((s.2.2.2 ++ [_]).getD i (0, 0)).2)
            rw [g]
            by_cases h : i = s.2.2.2.length
            · rw [if_pos h, h]
              simp (disch := omega) only [kn_if_t, kn_bs, kn_or_l, kn_or_r, kn_inT, nI_clamp, nI_leI, nI_ltI, nI_eq, nI_add, pk_mul, nI_1, kn_eq0, kn_lt0, kn_le0, kn_0le, kn_div, kn_rem, kn_or, kn_and, kn_or0, kn_ad0, kn_shl1, kn_bitB, zBt, zBf, zB1t, zB1f, zB_01, zB_10, kl_2, kl_3, kl_4, kl_5, kl_6, kl_7, kl_8, kl_10, kl_12, kl_13, if_pos, if_neg, ↓reduceIte, eq_self, not_true_eq_false, not_false_eq_true, Nat.add_zero, Nat.or_zero, reduceCtorEq, or_true, true_or, or_false, false_or, decide_true, decide_false, kn_sub1, sb_m1, pk_sub, kW_ne, kW_at, kW_no, kA_ne, kA_eq, ite_self, and_self, true_and, and_true]
            · have w := o3' i (show i < s.2.2.2.length by omega)
              unfold zKind zHand at w
              rw [if_neg h]
              simp (disch := omega) only [kn_if_t, kn_bs, kn_or_l, kn_or_r, kn_inT, nI_clamp, nI_leI, nI_ltI, nI_eq, nI_add, pk_mul, nI_1, kn_eq0, kn_lt0, kn_le0, kn_0le, kn_div, kn_rem, kn_or, kn_and, kn_or0, kn_ad0, kn_shl1, kn_bitB, zBt, zBf, zB1t, zB1f, zB_01, zB_10, kl_2, kl_3, kl_4, kl_5, kl_6, kl_7, kl_8, kl_10, kl_12, kl_13, if_pos, if_neg, ↓reduceIte, eq_self, not_true_eq_false, not_false_eq_true, Nat.add_zero, Nat.or_zero, reduceCtorEq, or_true, true_or, or_false, false_or, decide_true, decide_false, kn_sub1, sb_m1, pk_sub, kW_ne, kW_at, kW_no, kA_ne, kA_eq, ite_self, and_self, true_and, and_true]
              exact w
          · rw [kW_no (by omega), kW_ne (by decide), kW_ne (by decide)]; exact l1 k hk
          · rw [kW_ne (by decide), kW_ne (by decide), kW_no (by omega), kW_ne (by decide), kW_no (by omega), kW_ne (by decide)]; exact l2 k hk
          · rw [kW_ne (by decide), kW_ne (by decide), kW_ne (by decide)]; exact l3
    · obtain ⟨μ', e2, r2⟩ := s3 h1
      rw [if_neg h1, e2, kn_bs, if_pos rfl]
      exact ⟨μ', rfl, r2⟩
def cdf (s : pS) : Int32 := zB (decide (s.2.1.length ≠ 0))
theorem pWord_c {x : pX} {pt : Nat} {s s' : pS} (e : pWord x pt s = .inr s') : s'.2.1 = s.2.1 := by
  unfold pWord at e
  split at e
  · cases e
  · unfold pWd1 at e
    split at e
    · split at e
      · split at e
        · split at e
          · unfold pWd2 at e
            split at e
            · split at e
              · cases e; rfl
              · cases e
            · cases e
          · cases e
        · cases e
      · cases e
    · cases e
theorem pDoor_c {x : pX} {wd : Nat} {s s' : pS} (e : pDoor x wd s = .inr s') : s'.2.1 = s.2.1 := by
  unfold pDoor at e
  split at e
  · cases e
  · unfold pDr1 at e
    split at e
    · split at e
      · split at e
        · cases e; rfl
        · cases e
      · cases e
    · cases e
theorem pJn_c {x : pX} {s s' : pS} (ho : tOk' x s) (e : pJn x s = .inr s') : s'.2.1.length ≠ 0 := by
  unfold pJn at e
  split at e
  · rename_i hc
    obtain ⟨q1, q2, X, q3, q4, q5, q6⟩ := gd_e x 8 0 (by decide) _ _ (pAdv_tok ho).1 e
    have hz := q6 0 (Nat.le_refl _)
    rw [q3, List.length_append]
    intro h
    have : X = [] := List.length_eq_zero_iff.mp (by omega)
    rw [this] at hz
    cases hz
  · cases e
theorem pSign_c {x : pX} {c : Nat} {s s' : pS} (e : pSign x c s = .inr s') : s'.2.1 = s.2.1 := by
  unfold pSign at e
  split at e
  · cases e; rfl
  · cases e
theorem ln_pLn {x : pX} : ln x (pLn x) := by
  intro s s' ho hb h0 e
  unfold pLn at e
  split at e
  · rename_i p hp
    have := zFind_lt _ _ _ _ _ hp
    exact ln_word (by omega) s s' ho hb h0 e
  · split at e
    · rename_i w hw
      have := zFind_lt _ _ _ _ _ hw
      exact ln_door (by omega) s s' ho hb h0 e
    · split at e
      · exact ln_join s s' ho hb h0 e
      · cases e
theorem m_line {n : Nat} (hn : 1000 ≤ n) {μ0 : kbM} {x : pX} {μ : kbM} {s : pS} (hs : mSs μ0 μ x s) (ho : tOk' x s) (hb : bOk s.2) (h0 : s.1.1 ≠ 0) : ∃ v μ', f_MD_readLine n (cdf s) μ = some (v, μ') ∧ mRr μ0 μ' x (pLine x s) ∧ ∀ s', pLine x s = .inr s' → v = cdf s' := by
  have S := m_mark hn μ0 x (c := 59) (by decide) (by decide)
  have L : ∃ v μ1, mRr μ0 μ1 x (pLn x s) ∧ f_MD_readLine n (cdf s) μ = ((f_MD_mark n (nI 59) μ1).bind fun z => some (v, z)) ∧ ∀ s', pLn x s = .inr s' → v = cdf s' := by
    unfold f_MD_readLine jn_MD_readLine_93 jn_MD_readLine_38 jn_MD_readLine_49
    rw [m_part (by omega) hs ho, kn_bs, m_wood (by omega) hs ho, kn_bs, m_is (by omega) hs ho (by decide), kn_bs]
    cases hj : pNm x 31 s
    · rw [if_pos zF0]
      unfold pLn
      rw [hj]
      cases hp : pPart x s with
      | some p =>
        have pl := zFind_lt _ _ _ _ _ hp
        obtain ⟨μ1, e1, r1⟩ := m_word hn hs ho hb (pt := p) (by omega)
        dsimp only
        rw [show zFdI (some p) = nI p from rfl, if_neg (by rw [kn_nm1 (by omega)]; exact id), e1, kn_bs]
        exact ⟨cdf s, μ1, r1, rfl, fun s' e => by unfold cdf; rw [pWord_c e]⟩
      | none =>
        dsimp only
        rw [show zFdI none = -1 from rfl, if_pos rfl]
        cases hw : pWood x s with
        | some w =>
          have wl := zFind_lt _ _ _ _ _ hw
          obtain ⟨μ1, e1, r1⟩ := m_door hn hs ho hb (wd := w) (by omega)
          dsimp only
          rw [show zFdI (some w) = nI w from rfl, if_neg (by rw [kn_nm1 (by omega)]; exact id), e1, kn_bs]
          exact ⟨cdf s, μ1, r1, rfl, fun s' e => by unfold cdf; rw [pDoor_c e]⟩
        | none =>
          obtain ⟨μ1, e1, r1⟩ := m_wrong hs (c := 1) (by decide) (by decide)
          dsimp only
          rw [show zFdI none = -1 from rfl, if_pos rfl, kn_1, e1, kn_bs, if_neg Bool.false_ne_true]
          exact ⟨cdf s, μ1, r1, rfl, (fun s' e => by cases e)⟩
    · obtain ⟨j1, j2⟩ := pPart_join hj
      have E := m_e hn μ0 x 8 0 (by decide) (by decide)
      rw [if_neg zT0]
      unfold pLn
      rw [j1, j2, hj]
      dsimp only
      rw [if_pos rfl]
      have hv : ∀ s', pJn x s = .inr s' → (1 : Int32) = cdf s' := fun s' e => by
        unfold cdf
        rw [decide_eq_true (pJn_c ho e)]
        rfl
      by_cases hc : s.2.1.length = 0
      · have c0 : cdf s = 0 := by unfold cdf; rw [decide_eq_false (fun q => q hc)]; rfl
        obtain ⟨μ1, e1, r1⟩ := m_adv hn hs ho.1 ho.2.1.2.1
        have rr := tReal ho h0
        obtain ⟨a1, a2⟩ := pAdv_tok ho
        obtain ⟨μ2, e2, r2⟩ := E.1 μ1 _ r1 ⟨a1, by omega⟩
        have e2' : F_MD_readExpression n 8 0 μ1 = some μ2 := e2
        rw [c0, if_neg (by decide), if_pos hs.2.1, e1, kn_bs, e2', kn_bs]
        refine ⟨1, μ2, ?_, rfl, hv⟩
        unfold pJn
        rw [if_pos hc]
        exact r2
      · have c1 : cdf s = 1 := by unfold cdf; rw [decide_eq_true hc]; rfl
        obtain ⟨μ1, e1, r1⟩ := m_wrong hs (c := 5) (by decide) (by decide)
        have e2' : F_MD_readExpression n 8 0 μ1 = some μ1 := E.2 μ1 _ _ r1
        rw [c1, if_pos rfl, kl_5, e1, kn_bs, if_neg r1.ne, e2', kn_bs]
        refine ⟨1, μ1, ?_, rfl, hv⟩
        unfold pJn
        rw [if_neg hc]
        exact r1
  obtain ⟨v, μ1, r1, e1, hv⟩ := L
  rw [e1]
  unfold pLine
  cases hp : pLn x s with
  | inl z =>
    rw [hp] at r1
    rw [S.2 μ1 _ _ r1, kn_bs]
    exact ⟨v, μ1, rfl, r1, (fun s' e => by cases e)⟩
  | inr s1 =>
    rw [hp] at r1
    obtain ⟨b1, b2, b3⟩ := ln_pLn s s1 ho hb h0 hp
    obtain ⟨μ2, e2, r2⟩ := S.1 μ1 s1 r1 ⟨b1, by omega⟩
    rw [e2, kn_bs]
    refine ⟨v, μ2, rfl, r2, fun s' e => ?_⟩
    rw [hv s1 hp]
    unfold cdf
    rw [pSign_c e]
theorem m_lines {n : Nat} (hn : 1000 ≤ n) {μ0 : kbM} {x : pX} : ∀ j k μ s, x.2 - s.1.2.1 ≤ j → x.2 - s.1.2.1 < k → mSs μ0 μ x s → tOk' x s → bOk s.2 → ∃ μ', lp_MD_book_76 n k (cdf s) μ = some μ' ∧ mRr μ0 μ' x (pLines x j s) := by
  have stop : ∀ k μ s, mSs μ0 μ x s → tOk' x s → s.1.1 = 0 → lp_MD_book_76 n (k + 1) (cdf s) μ = some μ := fun k μ s hs ho h0 => by
    simp only [lp_MD_book_76]
    rw [if_pos hs.2.1, if_pos (show μ.1 57 16 = 0 by rw [kn_0, m_kind hs ho (by decide)]; exact h0)]
  intro j
  induction j with
  | zero =>
    intro k μ s h1 h2 hs ho hb
    obtain ⟨k, rfl⟩ : ∃ z, k = z + 1 := ⟨k - 1, by omega⟩
    have h0 : s.1.1 = 0 := by
      rcases ho.2.1.2.2.1 with q | q
      · exact q
      · have := ho.2.1.2.1; omega
    exact ⟨μ, stop k μ s hs ho h0, hs⟩
  | succ j ih =>
    intro k μ s h1 h2 hs ho hb
    obtain ⟨k, rfl⟩ : ∃ z, k = z + 1 := ⟨k - 1, by omega⟩
    simp only [pLines]
    by_cases h0 : s.1.1 = 0
    · rw [if_pos h0]
      exact ⟨μ, stop k μ s hs ho h0, hs⟩
    · rw [if_neg h0]
      have rr := tReal ho h0
      have t2 := ho.2.1.2.1
      obtain ⟨v, μ1, e1, r1, hv⟩ := m_line hn hs ho hb h0
      simp only [lp_MD_book_76]
      rw [if_pos hs.2.1, if_neg (show ¬ μ.1 57 16 = 0 by rw [kn_0, m_kind hs ho (by decide)]; exact h0), e1, kn_bs]
      dsimp only
      cases hp : pLine x s with
      | inl z =>
        rw [hp] at r1
        have r1' : mFf μ0 μ1 z.1 z.2 := r1
        obtain ⟨k, rfl⟩ : ∃ z, k = z + 1 := ⟨k - 1, by omega⟩
        refine ⟨μ1, ?_, r1⟩
        simp only [lp_MD_book_76]
        rw [if_neg r1'.ne]
      | inr s1 =>
        rw [hp] at r1
        obtain ⟨a, b, d⟩ := ln_line s s1 ho hb h0 hp
        rw [hv s1 hp]
        exact ih k μ1 s1 (by omega) (by omega) r1 a b
