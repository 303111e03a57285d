def pHdO (x : pX) (s : pS) : Option Nat := pHd x.1 (s.1.2.2 - s.1.2.1) s.1.2.1 0
def pHdF (x : pX) (s : pS) : Nat := if s.1.1 = 1 then (if pSnd x s.1.2.1 s.1.2.2 = true then (match pHdO x s with | some _ => 0 | none => 4) else 3) else 1
theorem pDr1_eq (x : pX) (wd : Nat) (s : pS) : pDr1 x wd s = if pHdF x s = 0 then .inr ((pAdv x s).1, s.2.1, s.2.2.1, s.2.2.2 ++ [(wd, (pHdO x s).getD 0)]) else pFail (pHdF x s) s := by
  unfold pDr1 pHdF
  rw [show pHd x.1 (s.1.2.2 - s.1.2.1) s.1.2.1 0 = pHdO x s from rfl]
  cases h : pHdO x s
  · by_cases h1 : s.1.1 = 1
    · rw [if_pos h1, if_pos h1]
      cases pSnd x s.1.2.1 s.1.2.2
      · rfl
      · rfl
    · rw [if_neg h1, if_neg h1]; rfl
  · by_cases h1 : s.1.1 = 1
    · rw [if_pos h1, if_pos h1]
      cases pSnd x s.1.2.1 s.1.2.2
      · rfl
      · rfl
    · rw [if_neg h1, if_neg h1]; rfl
theorem hb_ok : ∀ q, q < 5 → 0 < q → f_RO_handBit (nI q) = some (nI (2 ^ (q - 1))) ∧ kbShl 1 (nI q - 1) = nI (2 ^ (q - 1)) := by decide +kernel
theorem c_handloop {n : Nat} {x : pX} {μ : kbM} {s : pS} (hs : cS μ x s) (ho : tOk' x s) (hsn : pSnd x s.1.2.1 s.1.2.2 = true) : ∀ j k i v, i + j = s.1.2.2 → j < k → v < 16 → s.1.2.1 ≤ i → lp_BT_handTold_16 n μ k (nI v) (nI i) = match pHd x.1 j i v with | some h => some (.inr (nI h)) | none => (f_BT_fail 4 μ).bind fun x5 => some (.inl (x5.1, x5.2)) := by
  have hx := ho.1
  have hx6 := ho.1.1
  have t1 := ho.2.1.1
  have t2 := ho.2.1.2.1
  have k9 := hs.1.2.2.2.2.2.2
  intro j
  induction j with
  | zero =>
    intro k i v h1 h2 h3 h4
    obtain ⟨k, rfl⟩ : ∃ z, k = z + 1 := ⟨k - 1, by omega⟩
    simp only [lp_BT_handTold_16, pHd]
    rw [k9, if_pos (by rw [nI_leI (by omega) (by omega)]; omega)]
  | succ j ih =>
    intro k i v h1 h2 h3 h4
    obtain ⟨k, rfl⟩ : ∃ z, k = z + 1 := ⟨k - 1, by omega⟩
    have hb := hx.2 i (by omega)
    have sz := pSnd_at hsn h4 (by omega)
    have sl := sndN_le (x.1 i)
    obtain ⟨b1, b2⟩ := hb_ok (sndN (x.1 i)) (by omega) (by omega)
    obtain ⟨o1, o2⟩ := or16 v h3 (sndN (x.1 i) - 1) (by omega)
    simp only [lp_BT_handTold_16, pHd]
    rw [k9, if_neg (by rw [nI_leI (by omega) (by omega)]; omega), bt_byte hx hs.1.1 (by omega), kn_bs, bt_snd hb, kn_bs, b1, kn_bs]
    cases hz : zBit v (sndN (x.1 i) - 1)
    · rw [if_pos (o2.mpr hz), if_neg Bool.false_ne_true, kn_or, nI_1]
      exact ih k (i + 1) _ (by omega) (by omega) o1 (by omega)
    · rw [if_neg (fun z => by rw [o2.mp z] at hz; cases hz), if_pos rfl]
theorem cF.hand {n : Nat} {μ : kbM} {f q : Nat} (h : cF μ f q) : f_BT_handTold n μ = some (0, μ) := by
  unfold f_BT_handTold
  rw [h.sounds, kn_bs, if_pos rfl]
theorem c_hand {n : Nat} (hn : 1000 ≤ n) {x : pX} {μ : kbM} {s : pS} (hs : cS μ x s) (ho : tOk' x s) : (pHdF x s = 0 → f_BT_handTold n μ = some (nI ((pHdO x s).getD 0), μ)) ∧ (pHdF x s ≠ 0 → ∃ μ', f_BT_handTold n μ = some (0, μ') ∧ cF μ' (pHdF x s) s.1.2.1) := by
  have hx6 := ho.1.1
  have t1 := ho.2.1.1
  have t2 := ho.2.1.2.1
  have k8 := hs.1.2.2.2.2.2.1
  obtain ⟨s1, s2, s3⟩ := c_sounds hn hs ho
  unfold f_BT_handTold pHdF
  by_cases h1 : s.1.1 = 1
  · rw [if_pos h1]
    cases hsn : pSnd x s.1.2.1 s.1.2.2
    · obtain ⟨μ', e1, r1⟩ := s2 h1 hsn
      rw [if_neg Bool.false_ne_true, e1, kn_bs, if_pos rfl]
      exact ⟨(fun q => by cases q), fun _ => ⟨μ', rfl, r1⟩⟩
    · rw [s1 h1 hsn, kn_bs, if_pos rfl, if_neg (show ¬ (1 : Int32) = 0 by decide)]
      dsimp only
      have L := c_handloop (n := n) hs ho hsn (s.1.2.2 - s.1.2.1) n s.1.2.1 0 (by omega) (by omega) (by decide) (Nat.le_refl _)
      rw [show pHd x.1 (s.1.2.2 - s.1.2.1) s.1.2.1 0 = pHdO x s from rfl] at L
      rw [k8, show (0 : Int32) = nI 0 from rfl, L]
      cases hh : pHdO x s with
      | some h =>
        exact ⟨fun _ => rfl, fun q => absurd rfl q⟩
      | none =>
        obtain ⟨μ', e1, r1⟩ := c_fail hs (c := 4) (by decide) (by decide)
        dsimp only
        rw [kl_4, e1, kn_bs]
        exact ⟨(fun q => by cases q), fun _ => ⟨μ', rfl, r1⟩⟩
  · obtain ⟨μ', e1, r1⟩ := s3 h1
    rw [if_neg h1, e1, kn_bs, if_pos rfl]
    exact ⟨(fun q => by cases q), fun _ => ⟨μ', rfl, r1⟩⟩
theorem c_ins3 {n : Nat} (hn : 1000 ≤ n) {μ : kbM} {W : zW} {r pt wt : Nat} (hc : cWords μ 3 4 5 6 7 W) (hl : W.length < 10) (hr : r ≤ 244140624) : f_WO_insert_3 n (nI W.length) (nI r) (nI pt) (nI wt) μ = some (kbW (kbW (kbW (kbW (kbW μ 4 W.length (nI r)) 5 W.length (nI (zSize r))) 6 W.length (nI pt)) 7 W.length (nI wt)) 3 4 (nI (W.length + 1))) := by
  have e : lp_WO_insert_3_28 n (nI W.length) (nI r) (nI pt) (nI wt) n (nI W.length) μ = some μ := by
    obtain ⟨k, hk⟩ : ∃ z, n = z + 1 := ⟨n - 1, by omega⟩
    rw [show lp_WO_insert_3_28 n (nI W.length) (nI r) (nI pt) (nI wt) n (nI W.length) μ = lp_WO_insert_3_28 n (nI W.length) (nI r) (nI pt) (nI wt) (k + 1) (nI W.length) μ by rw [← hk]]
    simp only [lp_WO_insert_3_28]
    rw [if_pos (by rw [nI_leI (by omega) (by omega)]; omega)]
  unfold f_WO_insert_3
  rw [hc.1, kl_10, if_neg (by rw [nI_leI (by decide) (by omega)]; omega), if_neg (nI_pos (by omega)), if_pos (by rw [nI_leI (by omega) (by omega)]; omega), e, kn_bs, kn_inT hl (by omega), kn_if_t, ro_size (by omega) hr, kn_bs, kn_if_t, kn_if_t, kn_if_t, nI_clamp (by omega), kW_ne (by decide), kW_ne (by decide), kW_ne (by decide), kW_ne (by decide), hc.1, nI_1]
theorem zW_ins (W : zW) (q : Nat × Nat × Nat) : (W.insertIdx W.length q).length = W.length + 1 ∧ ∀ i, i < W.length + 1 → (W.insertIdx W.length q).getD i (0, 0, 0) = if i = W.length then q else W.getD i (0, 0, 0) := by
  refine ⟨List.length_insertIdx_of_le_length (Nat.le_refl _) _, fun i hi => ?_⟩
  rw [zIns_at _ _ W.length W (Nat.le_refl _) i]
  by_cases h : i = W.length
  · rw [if_neg (by omega), if_pos h, if_pos h]
  · rw [if_pos (by omega), if_neg h]
theorem c_word {n : Nat} (hn : 1000 ≤ n) {x : pX} {μ : kbM} {s : pS} (hs : cS μ x s) (ho : tOk' x s) (hb : bOk s.2) {pt : Nat} (hpt : pt ≤ 2) : ∃ μ', f_BT_wordLine n (nI pt) μ = some μ' ∧ cR μ' x (pWord x pt s) := by
  have hW := hb.2.1
  have h10 := hW.1
  have fault : ∀ {ν : kbM} {f q : Nat}, cF ν f q → jn_BT_wordLine_18 n (nI pt) ν = some ν := fun {ν f q} h => by
    unfold jn_BT_wordLine_18 jn_BT_wordLine_64
    rw [h.adv, kn_bs, h.row, kn_bs]
    dsimp only
    rw [h.adv, kn_bs, h.worth, kn_bs]
    dsimp only
    rw [h.adv, kn_bs, if_neg h.ne]
  unfold f_BT_wordLine pWord
  rw [hs.2.2.1.1, kl_10]
  by_cases hl : 10 ≤ s.2.2.1.length
  · obtain ⟨μ', e1, r1⟩ := c_fail hs (c := 2) (by decide) (by decide)
    rw [if_neg (by rw [nI_ltI (by omega) (by decide)]; omega), if_pos hl, kl_2, e1, kn_bs]
    exact ⟨μ', fault r1, r1⟩
  · rw [if_pos (by rw [nI_ltI (by omega) (by decide)]; omega), if_neg hl, pWd1_eq]
    unfold jn_BT_wordLine_18 jn_BT_wordLine_64
    obtain ⟨μ1, e1, r1⟩ := c_adv hn hs ho.1 ho.2.1.2.1
    obtain ⟨a1, a2⟩ := pAdv_tok ho
    obtain ⟨w1, w2⟩ := c_row hn r1 a1 hW
    rw [e1, kn_bs]
    by_cases hf : pRwF x (pAdv x s) = 0
    · rw [w1 hf, kn_bs, if_pos hf, pWd2_eq]
      dsimp only
      obtain ⟨μ2, e2, r2⟩ := c_adv hn r1 a1.1 a1.2.1.2.1
      obtain ⟨b1, b2⟩ := pAdv_tok a1
      obtain ⟨v1, v2⟩ := c_worth hn r2 b1
      have hrw : pRow x (pAdv x s).1.2.1 (pAdv x s).1.2.2 ≤ 244140624 := by
        unfold pRwF at hf
        split at hf
        · rename_i k1
          split at hf
          · rename_i hsn
            split at hf
            · rename_i h6
              have := (pRow_word hsn (tReal a1 (by omega)) h6).2.2
              omega
            · cases hf
          · cases hf
        · cases hf
      rw [e2, kn_bs]
      by_cases hg : pWtF x (pAdv x (pAdv x s)) = 0
      · rw [v1 hg, kn_bs, if_pos hg]
        dsimp only
        obtain ⟨μ3, e3, r3⟩ := c_adv hn r2 b1.1 b1.2.1.2.1
        obtain ⟨k, o1, o2, o3⟩ := r3
        have o2' : cWords μ3 3 4 5 6 7 s.2.2.1 := o2
        rw [e3, kn_bs, if_pos k.2.2.1, o2'.1, c_ins3 hn o2' (by omega) hrw, kn_bs]
        refine ⟨_, rfl, ?_, ?_, ⟨?_, fun i hi => ?_⟩, ?_⟩
        · unfold cKk cTx at k ⊢
          rw [kW_ne (by decide), kW_ne (by decide), kW_ne (by decide), kW_ne (by decide), kW_ne (by decide), kW_ne (by decide), kW_ne (by decide), kW_ne (by decide), kW_ne (by decide), kW_ne (by decide)]
          exact k
        · rw [kW_ne (by decide), kW_ne (by decide), kW_ne (by decide), kW_ne (by decide), kW_ne (by decide), kW_ne (by decide), kW_ne (by decide), kW_ne (by decide), kW_ne (by decide), kW_ne (by decide)]
          exact o1
        · rw [kW_at]; exact congrArg nI (zW_ins _ _).1.symm
        · have hi' : i < s.2.2.1.length + 1 := by rw [← (zW_ins _ _).1]; exact hi
          unfold zRowAt zPartAt zWorthAt
          have g := (zW_ins s.2.2.1 (pRow x (pAdv x s).1.2.1 (pAdv x s).1.2.2, pt, pNum x (pAdv x (pAdv x s)).1.2.1 (pAdv x (pAdv x s)).1.2.2)).2 i hi'
          show _ = nI (((s.2.2.1.insertIdx s.2.2.1.length _).getD i (0, 0, 0)).1) ∧ _ = nI (zSize ((s.2.2.1.insertIdx s.2.2.1.length _).getD i (0, 0, 0)).1) ∧ _ = nI (((s.2.2.1.insertIdx s.2.2.1.length _).getD i (0, 0, 0)).2.1) ∧ _ = nI (((s.2.2.1.insertIdx s.2.2.1.length _).getD i (0, 0, 0)).2.2)
          rw [g]
          by_cases h : i = s.2.2.1.length
          · rw [if_pos h, h]
            simp (disch := omega) only [kn_if_t, kn_bs, kn_or_l, kn_or_r, kn_inT, nI_clamp, nI_leI, nI_ltI, nI_eq, nI_add, pk_mul, nI_1, kn_eq0, kn_lt0, kn_le0, kn_0le, kn_div, kn_rem, kn_or, kn_and, kn_or0, kn_ad0, kn_shl1, kn_bitB, zBt, zBf, zB1t, zB1f, zB_01, zB_10, kl_2, kl_3, kl_4, kl_5, kl_6, kl_7, kl_8, kl_10, kl_12, kl_13, if_pos, if_neg, ↓reduceIte, eq_self, not_true_eq_false, not_false_eq_true, Nat.add_zero, Nat.or_zero, reduceCtorEq, or_true, true_or, or_false, false_or, decide_true, decide_false, kn_sub1, sb_m1, pk_sub, kW_ne, kW_at, kW_no, kA_ne, kA_eq, ite_self, and_self, true_and, and_true]
          · have w := o2'.2 i (by omega)
            unfold zRowAt zPartAt zWorthAt at w
            rw [if_neg h]
            simp (disch := omega) only [kn_if_t, kn_bs, kn_or_l, kn_or_r, kn_inT, nI_clamp, nI_leI, nI_ltI, nI_eq, nI_add, pk_mul, nI_1, kn_eq0, kn_lt0, kn_le0, kn_0le, kn_div, kn_rem, kn_or, kn_and, kn_or0, kn_ad0, kn_shl1, kn_bitB, zBt, zBf, zB1t, zB1f, zB_01, zB_10, kl_2, kl_3, kl_4, kl_5, kl_6, kl_7, kl_8, kl_10, kl_12, kl_13, if_pos, if_neg, ↓reduceIte, eq_self, not_true_eq_false, not_false_eq_true, Nat.add_zero, Nat.or_zero, reduceCtorEq, or_true, true_or, or_false, false_or, decide_true, decide_false, kn_sub1, sb_m1, pk_sub, kW_ne, kW_at, kW_no, kA_ne, kA_eq, ite_self, and_self, true_and, and_true]
            exact w
        · rw [kW_ne (by decide), kW_ne (by decide), kW_ne (by decide), kW_ne (by decide), kW_ne (by decide), kW_ne (by decide), kW_ne (by decide), kW_ne (by decide), kW_ne (by decide), kW_ne (by decide), kW_ne (by decide), kW_ne (by decide), kW_ne (by decide), kW_ne (by decide), kW_ne (by decide)]
          exact o3
      · obtain ⟨μ3, e3, r3⟩ := v2 hg
        rw [e3, kn_bs, if_neg hg]
        dsimp only
        rw [r3.adv, kn_bs, if_neg r3.ne]
        exact ⟨μ3, rfl, r3⟩
    · obtain ⟨μ2, e2, r2⟩ := w2 hf
      rw [e2, kn_bs, if_neg hf]
      dsimp only
      rw [r2.adv, kn_bs, r2.worth, kn_bs]
      dsimp only
      rw [r2.adv, kn_bs, if_neg r2.ne]
      exact ⟨μ2, rfl, r2⟩
theorem zD_app (D : List (Nat × Nat)) (q : Nat × Nat) : (D ++ [q]).length = D.length + 1 ∧ ∀ i, i < D.length + 1 → (D ++ [q]).getD i (0, 0) = if i = D.length then q else D.getD i (0, 0) := by
  refine ⟨by rw [List.length_append]; rfl, fun i hi => ?_⟩
  by_cases h : i = D.length
  · subst h; simp [List.getD_eq_getElem?_getD]
  · rw [if_neg h]
    simp only [List.getD_eq_getElem?_getD]
    rw [List.getElem?_append_left (by omega)]
theorem c_door {n : Nat} (hn : 1000 ≤ n) {x : pX} {μ : kbM} {s : pS} (hs : cS μ x s) (ho : tOk' x s) (hb : bOk s.2) {wd : Nat} (hwd : wd ≤ 3) : ∃ μ', f_BT_doorLine n (nI wd) μ = some μ' ∧ cR μ' x (pDoor x wd s) := by
  have hD := hb.2.2
  have h6 := hD.1
  have fault : ∀ {ν : kbM} {f q : Nat}, cF ν f q → jn_BT_doorLine_18 n (nI wd) ν = some ν := fun {ν f q} h => by
    unfold jn_BT_doorLine_18 jn_BT_doorLine_47
    rw [h.adv, kn_bs, h.hand, kn_bs]
    dsimp only
    rw [h.adv, kn_bs, if_neg h.ne]
  unfold f_BT_doorLine pDoor
  rw [hs.2.2.2.1, kl_6]
  by_cases hl : 6 ≤ s.2.2.2.length
  · obtain ⟨μ', e1, r1⟩ := c_fail hs (c := 2) (by decide) (by decide)
    rw [if_neg (by rw [nI_ltI (by omega) (by decide)]; omega), if_pos hl, kl_2, e1, kn_bs]
    exact ⟨μ', fault r1, r1⟩
  · rw [if_pos (by rw [nI_ltI (by omega) (by decide)]; omega), if_neg hl, pDr1_eq]
    unfold jn_BT_doorLine_18 jn_BT_doorLine_47
    obtain ⟨μ1, e1, r1⟩ := c_adv hn hs ho.1 ho.2.1.2.1
    obtain ⟨a1, a2⟩ := pAdv_tok ho
    obtain ⟨w1, w2⟩ := c_hand hn r1 a1
    rw [e1, kn_bs]
    by_cases hf : pHdF x (pAdv x s) = 0
    · rw [w1 hf, kn_bs, if_pos hf]
      dsimp only
      obtain ⟨μ2, e2, r2⟩ := c_adv hn r1 a1.1 a1.2.1.2.1
      obtain ⟨k, o1, o2, o3⟩ := r2
      have o3' : μ2.1 8 2 = nI s.2.2.2.length := o3.1
      rw [e2, kn_bs, if_pos k.2.2.1]
      unfold f_DO_add_8 jn_DO_add_8_39
      have n8 : ∀ a v, (kbW μ2 9 a v).1 8 2 = nI s.2.2.2.length := fun a v => by rw [kW_ne (by decide)]; exact o3'
      have n9 : ∀ a v b w, (kbW (kbW μ2 9 a v) 10 b w).1 8 2 = nI s.2.2.2.length := fun a v b w => by rw [kW_ne (by decide)]; exact n8 a v
      rw [n9, n8, o3', kl_6, if_neg (by rw [nI_leI (by decide) (by omega)]; omega), kn_inT (by omega) (by omega), kn_if_t, kn_if_t, nI_clamp (by omega), nI_1, kn_bs]
      refine ⟨_, rfl, ?_, ?_, ?_, ?_, fun i hi => ?_⟩
      · unfold cKk cTx at k ⊢
        rw [kW_ne (by decide), kW_ne (by decide), kW_ne (by decide), kW_ne (by decide), kW_ne (by decide), kW_ne (by decide)]
        exact k
      · rw [kW_ne (by decide), kW_ne (by decide), kW_ne (by decide), kW_ne (by decide), kW_ne (by decide), kW_ne (by decide)]
        exact o1
      · unfold cWords at o2 ⊢
        rw [kW_ne (by decide), kW_ne (by decide), kW_ne (by decide), kW_ne (by decide), kW_ne (by decide), kW_ne (by decide), kW_ne (by decide), kW_ne (by decide), kW_ne (by decide), kW_ne (by decide), kW_ne (by decide), kW_ne (by decide), kW_ne (by decide), kW_ne (by decide), kW_ne (by decide)]
        exact o2
      · rw [kW_at]; exact congrArg nI (zD_app _ _).1.symm
      · have hi' : i < s.2.2.2.length + 1 := by rw [← (zD_app _ _).1]; exact hi
        unfold zKind zHand
        have g := (zD_app s.2.2.2 (wd, (pHdO x (pAdv x s)).getD 0)).2 i hi'
        show _ = nI (((s.2.2.2 ++ [_]).getD i (0, 0)).1) ∧ _ = nI (((s.2.2.2 ++ [_]).getD i (0, 0)).2)
        rw [g]
        by_cases h : i = s.2.2.2.length
        · rw [if_pos h, h]
          simp (disch := omega) only [kn_if_t, kn_bs, kn_or_l, kn_or_r, kn_inT, nI_clamp, nI_leI, nI_ltI, nI_eq, nI_add, pk_mul, nI_1, kn_eq0, kn_lt0, kn_le0, kn_0le, kn_div, kn_rem, kn_or, kn_and, kn_or0, kn_ad0, kn_shl1, kn_bitB, zBt, zBf, zB1t, zB1f, zB_01, zB_10, kl_2, kl_3, kl_4, kl_5, kl_6, kl_7, kl_8, kl_10, kl_12, kl_13, if_pos, if_neg, ↓reduceIte, eq_self, not_true_eq_false, not_false_eq_true, Nat.add_zero, Nat.or_zero, reduceCtorEq, or_true, true_or, or_false, false_or, decide_true, decide_false, kn_sub1, sb_m1, pk_sub, kW_ne, kW_at, kW_no, kA_ne, kA_eq, ite_self, and_self, true_and, and_true]
        · have w := o3.2 i (show i < s.2.2.2.length by omega)
          unfold zKind zHand at w
          rw [if_neg h]
          simp (disch := omega) only [kn_if_t, kn_bs, kn_or_l, kn_or_r, kn_inT, nI_clamp, nI_leI, nI_ltI, nI_eq, nI_add, pk_mul, nI_1, kn_eq0, kn_lt0, kn_le0, kn_0le, kn_div, kn_rem, kn_or, kn_and, kn_or0, kn_ad0, kn_shl1, kn_bitB, zBt, zBf, zB1t, zB1f, zB_01, zB_10, kl_2, kl_3, kl_4, kl_5, kl_6, kl_7, kl_8, kl_10, kl_12, kl_13, if_pos, if_neg, ↓reduceIte, eq_self, not_true_eq_false, not_false_eq_true, Nat.add_zero, Nat.or_zero, reduceCtorEq, or_true, true_or, or_false, false_or, decide_true, decide_false, kn_sub1, sb_m1, pk_sub, kW_ne, kW_at, kW_no, kA_ne, kA_eq, ite_self, and_self, true_and, and_true]
          exact w
    · obtain ⟨μ2, e2, r2⟩ := w2 hf
      rw [e2, kn_bs, if_neg hf]
      dsimp only
      rw [r2.adv, kn_bs, if_neg r2.ne]
      exact ⟨μ2, rfl, r2⟩
theorem c_join {n : Nat} (hn : 1000 ≤ n) {x : pX} {μ : kbM} {s : pS} (hs : cS μ x s) (ho : tOk' x s) (hb : bOk s.2) : ∃ μ', f_BT_joinsLine n μ = some μ' ∧ cR μ' x (pJn x s) := by
  have hl := hb.1.2.1
  have E := c_e hn x 8 0 (by decide) (by decide)
  unfold f_BT_joinsLine jn_BT_joinsLine_13 pJn
  rw [hs.2.1.1]
  by_cases h : s.2.1.length = 0
  · obtain ⟨μ1, e1, r1⟩ := c_adv hn hs ho.1 ho.2.1.2.1
    rw [if_pos (by rw [kn_le0 (by omega)]; exact h), if_pos h, e1, kn_bs, bnd_s]
    exact E.1 μ1 _ r1 (pAdv_tok ho).1
  · obtain ⟨μ1, e1, r1⟩ := c_fail hs (c := 5) (by decide) (by decide)
    rw [if_neg (by rw [kn_le0 (by omega)]; exact h), if_neg h, kl_5, e1, kn_bs]
    dsimp only
    rw [r1.adv, kn_bs, bnd_s]
    exact ⟨μ1, E.2 μ1 _ _ r1, r1⟩
