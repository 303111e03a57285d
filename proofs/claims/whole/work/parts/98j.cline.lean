/-! the class reads lines -/
theorem snd_both : ∀ c : Fin 256, f_BT_soundNamed (nI c.val) = some (nI (sndN c.val)) ∧ f_MD_soundOf (nI c.val) = some (nI (sndN c.val)) := by decide +kernel
theorem bt_snd {c : Nat} (hc : c < 256) : f_BT_soundNamed (nI c) = some (nI (sndN c)) := (snd_both ⟨c, hc⟩).1
theorem md_snd {c : Nat} (hc : c < 256) : f_MD_soundOf (nI c) = some (nI (sndN c)) := (snd_both ⟨c, hc⟩).2
theorem cF.sounds {n : Nat} {μ : kbM} {f q : Nat} (h : cF μ f q) : f_BT_isOfSounds n μ = some (0, μ) := by
  unfold f_BT_isOfSounds
  rw [h.2.1, if_neg (by decide), h.fail, kn_bs]
theorem c_sounds {n : Nat} (hn : 1000 ≤ n) {x : pX} {μ : kbM} {s : pS} (hs : cS μ x s) (ho : tOk' x s) : (s.1.1 = 1 → pSnd x s.1.2.1 s.1.2.2 = true → f_BT_isOfSounds n μ = some (1, μ)) ∧ (s.1.1 = 1 → pSnd x s.1.2.1 s.1.2.2 = false → ∃ μ', f_BT_isOfSounds n μ = some (0, μ') ∧ cF μ' 3 s.1.2.1) ∧ (s.1.1 ≠ 1 → ∃ μ', f_BT_isOfSounds n μ = some (0, μ') ∧ cF μ' 1 s.1.2.1) := by
  have hx := ho.1
  have hx6 := ho.1.1
  have t1 := ho.2.1.1
  have t2 := ho.2.1.2.1
  obtain ⟨μ3, e3, r3⟩ := c_fail hs (c := 3) (by decide) (by decide)
  have k8 := hs.1.2.2.2.2.2.1
  have k9 := hs.1.2.2.2.2.2.2
  have e : lp_BT_isOfSounds_21 n μ n (nI (s.1.2.1 + 0)) = some (if pSnd x s.1.2.1 s.1.2.2 = true then .inr () else .inl (0, μ3)) := by
    refine kn_all (lp := fun k i => lp_BT_isOfSounds_21 n μ k (nI (s.1.2.1 + i))) (fun j => sndN (x.1 (s.1.2.1 + j)) != 0) (s.1.2.2 - s.1.2.1) (.inr ()) (.inl (0, μ3)) ?_ ?_ ?_ (s.1.2.2 - s.1.2.1) 0 n (by omega) (by omega) rfl
    · intro k
      simp only [lp_BT_isOfSounds_21]
      rw [k9, if_pos (by rw [nI_leI (by omega) (by omega)]; omega)]
    · intro k i hi hp
      have hb := hx.2 (s.1.2.1 + i) (by omega)
      simp only [bne_eq_false_iff_eq] at hp
      simp only [lp_BT_isOfSounds_21]
      rw [k9, if_neg (by rw [nI_leI (by omega) (by omega)]; omega), bt_byte hx hs.1.1 (by omega), kn_bs, bt_snd hb, kn_bs, hp, if_pos (show nI 0 = 0 from rfl), kl_3, e3, kn_bs]
    · intro k i hi hp
      have hb := hx.2 (s.1.2.1 + i) (by omega)
      have hl := sndN_le (x.1 (s.1.2.1 + i))
      simp only [bne_iff_ne, ne_eq] at hp
      simp only [lp_BT_isOfSounds_21]
      rw [k9, if_neg (by rw [nI_leI (by omega) (by omega)]; omega), bt_byte hx hs.1.1 (by omega), kn_bs, bt_snd hb, kn_bs, if_neg (by rw [kn_eq0 (by omega)]; exact hp), nI_1]
      rfl
  rw [Nat.add_zero] at e
  unfold f_BT_isOfSounds
  refine ⟨fun h1 h2 => ?_, fun h1 h2 => ?_, fun h1 => ?_⟩
  · rw [if_pos (show μ.1 1 7 = 1 by rw [kn_1, c_kind hs ho (by decide)]; exact h1), k8, e, h2, if_pos rfl, kn_or_r]
  · rw [if_pos (show μ.1 1 7 = 1 by rw [kn_1, c_kind hs ho (by decide)]; exact h1), k8, e, h2, if_neg Bool.false_ne_true, kn_or_l]
    exact ⟨μ3, rfl, r3⟩
  · obtain ⟨μ1, e1, r1⟩ := c_fail hs (c := 1) (by decide) (by decide)
    rw [if_neg (show ¬ μ.1 1 7 = 1 by rw [kn_1, c_kind hs ho (by decide)]; exact h1), kn_1, e1, kn_bs]
    exact ⟨μ1, rfl, r1⟩
theorem c_find3 {n : Nat} (hn : 100 ≤ n) {μ : kbM} {W : zW} (hW : zWok W) (hc : cWords μ 3 4 5 6 7 W) {v : Nat} (hv : v < 2 ^ 31) : f_WO_find_3 n (nI v) μ = some (zFdI (zFd W v)) := by
  have h10 := hW.1
  have e : lp_WO_find_3_2 n (nI v) μ n 0 = some (match zFd W v with | some q => .inl (nI q) | none => .inr ()) := kn_search (fun k i => lp_WO_find_3_2 n (nI v) μ k (nI i)) (fun i => zRowAt W i == v) W.length (fun q => .inl (nI q)) (.inr ())
    (fun k => by simp (disch := omega) only [kn_if_t, kn_bs, kn_or_l, kn_or_r, kn_inT, nI_clamp, nI_leI, nI_ltI, nI_eq, nI_add, pk_mul, nI_1, kn_eq0, kn_lt0, kn_le0, kn_0le, kn_div, kn_rem, kn_or, kn_and, kn_or0, kn_ad0, kn_shl1, kn_bitB, zBt, zBf, zB1t, zB1f, zB_01, zB_10, kl_2, kl_3, kl_4, kl_5, kl_6, kl_7, kl_8, kl_10, kl_12, kl_13, if_pos, if_neg, ↓reduceIte, eq_self, not_true_eq_false, not_false_eq_true, Nat.add_zero, Nat.or_zero, reduceCtorEq, or_true, true_or, or_false, false_or, decide_true, decide_false, kn_sub1, sb_m1, pk_sub, kW_ne, kW_at, kW_no, kA_ne, kA_eq, ite_self, and_self, true_and, and_true, lp_WO_find_3_2, hc.1])
    (fun k i hi hp => by
      have hr := hW.row hi
      simp only [beq_iff_eq] at hp
      simp (disch := omega) only [kn_if_t, kn_bs, kn_or_l, kn_or_r, kn_inT, nI_clamp, nI_leI, nI_ltI, nI_eq, nI_add, pk_mul, nI_1, kn_eq0, kn_lt0, kn_le0, kn_0le, kn_div, kn_rem, kn_or, kn_and, kn_or0, kn_ad0, kn_shl1, kn_bitB, zBt, zBf, zB1t, zB1f, zB_01, zB_10, kl_2, kl_3, kl_4, kl_5, kl_6, kl_7, kl_8, kl_10, kl_12, kl_13, if_pos, if_neg, ↓reduceIte, eq_self, not_true_eq_false, not_false_eq_true, Nat.add_zero, Nat.or_zero, reduceCtorEq, or_true, true_or, or_false, false_or, decide_true, decide_false, kn_sub1, sb_m1, pk_sub, kW_ne, kW_at, kW_no, kA_ne, kA_eq, ite_self, and_self, true_and, and_true, lp_WO_find_3_2, hc.1, (hc.2 i hi).1, hp])
    (fun k i hi hp => by
      have hr := hW.row hi
      simp only [beq_eq_false_iff_ne, ne_eq] at hp
      simp (disch := omega) only [kn_if_t, kn_bs, kn_or_l, kn_or_r, kn_inT, nI_clamp, nI_leI, nI_ltI, nI_eq, nI_add, pk_mul, nI_1, kn_eq0, kn_lt0, kn_le0, kn_0le, kn_div, kn_rem, kn_or, kn_and, kn_or0, kn_ad0, kn_shl1, kn_bitB, zBt, zBf, zB1t, zB1f, zB_01, zB_10, kl_2, kl_3, kl_4, kl_5, kl_6, kl_7, kl_8, kl_10, kl_12, kl_13, if_pos, if_neg, ↓reduceIte, eq_self, not_true_eq_false, not_false_eq_true, Nat.add_zero, Nat.or_zero, reduceCtorEq, or_true, true_or, or_false, false_or, decide_true, decide_false, kn_sub1, sb_m1, pk_sub, kW_ne, kW_at, kW_no, kA_ne, kA_eq, ite_self, and_self, true_and, and_true, lp_WO_find_3_2, hc.1, (hc.2 i hi).1, hp]) W.length 0 n (by omega) (by omega)
  unfold f_WO_find_3
  rw [e]
  cases zFd W v <;> rfl
theorem c_rowloop {n : Nat} (hn : 1000 ≤ n) {x : pX} {μ : kbM} {s : pS} (hs : cS μ x s) (ho : tOk' x s) : lp_BT_rowTold_36 n μ n 0 (nI s.1.2.1) = some (nI (pRow x s.1.2.1 s.1.2.2)) := by
  have hx := ho.1
  have hx6 := ho.1.1
  have t1 := ho.2.1.1
  have t2 := ho.2.1.2.1
  have k9 := hs.1.2.2.2.2.2.2
  have e : lp_BT_rowTold_36 n μ n (nI (zFold (fun j v => 5 * v + sndN (x.1 (s.1.2.1 + j))) 0 0)) (nI (s.1.2.1 + 0)) = some (nI (pRow x s.1.2.1 s.1.2.2)) := by
    refine kn_loop (fun k v j => lp_BT_rowTold_36 n μ k (nI v) (nI (s.1.2.1 + j))) (fun j v => 5 * v + sndN (x.1 (s.1.2.1 + j))) 0 (s.1.2.2 - s.1.2.1) _ ?_ ?_ (s.1.2.2 - s.1.2.1) 0 n (by omega) (by omega)
    · intro k
      simp only [lp_BT_rowTold_36]
      rw [k9, if_pos (by rw [nI_leI (by omega) (by omega)]; omega)]
      rfl
    · intro k i hi
      have hb := hx.2 (s.1.2.1 + i) (by omega)
      simp only [lp_BT_rowTold_36]
      rw [k9, if_neg (by rw [nI_leI (by omega) (by omega)]; omega), bt_byte hx hs.1.1 (by omega), kn_bs, bt_snd hb, kn_bs, nI_1, kl_5, pk_mul, nI_add, Nat.mul_comm]
      rfl
  exact e
theorem cF.row {n : Nat} {μ : kbM} {f q : Nat} (h : cF μ f q) : f_BT_rowTold n μ = some (0, μ) := by
  unfold f_BT_rowTold
  rw [h.sounds, kn_bs, if_pos rfl]
theorem c_row {n : Nat} (hn : 1000 ≤ n) {x : pX} {μ : kbM} {s : pS} (hs : cS μ x s) (ho : tOk' x s) (hW : zWok s.2.2.1) : (pRwF x s = 0 → f_BT_rowTold n μ = some (nI (pRow x s.1.2.1 s.1.2.2), μ)) ∧ (pRwF x s ≠ 0 → ∃ μ', f_BT_rowTold n μ = some (0, μ') ∧ cF μ' (pRwF x s) s.1.2.1) := by
  have hx6 := ho.1.1
  have t1 := ho.2.1.1
  have t2 := ho.2.1.2.1
  have k8 := hs.1.2.2.2.2.2.1
  have k9 := hs.1.2.2.2.2.2.2
  obtain ⟨s1, s2, s3⟩ := c_sounds hn hs ho
  unfold f_BT_rowTold jn_BT_rowTold_84 pRwF
  by_cases h1 : s.1.1 = 1
  · rw [if_pos h1]
    have r := tReal ho (by omega)
    cases hsn : pSnd x s.1.2.1 s.1.2.2
    · obtain ⟨μ', e1, r1⟩ := s2 h1 hsn
      rw [if_neg Bool.false_ne_true, e1, kn_bs, if_pos rfl]
      exact ⟨(fun q => by cases q), fun _ => ⟨μ', rfl, r1⟩⟩
    · rw [s1 h1 hsn, kn_bs, if_pos rfl, if_neg (show ¬ (1 : Int32) = 0 by decide)]
      dsimp only
      rw [k8, k9, pk_sub t1, kl_6]
      by_cases h6 : s.1.2.2 - s.1.2.1 ≤ 6
      · have wd := (pRow_word hsn r h6).size
        rw [if_pos (show nI (s.1.2.2 - s.1.2.1) ≤ nI 6 by rw [nI_leI (by omega) (by decide)]; exact h6), if_pos h6, c_rowloop hn hs ho, kn_bs, c_find3 (by omega) hW hs.2.2.1 wd.2.2.2, kn_bs]
        by_cases hf : zFd s.2.2.1 (pRow x s.1.2.1 s.1.2.2) = none
        · rw [if_pos ((zFdI_m1 hW.1 _).mpr hf), if_pos hf]
          exact ⟨fun _ => rfl, fun q => absurd rfl q⟩
        · obtain ⟨μ', e1, r1⟩ := c_fail hs (c := 4) (by decide) (by decide)
          rw [if_neg (fun z => hf ((zFdI_m1 hW.1 _).mp z)), if_neg hf, kl_4, e1, kn_bs]
          exact ⟨(fun q => by cases q), fun _ => ⟨μ', rfl, r1⟩⟩
      · obtain ⟨μ', e1, r1⟩ := c_fail hs (c := 2) (by decide) (by decide)
        rw [if_neg (show ¬ nI (s.1.2.2 - s.1.2.1) ≤ nI 6 by rw [nI_leI (by omega) (by decide)]; exact h6), if_neg h6, kl_2, e1, kn_bs]
        exact ⟨(fun q => by cases q), fun _ => ⟨μ', rfl, r1⟩⟩
  · obtain ⟨μ', e1, r1⟩ := s3 h1
    rw [if_neg h1, e1, kn_bs, if_pos rfl]
    exact ⟨(fun q => by cases q), fun _ => ⟨μ', rfl, r1⟩⟩
theorem cF.worth {n : Nat} {μ : kbM} {f q : Nat} (h : cF μ f q) : f_BT_worthTold n μ = some (0, μ) := by
  unfold f_BT_worthTold
  rw [h.2.1, if_neg (by decide), h.fail, kn_bs]
theorem c_worth {n : Nat} (hn : 1000 ≤ n) {x : pX} {μ : kbM} {s : pS} (hs : cS μ x s) (ho : tOk' x s) : (pWtF x s = 0 → f_BT_worthTold n μ = some (nI (pNum x s.1.2.1 s.1.2.2), μ)) ∧ (pWtF x s ≠ 0 → ∃ μ', f_BT_worthTold n μ = some (0, μ') ∧ cF μ' (pWtF x s) s.1.2.1) := by
  have hx6 := ho.1.1
  have t1 := ho.2.1.1
  have t2 := ho.2.1.2.1
  have k8 := hs.1.2.2.2.2.2.1
  have k9 := hs.1.2.2.2.2.2.2
  unfold f_BT_worthTold jn_BT_worthTold_34 pWtF
  by_cases h2 : s.1.1 = 2
  · rw [if_pos (show μ.1 1 7 = 2 by rw [kl_2, c_kind hs ho (by decide)]; exact h2), if_pos h2]
    obtain ⟨μ', e1, r1⟩ := c_fail hs (c := 2) (by decide) (by decide)
    by_cases h4 : s.1.2.2 - s.1.2.1 ≤ 4
    · have nl := pNum_le h4 (ho.2.1.2.2.2.2 h2)
      rw [c_num (by omega) hs ho h2 h4, kn_bs]
      show (_ → (if (99 : Int32) < nI (pNum x s.1.2.1 s.1.2.2) then _ else _) = _) ∧ (_ → ∃ μ', (if (99 : Int32) < nI (pNum x s.1.2.1 s.1.2.2) then _ else _) = _ ∧ _)
      rw [show (99 : Int32) = nI 99 from rfl]
      by_cases h9 : pNum x s.1.2.1 s.1.2.2 ≤ 99
      · rw [if_pos ⟨h4, h9⟩, if_neg (by rw [nI_ltI (by decide) (by omega)]; omega)]
        exact ⟨fun _ => rfl, fun q => absurd rfl q⟩
      · rw [if_neg (fun z => h9 z.2), if_pos (by rw [nI_ltI (by decide) (by omega)]; omega), kl_2]
        show (_ → ((f_BT_fail (nI 2) μ).bind _) = _) ∧ (_ → ∃ μ', ((f_BT_fail (nI 2) μ).bind _) = _ ∧ _)
        rw [e1, kn_bs]
        exact ⟨(fun q => by cases q), fun _ => ⟨μ', rfl, r1⟩⟩
    · unfold f_BT_numberTold
      rw [if_neg (fun z => h4 z.1), k8, k9, pk_sub t1, kl_4, if_neg (by rw [nI_leI (by omega) (by decide)]; exact h4), bnd_p, kl_2, e1, kn_bs]
      show (_ → (if (99 : Int32) < 0 then _ else _) = _) ∧ (_ → ∃ μ', (if (99 : Int32) < 0 then _ else _) = _ ∧ _)
      rw [if_neg (by decide)]
      exact ⟨(fun q => by cases q), fun _ => ⟨μ', rfl, r1⟩⟩
  · obtain ⟨μ', e1, r1⟩ := c_fail hs (c := 1) (by decide) (by decide)
    rw [if_neg (show ¬ μ.1 1 7 = 2 by rw [kl_2, c_kind hs ho (by decide)]; exact h2), if_neg h2, kn_1, e1, kn_bs]
    exact ⟨(fun q => by cases q), fun _ => ⟨μ', rfl, r1⟩⟩
