/-! the model reads lines -/
theorem kn_all2 {β : Type} {lp : Nat → Nat → Option β} (p : Nat → Bool) (c : Nat) (t f : β) (hend : ∀ k, lp (k + 1) c = some t)
    (hhit : ∀ k i, i < c → p i = false → lp (k + 2) i = some f) (hmiss : ∀ k i, i < c → p i = true → lp (k + 1) i = lp k (i + 1)) :
    ∀ (j i k : Nat), i + j = c → j + 1 < k → zAll p i = true → lp k i = some (if zAll p c = true then t else f) := by
  intro j
  induction j with
  | zero =>
    intro i k h hk hz
    obtain ⟨k, rfl⟩ : ∃ q, k = q + 1 := ⟨k - 1, by omega⟩
    rw [show i = c by omega] at hz ⊢
    rw [hend, if_pos hz]
  | succ j ih =>
    intro i k h hk hz
    obtain ⟨k, rfl⟩ : ∃ q, k = q + 2 := ⟨k - 2, by omega⟩
    cases hp : p i with
    | false => rw [hhit k i (by omega) hp, zAll_f (i := i) (by omega) hp]; rfl
    | true => rw [hmiss (k + 1) i (by omega) hp]; exact ih (i + 1) (k + 1) (by omega) (by omega) (by simp [zAll, hz, hp])
theorem mFf.s20 {n : Nat} (hn : 1000 ≤ n) {μ0 μ : kbM} {f q : Nat} (h : mFf μ0 μ f q) : jn_MD_areSounds_20 n μ = some (0, μ) := by
  unfold jn_MD_areSounds_20 jn_MD_areSounds_63 jn_MD_areSounds_75
  obtain ⟨k, hk⟩ : ∃ z, n = z + 1 := ⟨n - 1, by omega⟩
  have e : ∀ v, lp_MD_areSounds_25 n n v μ = some μ := fun v => by
    rw [show lp_MD_areSounds_25 n n v μ = lp_MD_areSounds_25 n (k + 1) v μ by rw [← hk]]
    simp only [lp_MD_areSounds_25]
    rw [if_neg h.ne]
  rw [e, kn_bs, if_neg h.ne]
  rfl
theorem m_sounds {n : Nat} (hn : 1000 ≤ n) {μ0 : kbM} {x : pX} {μ : kbM} {s : pS} (hs : mSs μ0 μ x s) (ho : tOk' x s) : (s.1.1 = 1 → pSnd x s.1.2.1 s.1.2.2 = true → f_MD_areSounds n μ = some (1, μ)) ∧ (s.1.1 = 1 → pSnd x s.1.2.1 s.1.2.2 = false → ∃ μ', f_MD_areSounds n μ = some (0, μ') ∧ mFf μ0 μ' 3 s.1.2.1) ∧ (s.1.1 ≠ 1 → ∃ μ', f_MD_areSounds n μ = some (0, μ') ∧ mFf μ0 μ' 1 s.1.2.1) := by
  have hx := ho.1
  have hx6 := ho.1.1
  have t1 := ho.2.1.1
  have t2 := ho.2.1.2.1
  obtain ⟨μ3, e3, r3⟩ := m_wrong hs (c := 3) (by decide) (by decide)
  have k8 := hs.2.2.1.2.1
  have k9 := hs.2.2.1.2.2.1
  have e : lp_MD_areSounds_25 n n (nI (s.1.2.1 + 0)) μ = some (if pSnd x s.1.2.1 s.1.2.2 = true then μ else μ3) := by
    refine kn_all2 (lp := fun k i => lp_MD_areSounds_25 n k (nI (s.1.2.1 + i)) μ) (fun j => sndN (x.1 (s.1.2.1 + j)) != 0) (s.1.2.2 - s.1.2.1) μ μ3 ?_ ?_ ?_ (s.1.2.2 - s.1.2.1) 0 n (by omega) (by omega) rfl
    · intro k
      simp only [lp_MD_areSounds_25]
      rw [if_pos hs.2.1, k9, if_pos (by rw [nI_leI (by omega) (by omega)]; omega)]
    · intro k i hi hp
      have hb := hx.2 (s.1.2.1 + i) (by omega)
      simp only [bne_eq_false_iff_eq] at hp
      rw [lp_MD_areSounds_25]
      unfold jn_MD_areSounds_57
      rw [if_pos hs.2.1, k9, if_neg (by rw [nI_leI (by omega) (by omega)]; omega), kn_inT (by omega) (by omega), kn_if_t, nI_clamp (by omega), hs.1.2 _ (by omega), md_snd hb, kn_bs, hp, if_pos (show nI 0 = 0 from rfl), kl_3, e3, kn_bs]
      simp only [lp_MD_areSounds_25]
      rw [if_neg r3.ne]
    · intro k i hi hp
      have hb := hx.2 (s.1.2.1 + i) (by omega)
      have hl := sndN_le (x.1 (s.1.2.1 + i))
      simp only [bne_iff_ne, ne_eq] at hp
      simp only [lp_MD_areSounds_25]
      unfold jn_MD_areSounds_57
      rw [if_pos hs.2.1, k9, if_neg (by rw [nI_leI (by omega) (by omega)]; omega), kn_inT (by omega) (by omega), kn_if_t, nI_clamp (by omega), hs.1.2 _ (by omega), md_snd hb, kn_bs, if_neg (by rw [kn_eq0 (by omega)]; exact hp), nI_1]
      rfl
  rw [Nat.add_zero] at e
  unfold f_MD_areSounds
  rw [if_pos hs.2.1]
  refine ⟨fun h1 h2 => ?_, fun h1 h2 => ?_, fun h1 => ?_⟩
  · rw [if_pos (show μ.1 57 16 = 1 by rw [kn_1, m_kind hs ho (by decide)]; exact h1)]
    unfold jn_MD_areSounds_20 jn_MD_areSounds_63 jn_MD_areSounds_75
    rw [k8, e, h2, if_pos rfl, kn_bs, if_pos hs.2.1]
    rfl
  · rw [if_pos (show μ.1 57 16 = 1 by rw [kn_1, m_kind hs ho (by decide)]; exact h1)]
    unfold jn_MD_areSounds_20 jn_MD_areSounds_63 jn_MD_areSounds_75
    rw [k8, e, h2, if_neg Bool.false_ne_true, kn_bs, if_neg r3.ne]
    exact ⟨μ3, rfl, r3⟩
  · obtain ⟨μ1, e1, r1⟩ := m_wrong hs (c := 1) (by decide) (by decide)
    rw [if_neg (show ¬ μ.1 57 16 = 1 by rw [kn_1, m_kind hs ho (by decide)]; exact h1), kn_1, e1, kn_bs]
    exact ⟨μ1, r1.s20 hn, r1⟩
theorem m_rowloop {n : Nat} (hn : 1000 ≤ n) {μ0 : kbM} {x : pX} {μ : kbM} {s : pS} (hs : mSs μ0 μ x s) (ho : tOk' x s) (v1 v2 : Int32) : lp_MD_readWord_65 n v1 v2 μ n 0 (nI s.1.2.1) = some (nI (pRow x s.1.2.1 s.1.2.2)) := by
  have hx := ho.1
  have hx6 := ho.1.1
  have t1 := ho.2.1.1
  have t2 := ho.2.1.2.1
  have k9 := hs.2.2.1.2.2.1
  have e : lp_MD_readWord_65 n v1 v2 μ n (nI (zFold (fun j v => 5 * v + sndN (x.1 (s.1.2.1 + j))) 0 0)) (nI (s.1.2.1 + 0)) = some (nI (pRow x s.1.2.1 s.1.2.2)) := by
    refine kn_loop (fun k v j => lp_MD_readWord_65 n v1 v2 μ k (nI v) (nI (s.1.2.1 + j))) (fun j v => 5 * v + sndN (x.1 (s.1.2.1 + j))) 0 (s.1.2.2 - s.1.2.1) _ ?_ ?_ (s.1.2.2 - s.1.2.1) 0 n (by omega) (by omega)
    · intro k
      simp only [lp_MD_readWord_65]
      rw [if_pos hs.2.1, k9, if_pos (by rw [nI_leI (by omega) (by omega)]; omega)]
      rfl
    · intro k i hi
      have hb := hx.2 (s.1.2.1 + i) (by omega)
      simp only [lp_MD_readWord_65]
      rw [if_pos hs.2.1, k9, if_neg (by rw [nI_leI (by omega) (by omega)]; omega), kn_inT (by omega) (by omega), kn_if_t, nI_clamp (by omega), hs.1.2 _ (by omega), md_snd hb, kn_bs, nI_1, kl_5, pk_mul, nI_add]
      rfl
  exact e
theorem mFf.w144 {n : Nat} {μ0 μ : kbM} {f q : Nat} (h : mFf μ0 μ f q) (v1 v2 v3 : Int32) : jn_MD_readWord_144 n v1 v2 v3 μ = some μ := by
  unfold jn_MD_readWord_144
  rw [if_neg h.ne]
theorem mFf.w57 {n : Nat} (hn : 1000 ≤ n) {μ0 μ : kbM} {f q : Nat} (h : mFf μ0 μ f q) (v1 v2 : Int32) : jn_MD_readWord_57 n v1 v2 μ = some μ := by
  unfold jn_MD_readWord_57 jn_MD_readWord_102
  obtain ⟨k, hk⟩ : ∃ z, n = z + 1 := ⟨n - 1, by omega⟩
  have e : ∀ v w, lp_MD_readWord_65 n v1 v2 μ n v w = some v := fun v w => by
    rw [show lp_MD_readWord_65 n v1 v2 μ n v w = lp_MD_readWord_65 n v1 v2 μ (k + 1) v w by rw [← hk]]
    simp only [lp_MD_readWord_65]
    rw [if_neg h.ne]
  have e2 : ∀ v w, lp_MD_readWord_106 n v1 v2 v n w μ = some μ := fun v w => by
    rw [show lp_MD_readWord_106 n v1 v2 v n w μ = lp_MD_readWord_106 n v1 v2 v (k + 1) w μ by rw [← hk]]
    simp only [lp_MD_readWord_106]
    rw [if_neg h.ne]
  rw [e, kn_bs, e2, kn_bs, h.w144]
theorem m_dup {n : Nat} (hn : 1000 ≤ n) {μ0 : kbM} {x : pX} {μ : kbM} {s : pS} (hs : mSs μ0 μ x s) (hW : zWok s.2.2.1) {r : Nat} (hr : r < 2 ^ 31) {μ4 : kbM} (e4 : f_MD_wrong (nI 4) μ = some μ4) (r4 : mFf μ0 μ4 4 s.1.2.1) (v1 : Int32) : lp_MD_readWord_106 n v1 (nI s.2.2.1.length) (nI r) n 10 μ = some (if zFd s.2.2.1 r = none then μ else μ4) := by
  have h10 := hW.1
  have w := hs.2.2.2.1.2.1.2
  have e : lp_MD_readWord_106 n v1 (nI s.2.2.1.length) (nI r) n (nI (10 + 0)) μ = some (if zAll (fun i => !(zRowAt s.2.2.1 i == r)) s.2.2.1.length = true then μ else μ4) := by
    refine kn_all2 (lp := fun k i => lp_MD_readWord_106 n v1 (nI s.2.2.1.length) (nI r) k (nI (10 + i)) μ) (fun i => !(zRowAt s.2.2.1 i == r)) s.2.2.1.length μ μ4 ?_ ?_ ?_ s.2.2.1.length 0 n (by omega) (by omega) rfl
    · intro k
      simp only [lp_MD_readWord_106]
      rw [if_pos hs.2.1, kl_10, nI_add, if_pos (by rw [nI_leI (by omega) (by omega)]; omega)]
    · intro k i hi hp
      have hrw := hW.row hi
      simp only [Bool.not_eq_eq_eq_not, Bool.not_false, beq_iff_eq] at hp
      rw [lp_MD_readWord_106]
      unfold jn_MD_readWord_138
      rw [if_pos hs.2.1, kl_10, nI_add, if_neg (by rw [nI_leI (by omega) (by omega)]; omega), kn_inT (by omega) (by omega), kn_if_t, nI_clamp (by omega), (w i hi).1, hp, if_pos rfl, kl_4, e4, kn_bs]
      simp only [lp_MD_readWord_106]
      rw [if_neg r4.ne]
    · intro k i hi hp
      have hrw := hW.row hi
      simp only [Bool.not_eq_eq_eq_not, Bool.not_true, beq_eq_false_iff_ne, ne_eq] at hp
      simp only [lp_MD_readWord_106]
      unfold jn_MD_readWord_138
      rw [if_pos hs.2.1, kl_10, nI_add, if_neg (by rw [nI_leI (by omega) (by omega)]; omega), kn_inT (by omega) (by omega), kn_if_t, nI_clamp (by omega), (w i hi).1, if_neg (by rw [nI_eq (by omega) hr]; exact hp), nI_1]
      rfl
  have e' : lp_MD_readWord_106 n v1 (nI s.2.2.1.length) (nI r) n 10 μ = some (if zAll (fun i => !(zRowAt s.2.2.1 i == r)) s.2.2.1.length = true then μ else μ4) := e
  rw [e']
  congr 1
  by_cases hf : zFd s.2.2.1 r = none
  · rw [if_pos hf, if_pos ((zAll_iff _ _).mpr fun i hi => by simpa using zFd_none.mp hf i hi)]
  · rw [if_neg hf, if_neg]
    intro z
    exact hf (zFd_none.mpr fun i hi => by simpa using (zAll_iff _ _).mp z i hi)
theorem m_part {n : Nat} (hn : 100 ≤ n) {μ0 : kbM} {x : pX} {μ : kbM} {s : pS} (hs : mSs μ0 μ x s) (ho : tOk' x s) : f_MD_wordOf_58 n μ = some (zFdI (pPart x s)) := by
  have hm : ∀ i, i < 3 → 0 + i ∈ sids := by decide
  have e : lp_MD_wordOf_58_2 n μ n (nI 0) = some (match pPart x s with | some q => .inl (nI q) | none => .inr ()) := by
    refine kn_search (fun k i => lp_MD_wordOf_58_2 n μ k (nI i)) (fun i => pNm x (0 + i) s) 3 (fun q => .inl (nI q)) (.inr ()) ?_ ?_ ?_ 3 0 n rfl (by omega)
    · intro k; simp only [lp_MD_wordOf_58_2]; rw [if_pos (by decide)]
    · intro k i hi hp
      simp only [lp_MD_wordOf_58_2]
      rw [kl_3, if_neg (by rw [nI_leI (by decide) (by omega)]; omega), kn_inT hi (by omega), kn_if_t, nI_clamp (by omega), m_is hn hs ho (hm i hi), kn_bs, hp, if_neg zT0]
    · intro k i hi hp
      simp only [lp_MD_wordOf_58_2]
      rw [kl_3, if_neg (by rw [nI_leI (by decide) (by omega)]; omega), kn_inT hi (by omega), kn_if_t, nI_clamp (by omega), m_is hn hs ho (hm i hi), kn_bs, hp, if_pos zF0, nI_1]
  unfold f_MD_wordOf_58
  rw [show (0 : Int32) = nI 0 from rfl, e]
  cases pPart x s <;> rfl
theorem m_wood {n : Nat} (hn : 100 ≤ n) {μ0 : kbM} {x : pX} {μ : kbM} {s : pS} (hs : mSs μ0 μ x s) (ho : tOk' x s) : f_MD_wordOf_59 n μ = some (zFdI (pWood x s)) := by
  have hm : ∀ i, i < 4 → 3 + i ∈ sids := by decide
  have e : lp_MD_wordOf_59_2 n μ n (nI 0) = some (match pWood x s with | some q => .inl (nI q) | none => .inr ()) := by
    refine kn_search (fun k i => lp_MD_wordOf_59_2 n μ k (nI i)) (fun i => pNm x (3 + i) s) 4 (fun q => .inl (nI q)) (.inr ()) ?_ ?_ ?_ 4 0 n rfl (by omega)
    · intro k; simp only [lp_MD_wordOf_59_2]; rw [if_pos (by decide)]
    · intro k i hi hp
      simp only [lp_MD_wordOf_59_2]
      rw [kl_4, if_neg (by rw [nI_leI (by decide) (by omega)]; omega), kn_inT hi (by omega), kn_if_t, nI_clamp (by omega), m_is hn hs ho (hm i hi), kn_bs, hp, if_neg zT0]
    · intro k i hi hp
      simp only [lp_MD_wordOf_59_2]
      rw [kl_4, if_neg (by rw [nI_leI (by decide) (by omega)]; omega), kn_inT hi (by omega), kn_if_t, nI_clamp (by omega), m_is hn hs ho (hm i hi), kn_bs, hp, if_pos zF0, nI_1]
  unfold f_MD_wordOf_59
  rw [show (0 : Int32) = nI 0 from rfl, e]
  cases pWood x s <;> rfl
theorem m_word {n : Nat} (hn : 1000 ≤ n) {μ0 : kbM} {x : pX} {μ : kbM} {s : pS} (hs : mSs μ0 μ x s) (ho : tOk' x s) (hb : bOk s.2) {pt : Nat} (hpt : pt ≤ 2) : ∃ μ', f_MD_readWord n (nI pt) μ = some μ' ∧ mRr μ0 μ' x (pWord x pt s) := by
  have hW := hb.2.1
  have h10 := hW.1
  have hx6 := ho.1.1
  unfold f_MD_readWord pWord
  rw [hs.2.2.2.1.2.1.1, kl_10]
  by_cases hl : 10 ≤ s.2.2.1.length
  · obtain ⟨μ', e1, r1⟩ := m_wrong hs (c := 2) (by decide) (by decide)
    rw [if_pos (by rw [nI_eq (by omega) (by decide)]; omega), if_pos hl, kl_2, e1, kn_bs]
    unfold jn_MD_readWord_18
    rw [if_neg r1.ne]
    exact ⟨μ', rfl, r1⟩
  · rw [if_neg (by rw [nI_eq (by omega) (by decide)]; omega), if_neg hl]
    unfold jn_MD_readWord_18 pWd1
    obtain ⟨μ1, e1, r1⟩ := m_adv hn hs ho.1 ho.2.1.2.1
    obtain ⟨a1, a2⟩ := pAdv_tok ho
    have t1 := a1.2.1.1
    have t2 := a1.2.1.2.1
    obtain ⟨s1, s2, s3⟩ := m_sounds hn r1 a1
    rw [if_pos hs.2.1, e1, kn_bs]
    by_cases h1 : (pAdv x s).1.1 = 1
    · rw [if_pos h1]
      cases hsn : pSnd x (pAdv x s).1.2.1 (pAdv x s).1.2.2
      · obtain ⟨μ', e2, r2⟩ := s2 h1 hsn
        rw [if_neg Bool.false_ne_true, e2, kn_bs, if_pos rfl]
        exact ⟨μ', rfl, r2⟩
      · rw [s1 h1 hsn, kn_bs, if_pos rfl, if_neg (show ¬ (1 : Int32) = 0 by decide)]
        dsimp only
        rw [r1.2.2.1.2.1, r1.2.2.1.2.2.1, pk_sub t1, kl_6]
        by_cases h6 : (pAdv x s).1.2.2 - (pAdv x s).1.2.1 ≤ 6
        · have rr := tReal a1 (by omega)
          have wd := pRow_word hsn rr h6
          have wdl := wd.2.2
          obtain ⟨μ4, e4, r4⟩ := m_wrong r1 (c := 4) (by decide) (by decide)
          have D := m_dup hn r1 hW (r := pRow x (pAdv x s).1.2.1 (pAdv x s).1.2.2) (by omega) e4 r4 (nI pt)
          rw [show (pAdv x s).2.2.1 = s.2.2.1 from rfl] at D
          rw [if_pos (show nI ((pAdv x s).1.2.2 - (pAdv x s).1.2.1) ≤ nI 6 by rw [nI_leI (by omega) (by decide)]; exact h6), if_pos h6]
          unfold jn_MD_readWord_57 jn_MD_readWord_102
          rw [r1.2.2.1.2.1, m_rowloop hn r1 a1, kn_bs, D, kn_bs, show (pAdv x s).2.2.1 = s.2.2.1 from rfl]
          by_cases hf : zFd s.2.2.1 (pRow x (pAdv x s).1.2.1 (pAdv x s).1.2.2) = none
          · rw [if_pos hf, if_pos hf]
            unfold jn_MD_readWord_144 pWd2
            generalize pRow x (pAdv x s).1.2.1 (pAdv x s).1.2.2 = row
            obtain ⟨μ2, e2, r2⟩ := m_adv hn r1 a1.1 t2
            obtain ⟨b1, b2⟩ := pAdv_tok a1
            rw [if_pos r1.2.1, e2, kn_bs, kl_10, nI_add, kn_inT (by omega) (by omega), kn_if_t, kn_if_t, nI_clamp (by omega)]
            have q2 : mSs μ0 (kbW (kbW μ2 62 (10 + s.2.2.1.length) (nI row)) 63 (10 + s.2.2.1.length) (nI pt)) x (pAdv x (pAdv x s)) := by
              obtain ⟨c1, c2, c3, ⟨o1, ⟨o2, o2'⟩, o3⟩, c5⟩ := r2
              refine ⟨?_, ?_, ?_, ⟨?_, ⟨?_, fun i hi => ?_⟩, ?_⟩, ?_⟩
              · unfold mTx at c1 ⊢; rw [kW_ne (by decide), kW_ne (by decide), kW_ne (by decide), kW_ne (by decide)]; exact c1
              · rw [kW_ne (by decide), kW_ne (by decide)]; exact c2
              · unfold mKt at c3 ⊢; rw [kW_ne (by decide), kW_ne (by decide)]; exact c3
              · rw [kW_ne (by decide), kW_ne (by decide), kW_ne (by decide), kW_ne (by decide)]; exact o1
              · rw [kW_ne (by decide), kW_ne (by decide)]; exact o2
              · have hi' : i < s.2.2.1.length := hi
                rw [kW_ne (by decide), kW_no (by omega), kW_no (by omega), kW_ne (by decide), kW_ne (by decide), kW_ne (by decide)]
                exact o2' i hi
              · rw [kW_ne (by decide), kW_ne (by decide), kW_ne (by decide), kW_ne (by decide), kW_ne (by decide), kW_ne (by decide)]; exact o3
              · unfold lw at c5 ⊢; rw [kW_ne (by decide), kW_ne (by decide), kW_ne (by decide), kW_ne (by decide), kW_ne (by decide), kW_ne (by decide), kW_ne (by decide), kW_ne (by decide)]; exact c5
            have w62 : (kbW (kbW μ2 62 (10 + s.2.2.1.length) (nI row)) 63 (10 + s.2.2.1.length) (nI pt)).1 62 (10 + s.2.2.1.length) = nI row := by rw [kW_ne (by decide), kW_at]
            have w63 : (kbW (kbW μ2 62 (10 + s.2.2.1.length) (nI row)) 63 (10 + s.2.2.1.length) (nI pt)).1 63 (10 + s.2.2.1.length) = nI pt := kW_at
            generalize kbW (kbW μ2 62 (10 + s.2.2.1.length) (nI row)) 63 (10 + s.2.2.1.length) (nI pt) = κ at q2 w62 w63
            obtain ⟨n1, n2, n3⟩ := m_num hn q2 b1 (hi := 99) (by decide)
            rw [show (99 : Int32) = nI 99 from rfl]
            have bad : ∀ {c : Nat} {μ3 : kbM}, mFf μ0 μ3 c (pAdv x (pAdv x s)).1.2.1 → mFf μ0 (kbW (kbW μ3 64 (10 + s.2.2.1.length) 0) 61 3 ((kbW μ3 64 (10 + s.2.2.1.length) 0).1 61 3 + 1)) c (pAdv x (pAdv x s)).1.2.1 := fun {c μ3} h => by
              obtain ⟨d1, d2, d3, d4, l1, l2, l3⟩ := h
              refine ⟨?_, ?_, d3, d4, fun k hk => ?_, ?_, ?_⟩
              · rw [kW_ne (by decide), kW_ne (by decide)]; exact d1
              · rw [kW_ne (by decide), kW_ne (by decide)]; exact d2
              · rw [kW_no (by omega), kW_ne (by decide)]; exact l1 k hk
              · rw [kW_ne (by decide), kW_ne (by decide), kW_ne (by decide), kW_ne (by decide)]; exact l2
              · rw [kW_ne (by decide), kW_ne (by decide)]; exact l3
            by_cases k2 : (pAdv x (pAdv x s)).1.1 = 2
            · rw [if_pos k2]
              by_cases h4 : (pAdv x (pAdv x s)).1.2.2 - (pAdv x (pAdv x s)).1.2.1 ≤ 4 ∧ pNum x (pAdv x (pAdv x s)).1.2.1 (pAdv x (pAdv x s)).1.2.2 ≤ 99
              · obtain ⟨μ3, e3, r3⟩ := n1 ⟨k2, h4.1, h4.2⟩
                have f3 := fr_f_MD_readNumber e3
                have u62 : μ3.1 62 (10 + s.2.2.1.length) = nI row := by rw [fr_at f3 (by decide) (by decide)]; exact w62
                have u63 : μ3.1 63 (10 + s.2.2.1.length) = nI pt := by rw [fr_at f3 (by decide) (by decide)]; exact w63
                rw [e3, kn_bs, kn_if_t, if_pos h4]
                generalize pNum x (pAdv x (pAdv x s)).1.2.1 (pAdv x (pAdv x s)).1.2.2 = num
                dsimp only
                obtain ⟨c1, c2, c3, ⟨o1, ⟨o2, o2'⟩, o3⟩, l1, l2, l3⟩ := r3
                have o2s : μ3.1 61 3 = nI s.2.2.1.length := o2
                refine ⟨_, rfl, ?_, ?_, ?_, ⟨?_, ⟨?_, fun i hi => ?_⟩, ?_⟩, fun k hk => ?_, ?_, ?_⟩
                · unfold mTx at c1 ⊢; rw [kW_ne (by decide), kW_ne (by decide), kW_ne (by decide), kW_ne (by decide)]; exact c1
                · rw [kW_ne (by decide), kW_ne (by decide)]; exact c2
                · unfold mKt at c3 ⊢; rw [kW_ne (by decide), kW_ne (by decide)]; exact c3
                · refine ⟨?_, ?_⟩
                  · rw [kW_no (by decide), kW_ne (by decide)]; exact o1.1
                  · rw [kW_ne (by decide), kW_ne (by decide)]; exact o1.2
                · rw [kW_at, kW_ne (by decide), o2s, nI_1]; exact congrArg nI (zW_ins _ _).1.symm
                · have hi' : i < s.2.2.1.length + 1 := by rw [← (zW_ins _ _).1]; exact hi
                  unfold zRowAt zPartAt zWorthAt
                  have g := (zW_ins s.2.2.1 (row, pt, num)).2 i hi'
                  show _ = nI (((s.2.2.1.insertIdx s.2.2.1.length _).getD i (0, 0, 0)).1) ∧ _ = nI (((s.2.2.1.insertIdx s.2.2.1.length _).getD i (0, 0, 0)).2.1) ∧ _ = nI (((s.2.2.1.insertIdx s.2.2.1.length _).getD i (0, 0, 0)).2.2)
                  rw [g, kW_ne (by decide), kW_ne (by decide), kW_ne (by decide), kW_ne (by decide), kW_ne (by decide)]
                  by_cases h : i = s.2.2.1.length
                  · rw [if_pos h, h]
                    exact ⟨u62, u63, kW_at⟩
                  · have w := o2' i (show i < s.2.2.1.length by omega)
                    unfold zRowAt zPartAt zWorthAt at w
                    rw [if_neg h, kW_no (by omega)]
                    exact w
                · refine ⟨?_, ?_⟩
                  · rw [kW_no (by decide), kW_ne (by decide)]; exact o3.1
                  · rw [kW_ne (by decide), kW_ne (by decide), kW_ne (by decide), kW_ne (by decide)]; exact o3.2
                · rw [kW_no (by omega), kW_ne (by decide)]; exact l1 k hk
                · rw [kW_ne (by decide), kW_ne (by decide), kW_ne (by decide), kW_ne (by decide)]; exact l2
                · rw [kW_ne (by decide), kW_ne (by decide)]; exact l3
              · obtain ⟨μ3, e3, r3⟩ := n2 k2 h4
                rw [e3, kn_bs, kn_if_t, if_neg h4]
                exact ⟨_, rfl, bad r3⟩
            · obtain ⟨μ3, e3, r3⟩ := n3 k2
              rw [e3, kn_bs, kn_if_t, if_neg k2]
              exact ⟨_, rfl, bad r3⟩
          · rw [if_neg hf, if_neg hf, r4.w144]
            exact ⟨μ4, rfl, r4⟩
        · obtain ⟨μ', e2, r2⟩ := m_wrong r1 (c := 2) (by decide) (by decide)
          rw [if_neg (show ¬ nI ((pAdv x s).1.2.2 - (pAdv x s).1.2.1) ≤ nI 6 by rw [nI_leI (by omega) (by decide)]; exact h6), if_neg h6, kl_2, e2, kn_bs, r2.w57 hn]
          exact ⟨μ', rfl, r2⟩
    · obtain ⟨μ', e2, r2⟩ := s3 h1
      rw [if_neg h1, e2, kn_bs, if_pos rfl]
      exact ⟨μ', rfl, r2⟩
