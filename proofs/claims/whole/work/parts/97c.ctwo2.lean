/-! one more word for the way that is behind -/
def tC (W : zW) (L L' : Nat → Nat) (l : Nat) : Prop := ∀ m, m < 60 → L' m = L m ∨ (tV W m ∧ (∃ k, tR W k (tl W m) (L' m)) ∧ L l ≤ L' m ∧ L' m ≤ L l + 6 ∧ L' m ≤ L m)
theorem c_catch {n : Nat} (hn : 1000 ≤ n) {μ : kbM} {W : zW} (hW : zWok W) (hc : cWords μ 13 14 15 16 17 W) {L : Nat → Nat} {P : Nat → Bool} {l : Nat} (hl : tV W l) (hL : cL μ L) (hll : L l ≤ 1000) (hr : ∃ k, tR W k (tl W l) (L l)) (hP : ∀ m, m < 60 → P m = true → L m ≤ L l) (hPl : P l = true) : ∃ r, f_CO_catchUp n (nI l) μ = some r ∧ ∃ L', cWords r.2 13 14 15 16 17 W ∧ cL r.2 L' ∧ tC W L L' l ∧ (∀ m, m < 60 → P m = true → L' m = L m) ∧ ((r.1 = 1 ∧ ∃ x, x < W.length ∧ tN W (tl W l) x = some (0, 0)) ∨ (r.1 = 0 ∧ ∀ x t d, x < W.length → tN W (tl W l) x = some (t, d) → t ≠ 0 ∧ ∃ m, tV W m ∧ tl W m = t ∧ L' m ≤ L l + d)) := by
  have h10 := hW.1
  have l60 := tV_lt hW hl
  have hw := hl.1
  have s6 := hW.s6 hw
  have f0' := hl.2.1
  have f1' := hl.2.2
  have rw' := hW.row hw
  have tsz := tl_size hW hl
  have tlt : tl W l < 3125 := tl_lt hW hl
  obtain ⟨kk, hkk⟩ := hr
  have key := kn_for (fun k (s : Int32 × kbM) => lp_CO_catchUp_49 n (nI l) (nI (l / 6)) (nI (l % 6)) (nI (zSize (zRowAt W (l / 6)) - l % 6)) (nI (tl W l)) k s.1 s.2) (fun i s => s.1 = nI i ∧ ∃ L', cWords s.2 13 14 15 16 17 W ∧ cL s.2 L' ∧ tC W L L' l ∧ (∀ m, m < 60 → P m = true → L' m = L m) ∧ ∀ x t d, x < i → tN W (tl W l) x = some (t, d) → t ≠ 0 ∧ ∃ m, tV W m ∧ tl W m = t ∧ L' m ≤ L l + d) W.length (fun r => ∃ ν L', cWords ν 13 14 15 16 17 W ∧ cL ν L' ∧ tC W L L' l ∧ (∀ m, m < 60 → P m = true → L' m = L m) ∧ ((r = .inl (1, ν) ∧ ∃ x, x < W.length ∧ tN W (tl W l) x = some (0, 0)) ∨ (r = .inr ν ∧ ∀ x t d, x < W.length → tN W (tl W l) x = some (t, d) → t ≠ 0 ∧ ∃ m, tV W m ∧ tl W m = t ∧ L' m ≤ L l + d)))
    (fun k s hs => by
      obtain ⟨y, ν⟩ := s
      obtain ⟨e, L', q1, q2, q3, q4, q5⟩ := hs
      simp only at e q1 q2
      subst e
      refine ⟨.inr ν, ?_, ν, L', q1, q2, q3, q4, Or.inr ⟨rfl, q5⟩⟩
      simp only [lp_CO_catchUp_49]
      rw [q1.1, if_pos (by rw [nI_leI (by omega) (by omega)]; omega)])
    (fun k i s hi hs => by
      obtain ⟨y, ν⟩ := s
      obtain ⟨e, L', q1, q2, q3, q4, q5⟩ := hs
      simp only at e q1 q2
      subst e
      have zi := hW.sz i hi
      have si := hW.s6 hi
      have ri := hW.row hi
      have ll := (q2 l l60).1
      rw [q4 l l60 hPl] at ll
      -- an update at m by value x
      have upd1 : ∀ (m x t d : Nat), tV W m → tl W m = t → tN W (tl W l) i = some (t, d) → x = L l + d → d ≤ 6 → tC W L (tU L' m (min (L' m) x)) l ∧ (∀ m', m' < 60 → P m' = true → tU L' m (min (L' m) x) m' = L m') ∧ (∀ x' t' d', x' < i + 1 → tN W (tl W l) x' = some (t', d') → t' ≠ 0 ∧ ∃ m', tV W m' ∧ tl W m' = t' ∧ tU L' m (min (L' m) x) m' ≤ L l + d') := by
        intro m x t d v1 v2 v3 v4 v5
        have m60 := tV_lt hW v1
        have le : ∀ m', tU L' m (min (L' m) x) m' ≤ L' m' := fun m' => by
          by_cases e : m' = m
          · subst e; rw [tU_at]; exact Nat.min_le_left _ _
          · rw [tU_no e]; exact Nat.le_refl _
        refine ⟨fun m' hm' => ?_, fun m' hm' hpm => ?_, fun x' t' d' hx' hn' => ?_⟩
        · by_cases e : m' = m
          · subst e
            rw [tU_at]
            by_cases c : L' m' ≤ x
            · rw [Nat.min_eq_left c]; exact q3 m' hm'
            · rw [Nat.min_eq_right (by omega)]
              have q := q3 m' hm'
              exact Or.inr ⟨v1, ⟨kk + 1, tl W l, L l, i, d, hkk, tl_pos hW hl, hi, by rw [v2]; exact v3, v4⟩, by omega, by omega, by rcases q with q | q <;> omega⟩
          · rw [tU_no e]; exact q3 m' hm'
        · by_cases e : m' = m
          · subst e
            rw [tU_at, q4 m' hm' hpm]
            have := hP m' hm' hpm
            exact Nat.min_eq_left (by omega)
          · rw [tU_no e]; exact q4 m' hm' hpm
        · by_cases e : x' = i
          · subst e
            rw [v3] at hn'
            simp only [Option.some.injEq, Prod.mk.injEq] at hn'
            obtain ⟨rfl, rfl⟩ := hn'
            refine ⟨by rw [← v2]; exact tl_pos hW v1, m, v1, v2, ?_⟩
            rw [tU_at, ← v4]; exact Nat.min_le_right _ _
          · obtain ⟨w1, m', w2, w3, w4⟩ := q5 x' t' d' (by omega) hn'
            exact ⟨w1, m', w2, w3, Nat.le_trans (le m') w4⟩
      have rest : ∀ (L'' : Nat → Nat), (tN W (tl W l) i = none) → L'' = L' → ∀ x' t' d', x' < i + 1 → tN W (tl W l) x' = some (t', d') → t' ≠ 0 ∧ ∃ m', tV W m' ∧ tl W m' = t' ∧ L'' m' ≤ L l + d' := by
        intro L'' hnn eL x' t' d' hx' hn'
        subst eL
        by_cases e : x' = i
        · subst e; rw [hnn] at hn'; cases hn'
        · exact q5 x' t' d' (by omega) hn'
      have tNe : tN W (tl W l) i = (if zSize (zRowAt W i) ≤ zSize (zRowAt W (l / 6)) - l % 6 ∧ tl W l / 5 ^ (zSize (zRowAt W (l / 6)) - l % 6 - zSize (zRowAt W i)) = zRowAt W i then some (tl W l % 5 ^ (zSize (zRowAt W (l / 6)) - l % 6 - zSize (zRowAt W i)), 0) else if zSize (zRowAt W (l / 6)) - l % 6 ≤ zSize (zRowAt W i) ∧ zRowAt W i / 5 ^ (zSize (zRowAt W i) - (zSize (zRowAt W (l / 6)) - l % 6)) = tl W l then some (zRowAt W i % 5 ^ (zSize (zRowAt W i) - (zSize (zRowAt W (l / 6)) - l % 6)), zSize (zRowAt W i % 5 ^ (zSize (zRowAt W i) - (zSize (zRowAt W (l / 6)) - l % 6)))) else none) := by
        unfold tN zBo
        rw [tsz]
        split <;> rename_i h1
        · split at h1
          · rename_i c1; cases h1; rw [if_pos c1]
          · cases h1
        · split at h1
          · cases h1
          · rename_i c1
            rw [if_neg c1]
            split <;> rename_i h2
            · split at h2
              · rename_i c2; cases h2; rw [if_pos c2]
              · cases h2
            · split at h2
              · cases h2
              · rename_i c2; rw [if_neg c2]
      by_cases hle : zSize (zRowAt W i) ≤ zSize (zRowAt W (l / 6)) - l % 6
      · -- the word is no longer than what is ahead
        have sl1 := ro_slice (v := tl W l) (z := zSize (zRowAt W (l / 6)) - l % 6) (a := 0) (b := zSize (zRowAt W i)) (by omega) (by omega) hle (by omega)
        have sl2 := ro_slice (v := zRowAt W i) (z := zSize (zRowAt W i)) (a := 0) (b := zSize (zRowAt W i)) (by omega) (by omega) (Nat.le_refl _) (by omega)
        have top := z_top (v := tl W l) (b := zSize (zRowAt W i)) (by omega)
        rw [tsz] at top
        rw [Nat.sub_zero, Nat.mod_eq_of_lt top] at sl1
        rw [Nat.sub_zero, Nat.sub_self, Nat.pow_zero, Nat.div_one, Nat.mod_eq_of_lt ((zSize_le _ _).mp (Nat.le_refl _))] at sl2
        have lt1 := Nat.div_le_self (tl W l) (5 ^ (zSize (zRowAt W (l / 6)) - l % 6 - zSize (zRowAt W i)))
        have start : lp_CO_catchUp_49 n (nI l) (nI (l / 6)) (nI (l % 6)) (nI (zSize (zRowAt W (l / 6)) - l % 6)) (nI (tl W l)) (k + 1) (nI i) ν = if nI (tl W l / 5 ^ (zSize (zRowAt W (l / 6)) - l % 6 - zSize (zRowAt W i))) = nI (zRowAt W i) then (if nI (zSize (zRowAt W (l / 6)) - l % 6) = nI (zSize (zRowAt W i)) then some (.inl (1, ν)) else if nI (zSize (zRowAt W (l / 6)) - l % 6) ≤ nI (zSize (zRowAt W i)) then (f_CO_shorten (nI i) (nI (zSize (zRowAt W (l / 6)) - l % 6)) ((nI (L l) + nI (zSize (zRowAt W i))) - nI (zSize (zRowAt W (l / 6)) - l % 6)) ν).bind fun x4 => lp_CO_catchUp_49 n (nI l) (nI (l / 6)) (nI (l % 6)) (nI (zSize (zRowAt W (l / 6)) - l % 6)) (nI (tl W l)) k (nI (i + 1)) x4 else (f_CO_shorten (nI (l / 6)) (nI (l % 6 + zSize (zRowAt W i))) (nI (L l)) ν).bind fun x5 => lp_CO_catchUp_49 n (nI l) (nI (l / 6)) (nI (l % 6)) (nI (zSize (zRowAt W (l / 6)) - l % 6)) (nI (tl W l)) k (nI (i + 1)) x5) else lp_CO_catchUp_49 n (nI l) (nI (l / 6)) (nI (l % 6)) (nI (zSize (zRowAt W (l / 6)) - l % 6)) (nI (tl W l)) k (nI (i + 1)) ν := by
          simp only [lp_CO_catchUp_49, jn_CO_catchUp_167]
          rw [q1.1, if_neg (by rw [nI_leI (by omega) (by omega)]; omega), kn_inT (show i < 10 by omega) (by omega), nI_clamp (show i < 2 ^ 31 by omega), (q1.2 i hi).1, (q1.2 i hi).2.1, kb_min (by omega) (by omega), Nat.min_eq_right hle, show f_RO_slice (nI (tl W l)) (nI (zSize (zRowAt W (l / 6)) - l % 6)) 0 (nI (zSize (zRowAt W i))) = _ from sl1, show f_RO_slice (nI (zRowAt W i)) (nI (zSize (zRowAt W i))) 0 (nI (zSize (zRowAt W i))) = _ from sl2, kn_inT l60 (by omega), nI_clamp (show l < 2 ^ 31 by omega), ll, nI_1, nI_add (l % 6)]
          simp only [kn_if_t, kn_bs]
        by_cases hm : tl W l / 5 ^ (zSize (zRowAt W (l / 6)) - l % 6 - zSize (zRowAt W i)) = zRowAt W i
        · rw [if_pos ⟨hle, hm⟩] at tNe
          by_cases he : zSize (zRowAt W i) = zSize (zRowAt W (l / 6)) - l % 6
          · refine Or.inl ⟨.inl (1, ν), ?_, ν, L', q1, q2, q3, q4, Or.inl ⟨rfl, i, hi, ?_⟩⟩
            · simp only; rw [start, if_pos (by rw [hm]), if_pos (by rw [he])]
            · rw [tNe, show zSize (zRowAt W (l / 6)) - l % 6 - zSize (zRowAt W i) = 0 by omega, Nat.pow_zero, Nat.mod_one]
          · have st := t_step hW hl hi tNe
            rcases st with q | q | q
            · exact absurd q.2.2.1 he
            · obtain ⟨-, -, -, v1, v2⟩ := q
              have m60 := tV_lt hW v1
              have ixe : l / 6 * 6 + (l % 6 + zSize (zRowAt W i)) = l + zSize (zRowAt W i) := by omega
              have sh := c_shorten q2 (w := l / 6) (f := l % 6 + zSize (zRowAt W i)) (s := L l) (by omega) (by omega)
              rw [ixe] at sh
              have u := upd1 (l + zSize (zRowAt W i)) (L l) _ 0 v1 v2 tNe (by omega) (by omega)
              refine Or.inr ⟨(nI (i + 1), kbW ν 49 (l + zSize (zRowAt W i)) (nI (min (L' (l + zSize (zRowAt W i))) (L l)))), ?_, rfl, tU L' (l + zSize (zRowAt W i)) (min (L' (l + zSize (zRowAt W i))) (L l)), cW.w q1 _ _, q2.up (by have := (q2 _ m60).2; omega), u⟩
              simp only; rw [start, if_pos (by rw [hm]), if_neg (by rw [nI_eq (by omega) (by omega)]; omega), if_neg (by rw [nI_leI (by omega) (by omega)]; omega), sh, kn_bs]
            · exact absurd q.1 (by omega)
        · have hnn : tN W (tl W l) i = none := by
            rw [tNe, if_neg (fun z => hm z.2), if_neg]
            rintro ⟨z1, z2⟩
            have e : zSize (zRowAt W i) = zSize (zRowAt W (l / 6)) - l % 6 := by omega
            rw [show zSize (zRowAt W i) - (zSize (zRowAt W (l / 6)) - l % 6) = 0 by omega, Nat.pow_zero, Nat.div_one] at z2
            rw [show zSize (zRowAt W (l / 6)) - l % 6 - zSize (zRowAt W i) = 0 by omega, Nat.pow_zero, Nat.div_one] at hm
            exact hm z2.symm
          refine Or.inr ⟨(nI (i + 1), ν), ?_, rfl, L', q1, q2, q3, q4, rest L' hnn rfl⟩
          simp only; rw [start, if_neg (by rw [nI_eq (by omega) (by omega)]; exact hm)]
      · -- the word is longer
        have sl1 := ro_slice (v := tl W l) (z := zSize (zRowAt W (l / 6)) - l % 6) (a := 0) (b := zSize (zRowAt W (l / 6)) - l % 6) (by omega) (by omega) (Nat.le_refl _) (by omega)
        have sl2 := ro_slice (v := zRowAt W i) (z := zSize (zRowAt W i)) (a := 0) (b := zSize (zRowAt W (l / 6)) - l % 6) (by omega) (by omega) (by omega) (by omega)
        have tlt2 : tl W l < 5 ^ (zSize (zRowAt W (l / 6)) - l % 6) := Nat.mod_lt _ (five_pos _)
        rw [Nat.sub_zero, Nat.sub_self, Nat.pow_zero, Nat.div_one, Nat.mod_eq_of_lt tlt2] at sl1
        rw [Nat.sub_zero, Nat.mod_eq_of_lt (z_top (by omega))] at sl2
        have lt1 := Nat.div_le_self (zRowAt W i) (5 ^ (zSize (zRowAt W i) - (zSize (zRowAt W (l / 6)) - l % 6)))
        have sub1 : nI (L l) + nI (zSize (zRowAt W i)) - nI (zSize (zRowAt W (l / 6)) - l % 6) = nI (L l + (zSize (zRowAt W i) - (zSize (zRowAt W (l / 6)) - l % 6))) := by
          rw [nI_add, pk_sub (by omega)]
          congr 1
          omega
        have start : lp_CO_catchUp_49 n (nI l) (nI (l / 6)) (nI (l % 6)) (nI (zSize (zRowAt W (l / 6)) - l % 6)) (nI (tl W l)) (k + 1) (nI i) ν = if nI (tl W l) = nI (zRowAt W i / 5 ^ (zSize (zRowAt W i) - (zSize (zRowAt W (l / 6)) - l % 6))) then (f_CO_shorten (nI i) (nI (zSize (zRowAt W (l / 6)) - l % 6)) (nI (L l + (zSize (zRowAt W i) - (zSize (zRowAt W (l / 6)) - l % 6)))) ν).bind fun x4 => lp_CO_catchUp_49 n (nI l) (nI (l / 6)) (nI (l % 6)) (nI (zSize (zRowAt W (l / 6)) - l % 6)) (nI (tl W l)) k (nI (i + 1)) x4 else lp_CO_catchUp_49 n (nI l) (nI (l / 6)) (nI (l % 6)) (nI (zSize (zRowAt W (l / 6)) - l % 6)) (nI (tl W l)) k (nI (i + 1)) ν := by
          simp only [lp_CO_catchUp_49, jn_CO_catchUp_167]
          rw [q1.1, if_neg (by rw [nI_leI (by omega) (by omega)]; omega), kn_inT (show i < 10 by omega) (by omega), nI_clamp (show i < 2 ^ 31 by omega), (q1.2 i hi).1, (q1.2 i hi).2.1, kb_min (by omega) (by omega), Nat.min_eq_left (by omega), show f_RO_slice (nI (tl W l)) (nI (zSize (zRowAt W (l / 6)) - l % 6)) 0 (nI (zSize (zRowAt W (l / 6)) - l % 6)) = _ from sl1, show f_RO_slice (nI (zRowAt W i)) (nI (zSize (zRowAt W i))) 0 (nI (zSize (zRowAt W (l / 6)) - l % 6)) = _ from sl2, kn_inT l60 (by omega), nI_clamp (show l < 2 ^ 31 by omega), ll, nI_1, sub1]
          simp only [kn_if_t, kn_bs]
          rw [if_neg (show ¬ nI (zSize (zRowAt W (l / 6)) - l % 6) = nI (zSize (zRowAt W i)) by rw [nI_eq (by omega) (by omega)]; omega), if_pos (show nI (zSize (zRowAt W (l / 6)) - l % 6) ≤ nI (zSize (zRowAt W i)) by rw [nI_leI (by omega) (by omega)]; omega)]
        rw [if_neg (fun z => hle z.1)] at tNe
        by_cases hm : zRowAt W i / 5 ^ (zSize (zRowAt W i) - (zSize (zRowAt W (l / 6)) - l % 6)) = tl W l
        · rw [if_pos ⟨by omega, hm⟩] at tNe
          have st := t_step hW hl hi tNe
          rcases st with q | q | q
          · exact absurd q.2.2.1 (by omega)
          · exact absurd q.1 (by omega)
          · obtain ⟨-, hd, -, v1, v2⟩ := q
            have m60 := tV_lt hW v1
            have sh := c_shorten q2 (w := i) (f := zSize (zRowAt W (l / 6)) - l % 6) (s := L l + (zSize (zRowAt W i) - (zSize (zRowAt W (l / 6)) - l % 6))) m60 (by omega)
            have u := upd1 (i * 6 + (zSize (zRowAt W (l / 6)) - l % 6)) (L l + (zSize (zRowAt W i) - (zSize (zRowAt W (l / 6)) - l % 6))) _ _ v1 v2 tNe (by omega) (by omega)
            refine Or.inr ⟨(nI (i + 1), kbW ν 49 (i * 6 + (zSize (zRowAt W (l / 6)) - l % 6)) (nI (min (L' (i * 6 + (zSize (zRowAt W (l / 6)) - l % 6))) (L l + (zSize (zRowAt W i) - (zSize (zRowAt W (l / 6)) - l % 6)))))), ?_, rfl, tU L' (i * 6 + (zSize (zRowAt W (l / 6)) - l % 6)) (min (L' (i * 6 + (zSize (zRowAt W (l / 6)) - l % 6))) (L l + (zSize (zRowAt W i) - (zSize (zRowAt W (l / 6)) - l % 6)))), cW.w q1 _ _, q2.up (by have := (q2 _ m60).2; omega), u⟩
            simp only; rw [start, if_pos (by rw [hm]), sh, kn_bs]
        · have hnn : tN W (tl W l) i = none := by rw [tNe, if_neg (fun z => hm z.2)]
          refine Or.inr ⟨(nI (i + 1), ν), ?_, rfl, L', q1, q2, q3, q4, rest L' hnn rfl⟩
          simp only; rw [start, if_neg (by rw [nI_eq (by omega) (by omega)]; exact fun z => hm z.symm)])
    W.length 0 n (0, μ) (by omega) (by omega) ⟨rfl, L, hc, hL, fun m _ => Or.inl rfl, fun m _ _ => rfl, fun x t d hx => absurd hx (Nat.not_lt_zero x)⟩
  obtain ⟨r, e1, ν, L', g1, g2, g3, g4, g5⟩ := key
  have sl := ro_slice (v := zRowAt W (l / 6)) (z := zSize (zRowAt W (l / 6))) (a := l % 6) (b := zSize (zRowAt W (l / 6))) (by omega) (by omega) (Nat.le_refl _) (by omega)
  rw [Nat.sub_self, Nat.pow_zero, Nat.div_one] at sl
  have eq : f_CO_catchUp n (nI l) μ = kbOr (some r) (fun r7 => some r7) fun x6 => some (0, x6) := by
    unfold f_CO_catchUp
    rw [kl_6, kn_div (by omega) (by decide) (by decide), kn_rem (by omega) (by decide) (by decide), kn_inT (show l / 6 < 10 by omega) (by omega), kn_if_t, kn_if_t, nI_clamp (show l / 6 < 2 ^ 31 by omega), (hc.2 _ hw).1, (hc.2 _ hw).2.1, sl, kn_bs, pk_sub (by omega), show lp_CO_catchUp_49 n (nI l) (nI (l / 6)) (nI (l % 6)) (nI (zSize (zRowAt W (l / 6)) - l % 6)) (nI (zRowAt W (l / 6) % 5 ^ (zSize (zRowAt W (l / 6)) - l % 6))) n 0 μ = some r from e1]
  rcases g5 with ⟨e2, g6⟩ | ⟨e2, g6⟩
  · exact ⟨(1, ν), by rw [eq, e2]; rfl, L', g1, g2, g3, g4, Or.inl ⟨rfl, g6⟩⟩
  · exact ⟨(0, ν), by rw [eq, e2]; rfl, L', g1, g2, g3, g4, Or.inr ⟨rfl, g6⟩⟩
def tP (P : Nat → Bool) (l : Nat) : Nat → Bool := fun m => if m = l then true else P m
theorem zCnt_up {P : Nat → Bool} {l : Nat} (hp : P l = false) : ∀ c, l < c → zCnt (tP P l) c = zCnt P c + 1 := by
  have low : ∀ c, c ≤ l → zCnt (tP P l) c = zCnt P c := fun c hc => zCnt_congr fun i hi => by unfold tP; rw [if_neg (by omega)]
  intro c
  induction c with
  | zero => intro h; omega
  | succ c ih =>
    intro h
    rw [zCnt_s, zCnt_s]
    by_cases e : l = c
    · subst e
      rw [low l (Nat.le_refl _), hp]
      unfold tP
      simp
    · have e' : tP P l c = P c := by unfold tP; rw [if_neg (show ¬ c = l from fun z => e z.symm)]
      rw [ih (by omega), e']
      omega
theorem zCnt_full {P : Nat → Bool} {c : Nat} (h : zCnt P c = c) : ∀ i, i < c → P i = true := by
  intro i hi
  cases hp : P i with
  | true => rfl
  | false =>
    have h1 := zCnt_up hp c hi
    have h2 := zCnt_le (tP P i) c
    omega
def tAns (W : zW) (v : Int32) : Prop := (v = -1 ∧ ∀ k s, ¬ tR W k 0 s) ∨ ∃ s, v = nI s ∧ s ≤ 1000 ∧ (∃ k, tR W k 0 s) ∧ ∀ k s', tR W k 0 s' → s ≤ s'
theorem c_two {n : Nat} (hn : 1000 ≤ n) {μ : kbM} {W : zW} (hW : zWok W) (hc : cWords μ 13 14 15 16 17 W) : ∃ r, f_CO_shortestAmbiguous n μ = some r ∧ tAns W r.1 := by
  have h10 := hW.1
  obtain ⟨μ1, L0, e1, c1, k1, p1, d1⟩ := c_beginT hn hW hc
  have key := kn_for (fun k (s : Int32 × kbM) => lp_CO_shortestAmbiguous_6 n k s.1 s.2) (fun i s => s.1 = nI i ∧ ∃ L P, cWords s.2 13 14 15 16 17 W ∧ cL s.2 L ∧ cP s.2 P ∧ tDj W L P i ∧ zCnt P 60 = i) 60 (fun r => ∃ ν v, (r = .inl (v, ν) ∧ tAns W v) ∨ (r = .inr ν ∧ ∀ k s, ¬ tR W k 0 s))
    (fun k s hs => by
      obtain ⟨y, ν⟩ := s
      obtain ⟨e, L, P, q1, q2, q3, q4, q5⟩ := hs
      simp only at e
      subst e
      refine ⟨.inr ν, ?_, ν, 0, Or.inr ⟨rfl, fun k s hr => ?_⟩⟩
      · simp only [lp_CO_shortestAmbiguous_6]
        rw [if_pos (by decide)]
      · obtain ⟨m, m1, m2, -, -⟩ := tDj_end hW (by omega) q4 hr
        rw [zCnt_full q5 m (tV_lt hW m1)] at m2
        cases m2)
    (fun k i s hi hs => by
      obtain ⟨y, ν⟩ := s
      obtain ⟨e, L, P, q1, q2, q3, q4, q5⟩ := hs
      simp only at e q1 q2 q3
      subst e
      obtain ⟨o, e2, g1, g2⟩ := c_lead hn q2 q3
      cases o with
      | none =>
        refine Or.inl ⟨.inl (-1, ν), ?_, ν, -1, Or.inl ⟨rfl, Or.inl ⟨rfl, fun k s hr => ?_⟩⟩⟩
        · simp only [lp_CO_shortestAmbiguous_6]
          rw [show (60 : Int32) = nI 60 from rfl, if_neg (by rw [nI_leI (by decide) (by omega)]; omega), e2, kn_bs, if_pos (show zFewI none = -1 from rfl)]
        · obtain ⟨m, m1, m2, m3, -⟩ := tDj_end hW (by omega) q4 hr
          exact absurd m3 (g1 rfl m (tV_lt hW m1) m2)
      | some l =>
        obtain ⟨b1, b2, b3, b4⟩ := g2 l rfl
        obtain ⟨v1, v2, v3⟩ := q4.1 l b1 b3
        have pl : tP P l l = true := by unfold tP; rw [if_pos rfl]
        have pm : ∀ m, m < 60 → tP P l m = true → L m ≤ L l := by
          intro m hm hpm
          by_cases e : m = l
          · subst e; exact Nat.le_refl _
          · unfold tP at hpm
            rw [if_neg e] at hpm
            exact q4.2.2.2 m l hm b1 hpm b2 b3
        have cL5 : cL (kbW ν 50 l 1) L := fun m hm => by rw [kW_ne (by decide)]; exact q2 m hm
        obtain ⟨r, e3, L', w1, w2, w3, w4, w5⟩ := c_catch hn hW (cW.w5 q1 l 1) v1 cL5 (by omega) v2 pm pl
        have f3 := fr_f_CO_catchUp e3
        have start : lp_CO_shortestAmbiguous_6 n (k + 1) (nI i) ν = if r.1 = 0 then lp_CO_shortestAmbiguous_6 n k (nI (i + 1)) r.2 else some (.inl (r.2.1 49 l, r.2)) := by
          simp only [lp_CO_shortestAmbiguous_6]
          rw [show (60 : Int32) = nI 60 from rfl, if_neg (by rw [nI_leI (by decide) (by omega)]; omega), e2, kn_bs, show zFewI (some l) = nI l from rfl, if_neg (by rw [kn_nm1 (by omega)]; exact id), kn_inT b1 (by omega), kn_if_t, nI_clamp (by omega), show vp_nar .boolean 1 = 1 from rfl, e3, kn_bs, nI_1, kn_if_t]
        rcases w5 with ⟨r1, x, hx, hN⟩ | ⟨r0, hN⟩
        · refine Or.inl ⟨.inl (r.2.1 49 l, r.2), ?_, r.2, r.2.1 49 l, Or.inl ⟨rfl, Or.inr ⟨L l, ?_, by omega, ?_, fun k s' hr => ?_⟩⟩⟩
          · simp only; rw [start, if_neg (by rw [r1]; decide)]
          · rw [(w2 l b1).1, w4 l b1 pl]
          · obtain ⟨kk, hkk⟩ := v2
            exact ⟨kk + 1, tl W l, L l, x, 0, hkk, tl_pos hW v1, hx, hN, rfl⟩
          · obtain ⟨m, m1, m2, m3, m4⟩ := tDj_end hW (by omega) q4 hr
            exact Nat.le_trans (b4 m (tV_lt hW m1) m2 m3) m4
        · refine Or.inr ⟨(nI (i + 1), r.2), ?_, rfl, L', tP P l, w1, w2, fun m hm => ?_, ⟨fun m hm hlt => ?_, fun m hm hpm => ?_, fun a b t ha hb hab hz => ?_, fun m m' hm hm' hpm hpm' hlt => ?_⟩, by rw [zCnt_up b2 60 b1, q5]⟩
          · simp only; rw [start, if_pos r0]
          · simp only
            rw [fr_at f3 (by decide) (by decide)]
            by_cases e : m = l
            · subst e; rw [pl]; exact kW_at
            · rw [kW_no e]; unfold tP; rw [if_neg e]; exact q3 m hm
          · rcases w3 m hm with q | q
            · rw [q] at hlt ⊢
              have := q4.1 m hm hlt
              exact ⟨this.1, this.2.1, by omega⟩
            · exact ⟨q.1, q.2.1, by omega⟩
          · have em := w4 m hm hpm
            rw [em]
            by_cases e : m = l
            · subst e; exact ⟨b3, hN⟩
            · have hpm2 := hpm
              unfold tP at hpm2
              rw [if_neg e] at hpm2
              obtain ⟨z1, z2⟩ := q4.2.1 m hm hpm2
              refine ⟨z1, fun x t d hx hn => ?_⟩
              obtain ⟨y1, m', y2, y3, y4⟩ := z2 x t d hx hn
              refine ⟨y1, m', y2, y3, ?_⟩
              rcases w3 m' (tV_lt hW y2) with q | q <;> omega
          · obtain ⟨m', y2, y3, y4⟩ := q4.2.2.1 a b t ha hb hab hz
            refine ⟨m', y2, y3, ?_⟩
            rcases w3 m' (tV_lt hW y2) with q | q <;> omega
          · have em := w4 m hm hpm
            rw [em]
            have ml := pm m hm hpm
            have ne : m' ≠ l := fun z => by rw [z, pl] at hpm'; cases hpm'
            unfold tP at hpm'
            rw [if_neg ne] at hpm'
            rcases w3 m' hm' with q | q
            · rw [q] at hlt ⊢
              exact Nat.le_trans ml (b4 m' hm' hpm' hlt)
            · omega)
    60 0 n (0, μ1) (by omega) (by omega) ⟨rfl, L0, fun _ => false, c1, k1, p1, d1, by decide⟩
  obtain ⟨r, e2, ν, v, h⟩ := key
  have eq : f_CO_shortestAmbiguous n μ = kbOr (some r) (fun r5 => some r5) fun x4 => some (-1, x4) := by
    unfold f_CO_shortestAmbiguous
    rw [e1, kn_bs, show lp_CO_shortestAmbiguous_6 n n 0 μ1 = some r from e2]
  rcases h with ⟨e3, h⟩ | ⟨e3, h⟩
  · exact ⟨(v, ν), by rw [eq, e3]; rfl, h⟩
  · exact ⟨(-1, ν), by rw [eq, e3]; rfl, Or.inl ⟨rfl, h⟩⟩
