/-! the class: a sound is passed; the whole row -/
theorem zDg_slice {v j : Nat} (hv : v ≤ 244140624) (hj : j < zSize v) : f_RO_soundAt (nI v) (nI (zSize v)) (nI j) = some (nI (zDg v j)) := by
  have h12 := zSize_12.mpr hv
  have := ro_slice (v := v) (z := zSize v) (a := j) (b := j + 1) (by omega) (by omega) hj h12
  rw [show j + 1 - j = 1 by omega, Nat.pow_one, show zSize v - (j + 1) = zSize v - 1 - j by omega] at this
  unfold f_RO_soundAt
  rw [nI_1, this, kn_bs]
  rfl
theorem c_ps_in {n : Nat} {W : zW} {C : List Int} (hW : zWok W) {w x : Nat} (hx : x < 5) (hw : w < W.length) : ∀ (j k : Nat) (κ : kbM) (K : Nat → Nat → Nat), j ≤ zSize (zRowAt W w) → j < k → cRule κ W C → cK κ W K → (∀ b, b ≤ j → K w b < 2 ^ 29) → ∃ ν K', lp_SP_passSound_33 n (nI x) (nI w) (nI (w * 7)) (nI (zSize (zRowAt W w))) k (nI j) κ = some ν ∧ cRule ν W C ∧ cK ν W K' ∧ ∀ a b, K' a b = if a = w ∧ 0 < b ∧ b ≤ j then mPs W x K w b else K a b := by
  have h10 := hW.1
  have s6 := hW.s6 hw
  have rw' := hW.row hw
  intro j
  induction j with
  | zero =>
    intro k κ K _ hk h1 h2 _
    obtain ⟨k, rfl⟩ : ∃ q, k = q + 1 := ⟨k - 1, by omega⟩
    refine ⟨κ, K, ?_, h1, h2, fun a b => by rw [if_neg (by omega)]⟩
    simp only [lp_SP_passSound_33]
    rw [if_pos (by decide)]
  | succ j ih =>
    intro k κ K hj hk h1 h2 h3
    obtain ⟨k, rfl⟩ : ∃ q, k = q + 1 := ⟨k - 1, by omega⟩
    have a1 := h2 w (j + 1) hw hj
    have a2 := h2 w j hw (by omega)
    have b1 := h3 (j + 1) (Nat.le_refl _)
    have b2 := h3 j (by omega)
    have hm : mPs W x K w (j + 1) = min (K w (j + 1) + 1) (K w j + (if zDg (zRowAt W w) j = x then 0 else 1)) := by
      unfold mPs; rw [if_neg (by omega), Nat.add_sub_cancel]
    have hml : mPs W x K w (j + 1) < 2 ^ 30 := by rw [hm]; omega
    have d5 := zDg_lt (zRowAt W w) j
    obtain ⟨ν, K', e1, r1, k1, o1⟩ := ih k (kbW κ 47 (w * 7 + (j + 1)) (nI (mPs W x K w (j + 1)))) (mUp K w (j + 1) (mPs W x K w (j + 1))) (by omega) (by omega) (h1.fr (C := [47]) (S := []) (kbFr.w kbFr.rf (by decide)) (by decide)) (h2.up hW hw hj hml) (fun b hb => by rw [mUp_no (by omega)]; exact h3 b (by omega))
    refine ⟨ν, K', ?_, r1, k1, fun a b => ?_⟩
    · have fin : ∀ t : Nat, t ≤ 1 → mPs W x K w (j + 1) = min (K w (j + 1) + 1) (K w j + t) → jn_SP_passSound_88 n (lp_SP_passSound_33 n (nI x) (nI w) (nI (w * 7)) (nI (zSize (zRowAt W w))) k) (nI x) (nI w) (nI (w * 7)) (nI (zSize (zRowAt W w))) (nI (j + 1)) (nI (K w j)) (nI t) κ = some ν := by
        intro t ht et
        simp only [jn_SP_passSound_88]
        rw [nI_add, kn_inT (show w * 7 + (j + 1) < 70 by omega) (by omega), nI_clamp (show w * 7 + (j + 1) < 2 ^ 31 by omega), a1.1, nI_1, nI_add, kb_min (by omega) (by omega), ← et, kn_dec, nI_pred]
        simp only [kn_if_t]
        exact e1
      have sl := zDg_slice (v := zRowAt W w) (j := j) rw'.1 (by omega)
      simp only [lp_SP_passSound_33, jn_SP_passSound_65]
      rw [if_neg (by rw [kn_le0 (by omega)]; omega), kn_inT (show w < 10 by omega) (by omega), kn_if_t, nI_clamp (show w < 2 ^ 31 by omega), (h1.1.2 w hw).1, nI_pred, sl, kn_bs, nI_add, kn_sub1 (by omega), show w * 7 + (j + 1) - 1 = w * 7 + j by omega, kn_inT (show w * 7 + j < 70 by omega) (by omega), nI_clamp (show w * 7 + j < 2 ^ 31 by omega), a2.1]
      simp only [kn_if_t]
      by_cases e : zDg (zRowAt W w) j = x
      · rw [if_pos (by rw [e]), if_neg (by decide)]
        exact fin 0 (by omega) (by rw [hm, if_pos e])
      · rw [if_neg (by rw [nI_eq (by omega) (by omega)]; exact e), if_pos trivial]
        exact fin 1 (by omega) (by rw [hm, if_neg e])
    · rw [o1]
      by_cases e : a = w ∧ 0 < b ∧ b ≤ j
      · rw [if_pos e, if_pos ⟨e.1, e.2.1, by omega⟩]
        obtain ⟨rfl, hb0, hbj⟩ := e
        unfold mPs
        rw [if_neg (show ¬ b = 0 by omega), if_neg (show ¬ b = 0 by omega), mUp_no (by omega), mUp_no (by omega)]
      · rw [if_neg e]
        by_cases e2 : a = w ∧ b = j + 1
        · obtain ⟨rfl, rfl⟩ := e2
          rw [mUp_at, if_pos ⟨rfl, by omega, Nat.le_refl _⟩]
        · rw [mUp_no e2, if_neg (by omega)]
theorem c_pass {n : Nat} (hn : 1000 ≤ n) {μ : kbM} {W : zW} {C : List Int} (hW : zWok W) {K : Nat → Nat → Nat} {x : Nat} (hx : x < 5) (hR : cRule μ W C) (hK : cK μ W K) (hb : ∀ w k, w < W.length → k ≤ zSize (zRowAt W w) → K w k < 1000) : ∃ ν K', f_SP_passSound n (nI x) μ = some ν ∧ cRule ν W C ∧ cK ν W K' ∧ ∀ w k, w < W.length → k ≤ zSize (zRowAt W w) → K' w k = mPs W x K w k := by
  have h10 := hW.1
  obtain ⟨ν, e1, K', q⟩ := kn_for (fun k (s : Int32 × kbM) => lp_SP_passSound_2 n (nI x) k s.1 s.2) (fun i s => s.1 = nI i ∧ ∃ K', cRule s.2 W C ∧ cK s.2 W K' ∧ ∀ w k, w < W.length → k ≤ zSize (zRowAt W w) → K' w k = if w < i then mPs W x K w k else K w k) W.length (fun ν => ∃ K', cRule ν W C ∧ cK ν W K' ∧ ∀ w k, w < W.length → k ≤ zSize (zRowAt W w) → K' w k = mPs W x K w k)
    (fun k s hs => by
      obtain ⟨y, ν⟩ := s
      obtain ⟨e1, K', q1, q2, q3⟩ := hs
      simp only at e1 q1 q2
      subst e1
      refine ⟨ν, ?_, K', q1, q2, fun w k hw hk => by rw [q3 w k hw hk, if_pos hw]⟩
      simp only [lp_SP_passSound_2]
      rw [q1.1.1, if_pos (by rw [nI_leI (by omega) (by omega)]; omega)])
    (fun k i s hi hs => by
      obtain ⟨y, ν⟩ := s
      obtain ⟨e1, K', q1, q2, q3⟩ := hs
      simp only at e1 q1 q2
      subst e1
      have s6 := hW.s6 hi
      have old : ∀ b, b ≤ zSize (zRowAt W i) → K' i b = K i b := fun b hb => by rw [q3 i b hi hb, if_neg (Nat.lt_irrefl _)]
      obtain ⟨ν1, K1, e1, r1, k1, o1⟩ := c_ps_in (n := n) (x := x) hW hx hi (zSize (zRowAt W i)) n ν K' (Nat.le_refl _) (by omega) q1 q2 (fun b hb' => by rw [old b hb']; have := hb i b hi hb'; omega)
      have k0 := k1 i 0 hi (Nat.zero_le _)
      rw [Nat.add_zero] at k0
      have e0 : K1 i 0 = K i 0 := by rw [o1, if_neg (by omega), old 0 (Nat.zero_le _)]
      have b0 := hb i 0 hi (Nat.zero_le _)
      have u1 := k1.up hW (w := i) (k := 0) (x := K i 0 + 1) hi (Nat.zero_le _) (by omega)
      rw [Nat.add_zero] at u1
      refine Or.inr ⟨(nI (i + 1), kbW ν1 47 (i * 7) (nI (K i 0 + 1))), ?_, rfl, mUp K1 i 0 (K i 0 + 1), r1.fr (C := [47]) (S := []) (kbFr.w kbFr.rf (by decide)) (by decide), u1, fun w k hw hk => ?_⟩
      · simp only [lp_SP_passSound_2]
        rw [q1.1.1, if_neg (by rw [nI_leI (by omega) (by omega)]; omega), kn_inT (show i < 10 by omega) (by omega), kn_if_t, nI_clamp (show i < 2 ^ 31 by omega), (q1.1.2 i hi).2.1, kl_7, pk_mul, e1, kn_bs, kn_inT (show i * 7 < 70 by omega) (by omega), nI_clamp (show i * 7 < 2 ^ 31 by omega), k0.1, e0, nI_1, nI_1]
        simp only [kn_if_t]
      · by_cases e : w = i
        · subst e
          rw [if_pos (by omega)]
          by_cases ek : k = 0
          · subst ek
            rw [mUp_at]; unfold mPs; rw [if_pos rfl]
          · rw [mUp_no (by omega), o1, if_pos ⟨rfl, by omega, hk⟩]
            unfold mPs
            rw [if_neg ek, if_neg ek, old k hk, old (k - 1) (by omega)]
        · rw [mUp_no (by omega), o1, if_neg (by omega), q3 w k hw hk]
          by_cases e2 : w < i
          · rw [if_pos e2, if_pos (by omega)]
          · rw [if_neg e2, if_neg (by omega)])
    W.length 0 n (0, μ) (by omega) (by omega) ⟨rfl, K, hR, hK, fun w k _ _ => by rw [if_neg (Nat.not_lt_zero _)]⟩
  refine ⟨ν, K', ?_, q⟩
  unfold f_SP_passSound
  rw [show lp_SP_passSound_2 n (nI x) n 0 μ = some ν from e1, kn_bs]
theorem mGs_cg {W : zW} {C : List Int} {K K' S : Nat → Nat → Nat} (hK : ∀ w k, w < W.length → k ≤ zSize (zRowAt W w) → K w k = K' w k) (h : mGs W C K S) : mGs W C K' S := ⟨h.1, fun w k hw hk => by rw [← hK w k hw hk]; exact h.2.1 w k hw hk, fun D hD hl => h.2.2 D hD fun w k hw hk => by rw [hK w k hw hk]; exact hl w k hw hk⟩
theorem c_steps {n : Nat} (hn : 1000 ≤ n) {μ : kbM} {W : zW} {C : List Int} (hW : zWok W) (hC : zCok C) (hR : cRule μ W C) {v : Nat} (hv : v ≤ 244140624) : ∃ ν S, f_SP_stepsToRead n (nI v) μ = some ((if W.length = 0 then -1 else nI (mMn W S 1000000 W.length)), ν) ∧ cRule ν W C ∧ mMd W C v (zSize v) S := by
  have h10 := hW.1
  have h12 := zSize_12.mpr hv
  obtain ⟨μ1, e1, s1⟩ := ro_spread46 (n := n) (by omega) hv μ
  have f1 := fr_f_RO_spread_46 e1
  have R1 := hR.fr f1 (by decide)
  have R2 : cRule (kbA μ1 47 (kbFill (μ1.1 47) 70 1000000)) W C := R1.fr (C := [47]) (S := []) (kbFr.a kbFr.rf (by decide)) (by decide)
  have n46 : (kbA μ1 47 (kbFill (μ1.1 47) 70 1000000)).1 46 = μ1.1 46 := kA_ne (by decide)
  obtain ⟨μ2, e2, R3, s3, k3⟩ := kn_for (fun k (s : Int32 × kbM) => lp_SP_stepsToRead_20 n (nI (zSize v)) k s.1 s.2) (fun i s => s.1 = nI i ∧ cRule s.2 W C ∧ zSnd (s.2.1 46) v ∧ (∀ w k, w < W.length → k ≤ zSize (zRowAt W w) → s.2.1 47 (w * 7 + k) = if k = 0 ∧ w < i then 0 else 1000000)) W.length (fun ν => cRule ν W C ∧ zSnd (ν.1 46) v ∧ cK ν W (fun _ k => if k = 0 then 0 else 1000000))
    (fun k s hs => by
      obtain ⟨y, ν⟩ := s
      simp only at hs
      obtain ⟨rfl, q1, q2, q3⟩ := hs
      refine ⟨ν, ?_, q1, q2, fun w k hw hk => ?_⟩
      · simp only [lp_SP_stepsToRead_20]
        rw [q1.1.1, if_pos (by rw [nI_leI (by omega) (by omega)]; omega)]
      · rw [q3 w k hw hk]
        by_cases e : k = 0
        · simp only; rw [if_pos ⟨e, hw⟩, if_pos e]; exact ⟨rfl, by decide⟩
        · simp only; rw [if_neg (fun z => e z.1), if_neg e]; exact ⟨rfl, by decide⟩)
    (fun k i s hi hs => by
      obtain ⟨y, ν⟩ := s
      simp only at hs
      obtain ⟨rfl, q1, q2, q3⟩ := hs
      refine Or.inr ⟨(nI (i + 1), kbW ν 47 (i * 7) 0), ?_, rfl, q1.fr (C := [47]) (S := []) (kbFr.w kbFr.rf (by decide)) (by decide), ?_, fun w k hw hk => ?_⟩
      · simp only [lp_SP_stepsToRead_20]
        rw [q1.1.1, if_neg (by rw [nI_leI (by omega) (by omega)]; omega), kl_7, pk_mul, kn_inT (show i * 7 < 70 by omega) (by omega), nI_clamp (show i * 7 < 2 ^ 31 by omega), nI_1, kn_if_t]
      · simp only; rw [kW_ne (by decide)]; exact q2
      · have s6 := hW.s6 hw
        simp only
        by_cases e : w = i ∧ k = 0
        · obtain ⟨rfl, rfl⟩ := e
          rw [Nat.add_zero, kW_at, if_pos ⟨rfl, by omega⟩]
        · rw [kW_no (by omega), q3 w k hw hk]
          by_cases e2 : k = 0 ∧ w < i
          · rw [if_pos e2, if_pos ⟨e2.1, by omega⟩]
          · rw [if_neg e2, if_neg (by omega)])
    W.length 0 n (0, kbA μ1 47 (kbFill (μ1.1 47) 70 1000000)) (by omega) (by omega) ⟨rfl, R2, by rw [n46]; exact s1, fun w k hw hk => by
      have s6 := hW.s6 hw
      rw [kA_eq, if_neg (by omega)]
      unfold kbFill
      rw [if_pos (by omega)]⟩
  obtain ⟨μ3, S0, e3, R4, k4, g4⟩ := c_sayMore hn hW hC R3 k3
  have f3 := fr_f_SP_sayMore e3
  have s4 : zSnd (μ3.1 46) v := by rw [fr_at f3 (by decide) (by decide)]; exact s3
  obtain ⟨μ4, e4, S, R5, k5, m5⟩ := kn_for (fun k (s : Int32 × kbM) => lp_SP_stepsToRead_53 n (nI (zSize v)) k s.1 s.2) (fun i s => s.1 = nI i ∧ cRule s.2 W C ∧ zSnd (s.2.1 46) v ∧ ∃ S, cK s.2 W S ∧ mMd W C v i S) (zSize v) (fun ν => ∃ S, cRule ν W C ∧ cK ν W S ∧ mMd W C v (zSize v) S)
    (fun k s hs => by
      obtain ⟨y, ν⟩ := s
      obtain ⟨e, q1, q2, S, q3, q4⟩ := hs
      simp only at e q1 q2 q3
      subst e
      refine ⟨ν, ?_, S, q1, q3, q4⟩
      simp only [lp_SP_stepsToRead_53]
      rw [if_pos (by rw [nI_leI (by omega) (by omega)]; omega)])
    (fun k i s hi hs => by
      obtain ⟨y, ν⟩ := s
      obtain ⟨e, q1, q2, S, q3, q4⟩ := hs
      simp only at e q1 q2 q3
      subst e
      obtain ⟨ν1, K1, e1, r1, k1, o1⟩ := c_pass hn hW (zDg_lt v i) q1 q3 (fun w k hw hk => by have := mMd_le hW i S q4 w k hw hk; have := hW.s6 hw; omega)
      have f1 := fr_f_SP_passSound e1
      obtain ⟨ν2, S2, e2, r2, k2, g2⟩ := c_sayMore hn hW hC r1 k1
      have f2 := fr_f_SP_sayMore e2
      refine Or.inr ⟨(nI (i + 1), ν2), ?_, rfl, r2, ?_, S2, k2, S, q4, mGs_cg o1 g2⟩
      · simp only [lp_SP_stepsToRead_53]
        rw [if_neg (by rw [nI_leI (by omega) (by omega)]; omega), kn_inT (show i < 12 by omega) (by omega), kn_if_t, nI_clamp (by omega), q2 i hi, e1, kn_bs, e2, kn_bs, nI_1]
      · simp only
        rw [fr_at f2 (by decide) (by decide), fr_at f1 (by decide) (by decide)]; exact q2)
    (zSize v) 0 n (0, μ3) (by omega) (by omega) ⟨rfl, R4, s4, S0, k4, g4⟩
  have hle := mMd_le hW (zSize v) S m5
  have e5 := kn_loop (fun k (s : Nat) i => lp_SP_stepsToRead_84 n μ4 k (nI s) (nI i)) (fun w m => min m (S w (zSize (zRowAt W w)))) 1000000 W.length (nI (mMn W S 1000000 W.length))
    (fun k => by simp only [lp_SP_stepsToRead_84]; rw [R5.1.1, if_pos (by rw [nI_leI (by omega) (by omega)]; omega)]; rfl)
    (fun k i hi => by
      have s6 := hW.s6 hi
      have k1 := k5 i _ hi (Nat.le_refl _)
      have hl : ∀ c, zFold (fun w m => min m (S w (zSize (zRowAt W w)))) 1000000 c ≤ 1000000 := by
        intro c
        induction c with
        | zero => exact Nat.le_refl _
        | succ c ih => exact Nat.le_trans (Nat.min_le_left _ _) ih
      have := hl i
      simp only [lp_SP_stepsToRead_84]
      rw [R5.1.1, if_neg (by rw [nI_leI (by omega) (by omega)]; omega), kn_inT (show i < 10 by omega) (by omega), kn_if_t, nI_clamp (show i < 2 ^ 31 by omega), (R5.1.2 i hi).2.1, kl_7, pk_mul, nI_add, kn_inT (show i * 7 + zSize (zRowAt W i) < 70 by omega) (by omega), kn_if_t, nI_clamp (show i * 7 + zSize (zRowAt W i) < 2 ^ 31 by omega), k1.1, kb_min (by omega) (by omega), nI_1]) W.length 0 n (by omega) (by omega)
  refine ⟨μ4, S, ?_, R5, m5⟩
  unfold f_SP_stepsToRead jn_SP_stepsToRead_139
  rw [e1, kn_bs]
  simp only
  rw [show lp_SP_stepsToRead_20 n (nI (zSize v)) n 0 (kbA μ1 47 (kbFill (μ1.1 47) 70 1000000)) = some μ2 from e2, kn_bs, e3, kn_bs, show lp_SP_stepsToRead_53 n (nI (zSize v)) n 0 μ3 = some μ4 from e4, kn_bs, show lp_SP_stepsToRead_84 n μ4 n 1000000 0 = _ from e5, kn_bs]
  by_cases h0 : W.length = 0
  · rw [if_pos h0, h0, if_pos (show nI (mMn W S 1000000 0) = 1000000 from rfl)]
  · have hb : ∀ w, w < W.length → S w (zSize (zRowAt W w)) ≤ 100 := fun w hw => by have := hle w _ hw (Nat.le_refl _); have := hW.s6 hw; omega
    have := (mMn_eq (W := W) (S := S) (S' := S) (F := 1000000) (F' := 100) (fun _ _ _ _ => rfl) (fun w hw => by have := hb w hw; omega) W.length (by omega) (Nat.le_refl _)).1
    have l2 := (mMn_eq (W := W) (S := S) (S' := S) (F := 100) (F' := 100) (fun _ _ _ _ => rfl) (fun w hw => by have := hb w hw; omega) W.length (by omega) (Nat.le_refl _)).2
    rw [if_neg h0, if_neg (show ¬ nI (mMn W S 1000000 W.length) = 1000000 by rw [show (1000000 : Int32) = nI 1000000 from rfl, nI_eq (by omega) (by decide)]; omega)]
