/-! the class: two ways -/
def cL (μ : kbM) (L : Nat → Nat) : Prop := ∀ l, l < 60 → μ.1 49 l = nI (L l) ∧ L l ≤ 1000000
def cP (μ : kbM) (P : Nat → Bool) : Prop := ∀ l, l < 60 → μ.1 50 l = zB (P l)
def tU (L : Nat → Nat) (l x : Nat) : Nat → Nat := fun m => if m = l then x else L m
theorem tU_at (L : Nat → Nat) (l x : Nat) : tU L l x l = x := by unfold tU; rw [if_pos rfl]
theorem tU_no {L : Nat → Nat} {l x m : Nat} (h : m ≠ l) : tU L l x m = L m := by unfold tU; rw [if_neg h]
theorem cL.up {μ : kbM} {L : Nat → Nat} (h : cL μ L) {l x : Nat} (hx : x ≤ 1000000) : cL (kbW μ 49 l (nI x)) (tU L l x) := by
  intro m hm
  by_cases e : m = l
  · subst e; rw [tU_at]; exact ⟨kW_at, hx⟩
  · rw [tU_no e, kW_no e]; exact h m hm
theorem cW.w {μ : kbM} {W : zW} (h : cWords μ 13 14 15 16 17 W) (k : Nat) (v : Int32) : cWords (kbW μ 49 k v) 13 14 15 16 17 W := h.fr (C := [49]) (S := []) (kbFr.w kbFr.rf (by decide)) (by decide)
theorem cW.w5 {μ : kbM} {W : zW} (h : cWords μ 13 14 15 16 17 W) (k : Nat) (v : Int32) : cWords (kbW μ 50 k v) 13 14 15 16 17 W := h.fr (C := [50]) (S := []) (kbFr.w kbFr.rf (by decide)) (by decide)
theorem c_shorten {μ : kbM} {L : Nat → Nat} (h : cL μ L) {w f s : Nat} (hwf : w * 6 + f < 60) (hs : s ≤ 1000000) : f_CO_shorten (nI w) (nI f) (nI s) μ = some (kbW μ 49 (w * 6 + f) (nI (min (L (w * 6 + f)) s))) := by
  have a := h _ hwf
  unfold f_CO_shorten
  rw [kl_6, pk_mul, nI_add, kn_inT hwf (by omega), kn_if_t, kn_if_t, nI_clamp (by omega), a.1, kb_min (by omega) (by omega)]
/-- what holds of the lengths at the beginning -/
def tA (W : zW) (L : Nat → Nat) : Prop := ∀ l, l < 60 → L l < 1000000 → tV W l ∧ (∃ k, tR W k (tl W l) (L l)) ∧ L l ≤ 6
theorem c_bg_in {n : Nat} (hn : 1000 ≤ n) {μ : kbM} {W : zW} (hW : zWok W) (hc : cWords μ 13 14 15 16 17 W) {L : Nat → Nat} (hL : cL μ L) (hA : tA W L) {b : Nat} (hb : b < W.length) : ∃ ν, lp_CO_begin_48 n (nI b) n 0 μ = some ν ∧ ∃ L', cWords ν 13 14 15 16 17 W ∧ cL ν L' ∧ tA W L' ∧ (∀ l, L' l ≤ L l) ∧ ∀ a, a < W.length → zPre (zRowAt W a) (zRowAt W b) = true → L' (b * 6 + zSize (zRowAt W a)) ≤ zSize (zRowAt W b) := by
  have h10 := hW.1
  have sb := hW.s6 hb
  exact kn_for (fun k (s : Int32 × kbM) => lp_CO_begin_48 n (nI b) k s.1 s.2) (fun i s => s.1 = nI i ∧ ∃ L', cWords s.2 13 14 15 16 17 W ∧ cL s.2 L' ∧ tA W L' ∧ (∀ l, L' l ≤ L l) ∧ ∀ a, a < i → zPre (zRowAt W a) (zRowAt W b) = true → L' (b * 6 + zSize (zRowAt W a)) ≤ zSize (zRowAt W b)) W.length (fun ν => ∃ L', cWords ν 13 14 15 16 17 W ∧ cL ν L' ∧ tA W L' ∧ (∀ l, L' l ≤ L l) ∧ ∀ a, a < W.length → zPre (zRowAt W a) (zRowAt W b) = true → L' (b * 6 + zSize (zRowAt W a)) ≤ zSize (zRowAt W b))
    (fun k s hs => by
      obtain ⟨y, ν⟩ := s
      obtain ⟨e, L', q1, q2⟩ := hs
      simp only at e q1 q2
      subst e
      refine ⟨ν, ?_, L', q1, q2⟩
      simp only [lp_CO_begin_48]
      rw [q1.1, if_pos (by rw [nI_leI (by omega) (by omega)]; omega)])
    (fun k i s hi hs => by
      obtain ⟨y, ν⟩ := s
      obtain ⟨e, L', q1, q2, q3, q4, q5⟩ := hs
      simp only at e q1 q2
      subst e
      have bw := c_begins hW q1 hb hi
      refine Or.inr ?_
      cases hp : zPre (zRowAt W i) (zRowAt W b)
      · rw [hp] at bw
        refine ⟨(nI (i + 1), ν), ?_, rfl, L', q1, q2, q3, q4, fun a ha hpa => ?_⟩
        · simp only [lp_CO_begin_48, jn_CO_begin_91]
          rw [q1.1, if_neg (by rw [nI_leI (by omega) (by omega)]; omega), bw, kn_bs, if_pos zF0, nI_1]
        · by_cases e : a = i
          · subst e; rw [hp] at hpa; cases hpa
          · exact q5 a (by omega) hpa
      · rw [hp] at bw
        obtain ⟨hib, t, t1, t2, t3⟩ := t_init2 hW hi hb hp
        have l60 := tV_lt hW t3
        have sh := c_shorten q2 (w := b) (f := zSize (zRowAt W i)) (s := zSize (zRowAt W b)) l60 (by omega)
        have le := (q2 _ l60).2
        refine ⟨(nI (i + 1), kbW ν 49 (b * 6 + zSize (zRowAt W i)) (nI (min (L' (b * 6 + zSize (zRowAt W i))) (zSize (zRowAt W b))))), ?_, rfl, tU L' (b * 6 + zSize (zRowAt W i)) (min (L' (b * 6 + zSize (zRowAt W i))) (zSize (zRowAt W b))), cW.w q1 _ _, q2.up (by omega), fun l hl hlt => ?_, fun l => ?_, fun a ha hpa => ?_⟩
        · simp only [lp_CO_begin_48, jn_CO_begin_91]
          rw [q1.1, if_neg (by rw [nI_leI (by omega) (by omega)]; omega), bw, kn_bs, if_neg zT0, kn_inT (show i < 10 by omega) (by omega), kn_inT (show b < 10 by omega) (by omega), kn_if_t, kn_if_t, nI_clamp (show i < 2 ^ 31 by omega), nI_clamp (show b < 2 ^ 31 by omega), (q1.2 i hi).2.1, (q1.2 b hb).2.1, sh, kn_bs, nI_1]
        · by_cases e : l = b * 6 + zSize (zRowAt W i)
          · subst e
            rw [tU_at] at hlt ⊢
            by_cases hm : L' (b * 6 + zSize (zRowAt W i)) ≤ zSize (zRowAt W b)
            · rw [Nat.min_eq_left hm]
              exact q3 _ hl (by omega)
            · rw [Nat.min_eq_right (by omega)]
              exact ⟨t3, ⟨0, i, b, hi, hb, hib, by rw [t1, t2], rfl⟩, sb⟩
          · rw [tU_no e] at hlt ⊢; exact q3 l hl hlt
        · by_cases e : l = b * 6 + zSize (zRowAt W i)
          · subst e
            rw [tU_at]
            exact Nat.le_trans (Nat.min_le_left _ _) (q4 _)
          · rw [tU_no e]; exact q4 l
        · by_cases e : b * 6 + zSize (zRowAt W a) = b * 6 + zSize (zRowAt W i)
          · rw [e, tU_at]; exact Nat.min_le_right _ _
          · rw [tU_no e]
            refine q5 a ?_ hpa
            have : a ≠ i := fun z => e (by rw [z])
            omega)
    W.length 0 n (0, μ) (by omega) (by omega) ⟨rfl, L, hc, hL, hA, fun _ => Nat.le_refl _, fun a ha => absurd ha (Nat.not_lt_zero a)⟩
theorem c_beginT {n : Nat} (hn : 1000 ≤ n) {μ : kbM} {W : zW} (hW : zWok W) (hc : cWords μ 13 14 15 16 17 W) : ∃ ν L, f_CO_begin n μ = some ν ∧ cWords ν 13 14 15 16 17 W ∧ cL ν L ∧ cP ν (fun _ => false) ∧ tDj W L (fun _ => false) 0 := by
  have h10 := hW.1
  have c1 : cWords (kbA μ 49 (kbFill (μ.1 49) 60 1000000)) 13 14 15 16 17 W := hc.fr (C := [49]) (S := []) (kbFr.a kbFr.rf (by decide)) (by decide)
  obtain ⟨μ1, e1, c2, k2, p2⟩ := kn_for (fun k (s : Int32 × kbM) => lp_CO_begin_11 n k s.1 s.2) (fun i s => s.1 = nI i ∧ cWords s.2 13 14 15 16 17 W ∧ cL s.2 (fun _ => 1000000) ∧ ∀ l, l < i → s.2.1 50 l = 0) 60 (fun ν => cWords ν 13 14 15 16 17 W ∧ cL ν (fun _ => 1000000) ∧ ∀ l, l < 60 → ν.1 50 l = 0)
    (fun k s hs => by
      obtain ⟨y, ν⟩ := s
      simp only at hs
      obtain ⟨rfl, q1, q2⟩ := hs
      refine ⟨ν, ?_, q1, q2⟩
      simp only [lp_CO_begin_11]
      rw [if_pos (by decide)])
    (fun k i s hi hs => by
      obtain ⟨y, ν⟩ := s
      simp only at hs
      obtain ⟨rfl, q1, q2, q3⟩ := hs
      refine Or.inr ⟨(nI (i + 1), kbW ν 50 i 0), ?_, rfl, cW.w5 q1 _ _, fun l hl => ?_, fun l hl => ?_⟩
      · simp only [lp_CO_begin_11]
        rw [show (60 : Int32) = nI 60 from rfl, if_neg (by rw [nI_leI (by decide) (by omega)]; omega), kn_inT hi (by omega), kn_if_t, nI_clamp (by omega), nI_1]
        rfl
      · simp only; rw [kW_ne (by decide)]; exact q2 l hl
      · simp only
        by_cases e : l = i
        · subst e; exact kW_at
        · rw [kW_no e]; exact q3 l (by omega))
    60 0 n (0, kbA μ 49 (kbFill (μ.1 49) 60 1000000)) (by omega) (by omega) ⟨rfl, c1, fun l hl => by
      rw [kA_eq]; unfold kbFill; rw [if_pos hl]; exact ⟨rfl, Nat.le_refl _⟩, fun l hl => absurd hl (Nat.not_lt_zero l)⟩
  obtain ⟨μ2, e2, L, c3, k3, a3, o3, g3⟩ := kn_for (fun k (s : Int32 × kbM) => lp_CO_begin_35 n k s.1 s.2) (fun i s => s.1 = nI i ∧ ∃ L, cWords s.2 13 14 15 16 17 W ∧ cL s.2 L ∧ tA W L ∧ (∀ l, l < 60 → s.2.1 50 l = 0) ∧ ∀ a b, a < W.length → b < i → zPre (zRowAt W a) (zRowAt W b) = true → L (b * 6 + zSize (zRowAt W a)) ≤ zSize (zRowAt W b)) W.length (fun ν => ∃ L, cWords ν 13 14 15 16 17 W ∧ cL ν L ∧ tA W L ∧ (∀ l, l < 60 → ν.1 50 l = 0) ∧ ∀ a b, a < W.length → b < W.length → zPre (zRowAt W a) (zRowAt W b) = true → L (b * 6 + zSize (zRowAt W a)) ≤ zSize (zRowAt W b))
    (fun k s hs => by
      obtain ⟨y, ν⟩ := s
      obtain ⟨e, L', q1, q2⟩ := hs
      simp only at e q1 q2
      subst e
      refine ⟨ν, ?_, L', q1, q2⟩
      simp only [lp_CO_begin_35]
      rw [q1.1, if_pos (by rw [nI_leI (by omega) (by omega)]; omega)])
    (fun k i s hi hs => by
      obtain ⟨y, ν⟩ := s
      obtain ⟨e, L', q1, q2, q3, q4, q5⟩ := hs
      simp only at e q1 q2
      subst e
      obtain ⟨ν1, e1, L1, g1, g2, g3, g4, g5⟩ := c_bg_in hn hW q1 q2 q3 hi
      have f1 := fr_lp_CO_begin_48 e1
      refine Or.inr ⟨(nI (i + 1), ν1), ?_, rfl, L1, g1, g2, g3, fun l hl => ?_, fun a b ha hb hp => ?_⟩
      · simp only [lp_CO_begin_35]
        rw [q1.1, if_neg (by rw [nI_leI (by omega) (by omega)]; omega), e1, kn_bs, nI_1]
      · simp only; rw [fr_at f1 (by decide) (by decide)]; exact q4 l hl
      · by_cases e : b = i
        · subst e; exact g5 a ha hp
        · exact Nat.le_trans (g4 _) (q5 a b ha (by omega) hp))
    W.length 0 n (0, μ1) (by omega) (by omega) ⟨rfl, fun _ => 1000000, c2, k2, fun l hl h => absurd h (Nat.lt_irrefl _), p2, fun a b ha hb => absurd hb (Nat.not_lt_zero b)⟩
  refine ⟨μ2, L, ?_, c3, k3, o3, fun l hl hlt => ?_, fun l hl h => by (cases h), fun a b t ha hb hab h => ?_, fun l m hl hm h => by (cases h)⟩
  · unfold f_CO_begin
    rw [show lp_CO_begin_11 n n 0 (kbA μ 49 (kbFill (μ.1 49) 60 1000000)) = some μ1 from e1, kn_bs, show lp_CO_begin_35 n n 0 μ1 = some μ2 from e2, kn_bs]
  · have := a3 l hl hlt
    exact ⟨this.1, this.2.1, by omega⟩
  · have := t_init hW ha hb hab h
    exact ⟨_, this.1, this.2.1, g3 a b ha hb this.2.2⟩
/-- the shortest lead that isn't passed -/
theorem c_lead {n : Nat} (hn : 1000 ≤ n) {μ : kbM} {L : Nat → Nat} {P : Nat → Bool} (hL : cL μ L) (hP : cP μ P) : ∃ o, f_CO_shortestLead n μ = some (zFewI o) ∧ (o = none → ∀ j, j < 60 → P j = false → ¬ L j < 1000000) ∧ ∀ b, o = some b → b < 60 ∧ P b = false ∧ L b < 1000000 ∧ ∀ j, j < 60 → P j = false → L j < 1000000 → L b ≤ L j := by
  obtain ⟨r, e1, o, e2, q⟩ := kn_for (fun k (s : Int32 × Int32) => lp_CO_shortestLead_4 n μ k s.1 s.2) (fun i s => s.2 = nI i ∧ ∃ o, s.1 = zFewI o ∧ (o = none → ∀ j, j < i → P j = false → ¬ L j < 1000000) ∧ ∀ b, o = some b → b < i ∧ P b = false ∧ L b < 1000000 ∧ ∀ j, j < i → P j = false → L j < 1000000 → L b ≤ L j) 60 (fun r => ∃ o, r = zFewI o ∧ (o = none → ∀ j, j < 60 → P j = false → ¬ L j < 1000000) ∧ ∀ b, o = some b → b < 60 ∧ P b = false ∧ L b < 1000000 ∧ ∀ j, j < 60 → P j = false → L j < 1000000 → L b ≤ L j)
    (fun k s hs => by
      obtain ⟨x, y⟩ := s
      obtain ⟨e1, o, e2, q⟩ := hs
      simp only at e1 e2
      subst e1 e2
      refine ⟨zFewI o, ?_, o, rfl, q⟩
      simp only [lp_CO_shortestLead_4]
      rw [if_pos (by decide)])
    (fun k i s hi hs => by
      obtain ⟨x, y⟩ := s
      obtain ⟨e1, o, e2, q1, q2⟩ := hs
      simp only at e1 e2
      subst e1 e2
      have l1 := hL i hi
      have p1 := hP i hi
      have start : lp_CO_shortestLead_4 n μ (k + 1) (zFewI o) (nI i) = if zB (P i) = 0 then (if nI 1000000 ≤ nI (L i) then lp_CO_shortestLead_4 n μ k (zFewI o) (nI (i + 1)) else if zFewI o = -1 then lp_CO_shortestLead_4 n μ k (nI i) (nI (i + 1)) else kbIf (kbIn (zFewI o) 60) (if (μ.1 49 (zFewI o).toNatClampNeg) ≤ nI (L i) then lp_CO_shortestLead_4 n μ k (zFewI o) (nI (i + 1)) else lp_CO_shortestLead_4 n μ k (nI i) (nI (i + 1)))) else lp_CO_shortestLead_4 n μ k (zFewI o) (nI (i + 1)) := by
        simp only [lp_CO_shortestLead_4, jn_CO_shortestLead_53, jn_CO_shortestLead_55]
        rw [show (60 : Int32) = nI 60 from rfl, if_neg (by rw [nI_leI (by decide) (by omega)]; omega), kn_inT hi (by omega), nI_clamp (by omega), p1, l1.1, nI_1]
        simp only [kn_if_t]
        rfl
      refine Or.inr ?_
      have skip : (P i = false → ¬ L i < 1000000) → (o = none → ∀ j, j < i + 1 → P j = false → ¬ L j < 1000000) ∧ ∀ b, o = some b → b < i + 1 ∧ P b = false ∧ L b < 1000000 ∧ ∀ j, j < i + 1 → P j = false → L j < 1000000 → L b ≤ L j := by
        intro hs
        refine ⟨fun ho j hj hpj => ?_, fun b hb => ?_⟩
        · by_cases e : j = i
          · subst e; exact hs hpj
          · exact q1 ho j (by omega) hpj
        · have := q2 b hb
          refine ⟨by omega, this.2.1, this.2.2.1, fun j hj hpj hlj => ?_⟩
          by_cases e : j = i
          · subst e; exact absurd hlj (hs hpj)
          · exact this.2.2.2 j (by omega) hpj hlj
      cases hp : P i
      · by_cases hl : 1000000 ≤ L i
        · exact ⟨(zFewI o, nI (i + 1)), by simp only; rw [start, hp, if_pos zF0, if_pos (by rw [nI_leI (by decide) (by omega)]; exact hl)], rfl, o, rfl, skip (fun _ => by omega)⟩
        · cases o with
          | none =>
            refine ⟨(nI i, nI (i + 1)), by simp only; rw [start, hp, if_pos zF0, if_neg (by rw [nI_leI (by decide) (by omega)]; exact hl), if_pos (show zFewI none = -1 from rfl)], rfl, some i, rfl, fun q => by (cases q), fun b hb => ?_⟩
            cases hb
            refine ⟨by omega, hp, by omega, fun j hj hpj hlj => ?_⟩
            by_cases e : j = i
            · subst e; exact Nat.le_refl _
            · exact absurd hlj (q1 rfl j (by omega) hpj)
          | some b =>
            obtain ⟨b1, b2, b3, b4⟩ := q2 b rfl
            have lb := hL b (by omega)
            have sb : lp_CO_shortestLead_4 n μ (k + 1) (zFewI (some b)) (nI i) = if nI (L b) ≤ nI (L i) then lp_CO_shortestLead_4 n μ k (nI b) (nI (i + 1)) else lp_CO_shortestLead_4 n μ k (nI i) (nI (i + 1)) := by
              rw [start, hp, if_pos zF0, if_neg (by rw [nI_leI (by decide) (by omega)]; exact hl), show zFewI (some b) = nI b from rfl, if_neg (by rw [kn_nm1 (by omega)]; exact id), kn_inT (show b < 60 by omega) (by omega), kn_if_t, nI_clamp (by omega), lb.1]
            by_cases hle : L b ≤ L i
            · refine ⟨(nI b, nI (i + 1)), by simp only; rw [sb, if_pos (by rw [nI_leI (by omega) (by omega)]; exact hle)], rfl, some b, rfl, fun q => by (cases q), fun b' hb' => ?_⟩
              cases hb'
              refine ⟨by omega, b2, b3, fun j hj hpj hlj => ?_⟩
              by_cases e : j = i
              · subst e; exact hle
              · exact b4 j (by omega) hpj hlj
            · refine ⟨(nI i, nI (i + 1)), by simp only; rw [sb, if_neg (by rw [nI_leI (by omega) (by omega)]; exact hle)], rfl, some i, rfl, fun q => by (cases q), fun b' hb' => ?_⟩
              cases hb'
              refine ⟨by omega, hp, by omega, fun j hj hpj hlj => ?_⟩
              by_cases e : j = i
              · subst e; exact Nat.le_refl _
              · have := b4 j (by omega) hpj hlj
                omega
      · exact ⟨(zFewI o, nI (i + 1)), by simp only; rw [start, hp, if_neg zT0], rfl, o, rfl, skip (fun q => by rw [hp] at q; cases q)⟩)
    60 0 n (-1, 0) (by omega) (by omega) ⟨rfl, none, rfl, fun _ j hj => absurd hj (Nat.not_lt_zero j), fun b hb => by (cases hb)⟩
  refine ⟨o, ?_, q⟩
  unfold f_CO_shortestLead
  rw [show lp_CO_shortestLead_4 n μ n (-1) 0 = some r from e1, kn_bs, e2]
