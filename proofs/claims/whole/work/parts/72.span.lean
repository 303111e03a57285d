/-! span, closest, fault, telegraph -/
def s_span (A : zA) (u1 u2 : Int32) : Int32 × Int32 := if zIn u1 A.1.1.1.length = true ∧ zIn u2 A.1.1.1.length = true then (0, nI (zDist (zRowAt A.1.1.1 u1.toNatClampNeg) (zRowAt A.1.1.1 u2.toNatClampNeg))) else (1, 0)
theorem cl_span {n : Nat} (hn : 20 ≤ n) {μ : kbM} {A : zA} (hA : zOk A) (h : rC μ A) (u1 u2 : Int32) : ∃ μ1, f_L_span n u1 u2 μ = some ((s_span A u1 u2).1, μ1) ∧ ((s_span A u1 u2).1 = 0 → μ1.2 97 0 = (s_span A u1 u2).2.toInt64) := by
  have h10 := hA.words.1
  unfold f_L_span f_KB_span s_span
  rw [kb_needWord n h.words h10]
  rcases zIn_cases u1 (c := A.1.1.1.length) (by omega) with ⟨a, ha, rfl⟩ | ⟨h1, -⟩
  · rw [zIn_n (by omega), decide_eq_true ha, if_pos rfl, kn_or_r, kb_needWord n h.words h10]
    rcases zIn_cases u2 (c := A.1.1.1.length) (by omega) with ⟨b, hb, rfl⟩ | ⟨h1, -⟩
    · obtain ⟨μ1, e⟩ := ru_full hn (hA.words.row ha).1 (hA.words.row hb).1 μ
      rw [zIn_n (by omega), decide_eq_true hb, if_pos rfl, kn_or_r, kn_in (by omega), decide_eq_true (by omega), kn_if_t, kn_in (by omega), decide_eq_true (by omega), kn_if_t, nI_clamp (by omega), nI_clamp (by omega), (h.words.2 a ha).1, (h.words.2 b hb).1, e, kn_bs]
      exact ⟨_, rfl, fun _ => kX_at⟩
    · rw [h1]; exact ⟨μ, rfl, fun q => absurd q (by first | exact z1n | exact z2n)⟩
  · rw [h1]; exact ⟨μ, rfl, fun q => absurd q (by first | exact z1n | exact z2n)⟩
theorem md_span {n : Nat} (hn : 20 ≤ n) {μ : kbM} {A : zA} (hA : zOk A) (h : rM μ A) (u1 u2 : Int32) : ∃ v μ2, f_MD_span n u1 u2 μ = some (v, μ2) ∧ μ2.1 57 3 = (s_span A u1 u2).1 ∧ ((s_span A u1 u2).1 = 0 → v = (s_span A u1 u2).2) := by
  have h10 := hA.words.1
  have h' : rM (kbW μ 57 3 0) A := h.fr (C := []) (S := [3]) (kbFr.w57 kbFr.rf (by decide)) (by decide) (by decide)
  unfold f_MD_span s_span jn_MD_span_40 jn_MD_span_45 f_MD_fail
  rw [md_isWord h'.words h10, kn_bs]
  rcases zIn_cases u1 (c := A.1.1.1.length) (by omega) with ⟨a, ha, rfl⟩ | ⟨h1, -⟩
  · rw [zIn_n (by omega), decide_eq_true ha, if_neg (show ¬ zB true = 0 by decide), md_isWord h'.words h10, kn_bs]
    rcases zIn_cases u2 (c := A.1.1.1.length) (by omega) with ⟨b, hb, rfl⟩ | ⟨h1, -⟩
    · obtain ⟨μ1, e⟩ := md_apartBy hn (hA.words.row ha).1 (hA.words.row hb).1 (kbW μ 57 3 0)
      have f := fr_f_MD_apartBy e
      rw [zIn_n (by omega), decide_eq_true hb, if_neg (show ¬ zB true = 0 by decide), kn_in (by omega), decide_eq_true (by omega), kn_if_t, kn_in (by omega), decide_eq_true (by omega), kn_if_t, nI_clamp (by omega), nI_clamp (by omega), (h'.words.2 a ha).1, (h'.words.2 b hb).1, e, kn_bs]
      exact ⟨_, _, rfl, (fr_57 f (by decide) (by decide)).trans kW_at, fun _ => rfl⟩
    · rw [h1]; exact ⟨_, _, rfl, kW_at, fun q => absurd q (by first | exact z1n | exact z2n)⟩
  · rw [h1]; exact ⟨_, _, rfl, kW_at, fun q => absurd q (by first | exact z1n | exact z2n)⟩
theorem op_22 {n : Nat} (hn : 20 ≤ n) {μ : kbM} (hI : kbInv μ) (u1 u2 : Int32) : ∃ μ', c_law_22 n u1 u2 μ = some μ' ∧ kbInv μ' := by
  obtain ⟨A, hA, hC, hM⟩ := hI
  obtain ⟨μ1, h1, h4⟩ := cl_span hn hA hC u1 u2
  have f1 := fr_f_L_span h1
  have hC1 := hC.fr f1 (by decide) (by decide)
  have hM1 := hM.fr f1 (by decide) (by decide)
  obtain ⟨v, μ2, h2, h3, h5⟩ := md_span hn hA hM1 u1 u2
  have f2 := fr_f_MD_span h2
  refine ⟨μ2, law_int h1 h2 h3 (fun q => ?_), A, hA, hC1.fr f2 (by decide) (by decide), hM1.fr f2 (by decide) (by decide)⟩
  rw [fr_at2 f2 (by decide) (by decide), h4 q, h5 q]
theorem op_2 {n : Nat} {μ : kbM} (hI : kbInv μ) : ∃ μ', c_law_2 n μ = some μ' ∧ kbInv μ' := by
  obtain ⟨A, hA, hC, hM⟩ := hI
  have f2 : kbFr [] [3] μ (kbW μ 57 3 0) := kbFr.w57 kbFr.rf (by decide)
  refine ⟨kbW μ 57 3 0, ?_, A, hA, hC.fr f2 (by decide) (by decide), hM.fr f2 (by decide) (by decide)⟩
  unfold c_law_2 f_KB_fault f_MD_fault
  rw [kn_bs, kn_bs]
  simp only
  rw [kW_no (by decide), hC.2.2.2.2.2.2.2, hM.2.2.2.2.2.2, if_pos rfl]
/-! the closest couple -/
def zUp (q d : Nat) (s : Option (Nat × Nat)) : Option (Nat × Nat) := match s with | none => some (q, d) | some z => if d < z.2 then some (q, d) else some z
def zClI (W : zW) (a : Nat) (s : Option (Nat × Nat)) (m : Nat) : Option (Nat × Nat) := zFold (fun i s => zUp (10 * a + (a + 1 + i)) (zDist (zRowAt W a) (zRowAt W (a + 1 + i))) s) s m
def zClO (W : zW) (c : Nat) : Option (Nat × Nat) := zFold (fun a s => zClI W a s (W.length - (a + 1))) none c
def zClOk (W : zW) (s : Option (Nat × Nat)) : Prop := ∀ z, s = some z → ∃ a b, a < b ∧ b < W.length ∧ z.1 = 10 * a + b ∧ z.2 = zDist (zRowAt W a) (zRowAt W b) ∧ z.2 ≤ 24
theorem zUp_ok {W : zW} (hW : zWok W) {a b : Nat} (hab : a < b) (hb : b < W.length) {s : Option (Nat × Nat)} (hs : zClOk W s) : zClOk W (zUp (10 * a + b) (zDist (zRowAt W a) (zRowAt W b)) s) := by
  have hd := zDist_le (hW.row (i := a) (by omega)).1 (hW.row hb).1
  intro z hz
  cases s with
  | none => cases hz; exact ⟨a, b, hab, hb, rfl, rfl, hd⟩
  | some q =>
    simp only [zUp] at hz
    by_cases h : zDist (zRowAt W a) (zRowAt W b) < q.2
    · rw [if_pos h] at hz; cases hz; exact ⟨a, b, hab, hb, rfl, rfl, hd⟩
    · rw [if_neg h] at hz; cases hz; exact hs _ rfl
theorem zClI_ok {W : zW} (hW : zWok W) {a : Nat} {s : Option (Nat × Nat)} (hs : zClOk W s) : ∀ m, a + 1 + m ≤ W.length → zClOk W (zClI W a s m) := by
  intro m
  induction m with
  | zero => intro _; exact hs
  | succ m ih => intro h; exact zUp_ok hW (by omega) (by omega) (ih (by omega))
theorem zClO_ok {W : zW} (hW : zWok W) : ∀ c, c ≤ W.length → zClOk W (zClO W c) := by
  intro c
  induction c with
  | zero => intro _ z h; cases h
  | succ c ih => intro h; exact zClI_ok hW (ih (by omega)) _ (by omega)
/-- one more couple, with a limit F above all -/
theorem zUp_step {W : zW} {s : Option (Nat × Nat)} (hs : zClOk W s) {F q d : Nat} (hF : F = 100000 ∨ F = 1000000) (hd : d ≤ 24) : ∃ l : Nat, zNrL F s = nI l ∧ l ≤ 1000000 ∧ zUp q d s = if d < l then some (q, d) else s := by
  cases s with
  | none => exact ⟨F, rfl, by omega, by rw [if_pos (by omega)]; rfl⟩
  | some z =>
    obtain ⟨a, b, -, -, -, -, h⟩ := hs z rfl
    exact ⟨z.2, rfl, by omega, rfl⟩
theorem ru_cl_in {n : Nat} (hn : 20 ≤ n) {W : zW} (hW : zWok W) {a : Nat} (ha : a < W.length) (s0 : Option (Nat × Nat)) (hs0 : zClOk W s0) : ∀ (c k i : Nat) (μ : kbM), a + 1 + i + c = W.length → c < k → cWords μ 13 14 15 16 17 W → zSnd (μ.1 40) (zRowAt W a) →
    ∃ μ', lp_RU_closestCouple_41 n (nI a) (nI (zSize (zRowAt W a))) k (zNrB (zClI W a s0 i)) (zNrL 1000000 (zClI W a s0 i)) (nI (a + 1 + i)) μ = some (zNrB (zClI W a s0 (W.length - (a + 1))), zNrL 1000000 (zClI W a s0 (W.length - (a + 1))), μ') := by
  intro c
  have h10 := hW.1
  induction c with
  | zero =>
    intro k i μ h hk hc hs
    obtain ⟨k, rfl⟩ : ∃ q, k = q + 1 := ⟨k - 1, by omega⟩
    refine ⟨μ, ?_⟩
    unfold lp_RU_closestCouple_41
    rw [hc.1, if_pos (by rw [nI_leI (by omega) (by omega)]; omega), show W.length - (a + 1) = i by omega]
  | succ c ih =>
    intro k i μ h hk hc hs
    obtain ⟨k, rfl⟩ : ∃ q, k = q + 1 := ⟨k - 1, by omega⟩
    have hb : a + 1 + i < W.length := by omega
    have hd := zDist_le (hW.row ha).1 (hW.row hb).1
    obtain ⟨l, hl1, hl2, hl3⟩ := zUp_step (zClI_ok (a := a) hW hs0 i (by omega)) (F := 1000000) (q := 10 * a + (a + 1 + i)) (Or.inr rfl) hd
    obtain ⟨μ1, e⟩ := ru_steps hn (hW.row ha).1 (hW.row hb).1 hs
    have f := fr_f_RU_stepsFromLeft e
    have := ih k (i + 1) μ1 (by omega) (by omega) (hc.fr f (by decide)) (by rw [fr_at f (by decide) (by decide)]; exact hs)
    have hsucc : zClI W a s0 (i + 1) = zUp (10 * a + (a + 1 + i)) (zDist (zRowAt W a) (zRowAt W (a + 1 + i))) (zClI W a s0 i) := rfl
    rw [hsucc, hl3] at this
    unfold lp_RU_closestCouple_41 jn_RU_closestCouple_88
    rw [hc.1, if_neg (by rw [nI_leI (by omega) (by omega)]; omega), kn_in (by omega), decide_eq_true (by omega), kn_if_t, nI_clamp (by omega), (hc.2 _ hb).1, e, kn_bs, hl1]
    simp only [nI_1, show (10 : Int32) = nI 10 from rfl, pk_mul, nI_add]
    by_cases hlt : zDist (zRowAt W a) (zRowAt W (a + 1 + i)) < l
    · rw [if_neg (by rw [nI_leI (by omega) (by omega)]; omega)]
      rw [if_pos hlt] at this
      exact this
    · rw [if_pos (by rw [nI_leI (by omega) (by omega)]; omega)]
      rw [if_neg hlt, hl1] at this
      exact this
theorem ru_cl_out {n : Nat} (hn : 20 ≤ n) {W : zW} (hW : zWok W) : ∀ (c k i : Nat) (μ : kbM), i + c = W.length → c < k → cWords μ 13 14 15 16 17 W →
    ∃ μ', lp_RU_closestCouple_7 n k (zNrB (zClO W i)) (zNrL 1000000 (zClO W i)) (nI i) μ = some (zNrB (zClO W W.length), μ') := by
  intro c
  have h10 := hW.1
  induction c with
  | zero =>
    intro k i μ h hk hc
    obtain ⟨k, rfl⟩ : ∃ q, k = q + 1 := ⟨k - 1, by omega⟩
    refine ⟨μ, ?_⟩
    unfold lp_RU_closestCouple_7
    rw [hc.1, if_pos (by rw [nI_leI (by omega) (by omega)]; omega), show i = W.length by omega]
  | succ c ih =>
    intro k i μ h hk hc
    obtain ⟨k, rfl⟩ : ∃ q, k = q + 1 := ⟨k - 1, by omega⟩
    have hi : i < W.length := by omega
    obtain ⟨μ1, e1, g1⟩ := ro_spread40 hn (hW.row hi).1 μ
    have f1 := fr_f_RO_spread_40 e1
    have hc1 := hc.fr f1 (by decide)
    obtain ⟨μ2, e2⟩ := ru_cl_in hn hW hi (zClO W i) (zClO_ok hW i (by omega)) (W.length - (i + 1)) n 0 μ1 (by omega) (by omega) hc1 g1
    have f2 := fr_lp_RU_closestCouple_41 e2
    obtain ⟨μ3, e3⟩ := ih k (i + 1) μ2 (by omega) (by omega) (hc1.fr f2 (by decide))
    refine ⟨μ3, ?_⟩
    unfold lp_RU_closestCouple_7
    rw [hc.1, if_neg (by rw [nI_leI (by omega) (by omega)]; omega), kn_in (by omega), decide_eq_true (by omega), kn_if_t, nI_clamp (by omega), (hc.2 i hi).1, e1, kn_bs]
    simp only [nI_1]
    have e2' : lp_RU_closestCouple_41 n (nI i) (nI (zSize (zRowAt W i))) n (zNrB (zClO W i)) (zNrL 1000000 (zClO W i)) (nI (i + 1)) μ1 = _ := e2
    rw [e2', kn_bs]
    exact e3
theorem md_cl_in {n : Nat} (hn : 20 ≤ n) (z : Int32) {W : zW} (hW : zWok W) {a : Nat} (ha : a < W.length) (s0 : Option (Nat × Nat)) (hs0 : zClOk W s0) : ∀ (c k i : Nat) (μ : kbM), a + 1 + i + c = W.length → c < k → mWords μ W →
    ∃ μ', lp_MD_closest_43 n z (nI a) k (zNrB (zClI W a s0 i)) (zNrL 100000 (zClI W a s0 i)) (nI (a + 1 + i)) μ = some (zNrB (zClI W a s0 (W.length - (a + 1))), zNrL 100000 (zClI W a s0 (W.length - (a + 1))), μ') := by
  intro c
  have h10 := hW.1
  induction c with
  | zero =>
    intro k i μ h hk hc
    obtain ⟨k, rfl⟩ : ∃ q, k = q + 1 := ⟨k - 1, by omega⟩
    refine ⟨μ, ?_⟩
    unfold lp_MD_closest_43
    rw [hc.1, if_pos (by rw [nI_leI (by omega) (by omega)]; omega), show W.length - (a + 1) = i by omega]
  | succ c ih =>
    intro k i μ h hk hc
    obtain ⟨k, rfl⟩ : ∃ q, k = q + 1 := ⟨k - 1, by omega⟩
    have hb : a + 1 + i < W.length := by omega
    have hd := zDist_le (hW.row ha).1 (hW.row hb).1
    obtain ⟨l, hl1, hl2, hl3⟩ := zUp_step (zClI_ok (a := a) hW hs0 i (by omega)) (F := 100000) (q := 10 * a + (a + 1 + i)) (Or.inl rfl) hd
    obtain ⟨μ1, e⟩ := md_apartBy hn (hW.row ha).1 (hW.row hb).1 μ
    have f := fr_f_MD_apartBy e
    have := ih k (i + 1) μ1 (by omega) (by omega) (hc.fr f (by decide) (by decide))
    have hsucc : zClI W a s0 (i + 1) = zUp (10 * a + (a + 1 + i)) (zDist (zRowAt W a) (zRowAt W (a + 1 + i))) (zClI W a s0 i) := rfl
    rw [hsucc, hl3] at this
    unfold lp_MD_closest_43 jn_MD_closest_93
    rw [hc.1, if_neg (by rw [nI_leI (by omega) (by omega)]; omega), kn_in (by omega), decide_eq_true (by omega), kn_if_t, kn_in (by omega), decide_eq_true (by omega), kn_if_t, nI_clamp (by omega), nI_clamp (by omega), (hc.2 _ hb).1, (hc.2 a ha).1, e, kn_bs, hl1]
    simp only [nI_1, show (10 : Int32) = nI 10 from rfl, pk_mul, nI_add]
    by_cases hlt : zDist (zRowAt W a) (zRowAt W (a + 1 + i)) < l
    · rw [if_pos (by rw [nI_ltI (by omega) (by omega)]; exact hlt)]
      rw [if_pos hlt] at this
      exact this
    · rw [if_neg (by rw [nI_ltI (by omega) (by omega)]; exact hlt)]
      rw [if_neg hlt, hl1] at this
      exact this
theorem md_cl_out {n : Nat} (hn : 20 ≤ n) (z : Int32) {W : zW} (hW : zWok W) : ∀ (c k i : Nat) (μ : kbM), i + c = W.length → c < k → mWords μ W →
    ∃ μ', lp_MD_closest_28 n z k (zNrB (zClO W i)) (zNrL 100000 (zClO W i)) (nI i) μ = some (zNrB (zClO W W.length), zNrL 100000 (zClO W W.length), μ') := by
  intro c
  have h10 := hW.1
  induction c with
  | zero =>
    intro k i μ h hk hc
    obtain ⟨k, rfl⟩ : ∃ q, k = q + 1 := ⟨k - 1, by omega⟩
    refine ⟨μ, ?_⟩
    unfold lp_MD_closest_28
    rw [hc.1, if_pos (by rw [nI_leI (by omega) (by omega)]; omega), show i = W.length by omega]
  | succ c ih =>
    intro k i μ h hk hc
    obtain ⟨k, rfl⟩ : ∃ q, k = q + 1 := ⟨k - 1, by omega⟩
    have hi : i < W.length := by omega
    obtain ⟨μ2, e2⟩ := md_cl_in hn z hW hi (zClO W i) (zClO_ok hW i (by omega)) (W.length - (i + 1)) n 0 μ (by omega) (by omega) hc
    have f2 := fr_lp_MD_closest_43 e2
    obtain ⟨μ3, e3⟩ := ih k (i + 1) μ2 (by omega) (by omega) (hc.fr f2 (by decide) (by decide))
    refine ⟨μ3, ?_⟩
    unfold lp_MD_closest_28
    rw [hc.1, if_neg (by rw [nI_leI (by omega) (by omega)]; omega)]
    simp only [nI_1]
    have e2' : lp_MD_closest_43 n z (nI i) n (zNrB (zClO W i)) (zNrL 100000 (zClO W i)) (nI (i + 1)) μ = _ := e2
    rw [e2', kn_bs]
    exact e3
def s_closest (A : zA) (u : Int32) : Int32 × Int32 := if zIn u 2 = true then (0, if u = 1 then zNrB (zClO A.1.1.1 A.1.1.1.length) else match zClO A.1.1.1 A.1.1.1.length with | none => -1 | some q => nI q.2) else (1, 0)
theorem zClO_m1 {W : zW} (hW : zWok W) {q : Nat × Nat} (h : zClO W W.length = some q) : zNrB (zClO W W.length) ≠ -1 := by
  obtain ⟨a, b, h1, h2, h3, -, -⟩ := zClO_ok hW _ (Nat.le_refl _) q h
  have h10 := hW.1
  rw [h]
  intro e
  have e2 := congrArg Int32.toInt e
  simp only [zNrB] at e2
  rw [nI_toInt (by omega)] at e2
  have h1 : (-1 : Int32).toInt = -1 := by decide
  omega
theorem cl_closest {n : Nat} (hn : 20 ≤ n) {μ : kbM} {A : zA} (hA : zOk A) (h : rC μ A) (u : Int32) : ∃ μ1, f_L_closest n u μ = some ((s_closest A u).1, μ1) ∧ ((s_closest A u).1 = 0 → μ1.2 97 0 = (s_closest A u).2.toInt64) := by
  have h10 := hA.words.1
  unfold f_L_closest f_KB_closest s_closest jn_KB_closest_23
  rw [show (2 : Int32) = nI 2 from rfl, kb_needWhat n μ u (by decide)]
  cases h2 : zIn u 2 with
  | false => exact ⟨μ, rfl, fun q => absurd q (by first | exact z1n | exact z2n)⟩
  | true =>
    obtain ⟨μ1, e1⟩ := ru_cl_out hn hA.words A.1.1.1.length n 0 μ (by omega) (by omega) h.words
    have e1' : lp_RU_closestCouple_7 n n (-1) 1000000 0 μ = some (zNrB (zClO A.1.1.1 A.1.1.1.length), μ1) := e1
    have f1 := fr_lp_RU_closestCouple_7 e1
    have hwd := h.words.fr f1 (by decide)
    unfold f_RU_closestCouple
    rw [if_pos rfl, kn_or_r, e1', kn_bs, kn_bs]
    simp only [if_true]
    cases hz : zClO A.1.1.1 A.1.1.1.length with
    | none =>
      rw [show zNrB none = -1 from rfl, if_pos rfl]
      exact ⟨_, rfl, fun _ => by rw [kX_at]; split <;> rfl⟩
    | some q =>
      have hne := zClO_m1 hA.words hz
      rw [hz] at hne
      obtain ⟨a, b, hab, hb, hq, hd, -⟩ := zClO_ok hA.words _ (Nat.le_refl _) q hz
      rw [if_neg hne]
      by_cases hu : u = 1
      · rw [if_pos hu, if_pos hu]
        exact ⟨_, rfl, fun _ => kX_at⟩
      · obtain ⟨μ3, e3⟩ := ru_full hn (hA.words.row (i := a) (by omega)).1 (hA.words.row hb).1 μ1
        rw [if_neg hu, if_neg hu, show zNrB (some q) = nI (10 * a + b) by rw [← hq]; rfl, show (10 : Int32) = nI 10 from rfl, kn_div (by omega) (by decide) (by decide), kn_rem (by omega) (by decide) (by decide), show (10 * a + b) / 10 = a by omega, show (10 * a + b) % 10 = b by omega, kn_in (by omega), decide_eq_true (by omega), kn_if_t, kn_in (by omega), decide_eq_true (by omega), kn_if_t, nI_clamp (by omega), nI_clamp (by omega), (hwd.2 a (by omega)).1, (hwd.2 b hb).1, e3, kn_bs]
        exact ⟨_, rfl, fun _ => by rw [kX_at]; simp only; rw [hd]⟩
theorem md_closest {n : Nat} (hn : 20 ≤ n) {μ : kbM} {A : zA} (hA : zOk A) (h : rM μ A) (u : Int32) : ∃ v μ2, f_MD_closest n u μ = some (v, μ2) ∧ μ2.1 57 3 = (s_closest A u).1 ∧ ((s_closest A u).1 = 0 → v = (s_closest A u).2) := by
  have h10 := hA.words.1
  have h' : rM (kbW μ 57 3 0) A := h.fr (C := []) (S := [3]) (kbFr.w57 kbFr.rf (by decide)) (by decide) (by decide)
  unfold f_MD_closest s_closest jn_MD_closest_14 jn_MD_closest_115 jn_MD_closest_120 f_MD_fail
  rcases zIn_2 u with ⟨q1, q2⟩ | ⟨q1, q2, q3⟩ | ⟨q1, q2, q3, q4⟩
  · rw [if_pos q1, q2]; exact ⟨_, _, rfl, kW_at, fun q => absurd q (by first | exact z1n | exact z2n)⟩
  · rw [if_neg q1, if_neg q2, q3]; exact ⟨_, _, rfl, kW_at, fun q => absurd q (by first | exact z1n | exact z2n)⟩
  · obtain ⟨μ1, e1⟩ := md_cl_out hn u hA.words A.1.1.1.length n 0 (kbW μ 57 3 0) (by omega) (by omega) h'.words
    have e1' : lp_MD_closest_28 n u n (-1) 100000 0 (kbW μ 57 3 0) = some (zNrB (zClO A.1.1.1 A.1.1.1.length), zNrL 100000 (zClO A.1.1.1 A.1.1.1.length), μ1) := e1
    have f1 := fr_lp_MD_closest_28 e1
    have c1 : μ1.1 57 3 = 0 := (fr_57 f1 (by decide) (by decide)).trans kW_at
    rw [if_neg q1, if_pos q2, q3, e1', kn_bs, if_pos rfl]
    simp only
    by_cases hu : u = 1
    · rw [if_pos hu, if_pos hu]; exact ⟨_, _, rfl, c1, fun _ => rfl⟩
    · rw [if_neg hu, if_neg hu]
      cases hz : zClO A.1.1.1 A.1.1.1.length with
      | none => rw [show zNrB none = -1 from rfl, if_pos rfl]; exact ⟨_, _, rfl, c1, fun _ => rfl⟩
      | some q =>
        have hne := zClO_m1 hA.words hz
        rw [hz] at hne
        rw [if_neg hne]; exact ⟨_, _, rfl, c1, fun _ => rfl⟩
theorem op_23 {n : Nat} (hn : 20 ≤ n) {μ : kbM} (hI : kbInv μ) (u1 : Int32) : ∃ μ', c_law_23 n u1 μ = some μ' ∧ kbInv μ' := by
  obtain ⟨A, hA, hC, hM⟩ := hI
  obtain ⟨μ1, h1, h4⟩ := cl_closest hn hA hC u1
  have f1 := fr_f_L_closest h1
  have hC1 := hC.fr f1 (by decide) (by decide)
  have hM1 := hM.fr f1 (by decide) (by decide)
  obtain ⟨v, μ2, h2, h3, h5⟩ := md_closest hn hA hM1 u1
  have f2 := fr_f_MD_closest h2
  refine ⟨μ2, law_int h1 h2 h3 (fun q => ?_), A, hA, hC1.fr f2 (by decide) (by decide), hM1.fr f2 (by decide) (by decide)⟩
  rw [fr_at2 f2 (by decide) (by decide), h4 q, h5 q]
