/-! CALLS THAT ASK: hears, apart, nearest, span, closest -/
theorem law_int {o : Option (Int32 × kbM)} {g : kbM → Option (Int32 × kbM)} {c v : Int32} {μ1 μ2 : kbM} (h1 : o = some (c, μ1)) (h2 : g μ1 = some (v, μ2)) (h3 : μ2.1 57 3 = c) (h4 : c = 0 → μ2.2 97 0 = v.toInt64) :
    (o.bind fun x1 => (g x1.2).bind fun x2 => (f_MD_thrown x2.2).bind fun x3 => if x3 = x1.1 then (if x1.1 = 0 then (if (lg_cmp (x2.2.2 97 0) x2.1.toInt64) = 0 then some x2.2 else none) else some x2.2) else none) = some μ2 := by
  rw [h1, kn_bs]
  simp only
  rw [h2, kn_bs]
  simp only
  unfold f_MD_thrown
  rw [kn_bs, if_pos h3]
  by_cases hc : c = 0
  · rw [if_pos hc, h4 hc, lg_cmp_self, if_pos rfl]
  · rw [if_neg hc]
theorem z1n : ¬ ((1 : Int32) = 0) := by decide
theorem z2n : ¬ ((2 : Int32) = 0) := by decide
/-- hears -/
def s_hears (A : zA) (u1 u2 : Int32) : Int32 × Int32 := if zIn u1 A.2.2.1.length = true then (if zIsRow u2 = true then (0, nI (zHear (zKind A.2.2.1 u1.toNatClampNeg) (zBit A.1.1.2 u1.toNatClampNeg) u2.toNatClampNeg)) else (2, 0)) else (1, 0)
theorem cl_hears {n : Nat} (hn : 20 ≤ n) {μ : kbM} {A : zA} (hA : zOk A) (h : rC μ A) (u1 u2 : Int32) : ∃ μ1, f_L_hears n u1 u2 μ = some ((s_hears A u1 u2).1, μ1) ∧ ((s_hears A u1 u2).1 = 0 → μ1.2 97 0 = (s_hears A u1 u2).2.toInt64) := by
  have hl := hA.doors.1
  unfold f_L_hears f_KB_hears s_hears
  rw [kb_needDoor n h.doors hl]
  rcases zIn_cases u1 (c := A.2.2.1.length) (by omega) with ⟨d, hd, rfl⟩ | ⟨h1, -⟩
  · rw [zIn_n (by omega), if_pos (decide_eq_true hd), if_pos (decide_eq_true hd), kn_or_r, kb_needRow hn]
    cases hr : zIsRow u2 with
    | false => exact ⟨μ, rfl, fun q => absurd q (by first | exact z1n | exact z2n)⟩
    | true =>
      obtain ⟨v, rfl, -, hv⟩ := zIsRow_t hr
      have hk := hA.doors.at hd
      rw [if_pos rfl, if_pos rfl, kn_or_r, ho_hearing hn (by omega) (h.doors.2 d hd).1 hk.1 h.wet hA.wet hv, nI_clamp (by omega), nI_clamp (by omega)]
      exact ⟨_, rfl, fun _ => kX_at⟩
  · rw [h1]
    exact ⟨μ, rfl, fun q => absurd q (by first | exact z1n | exact z2n)⟩
theorem md_hears {n : Nat} (hn : 20 ≤ n) {μ : kbM} {A : zA} (hA : zOk A) (h : rM μ A) (u1 u2 : Int32) : ∃ v μ2, f_MD_hears n u1 u2 μ = some (v, μ2) ∧ μ2.1 57 3 = (s_hears A u1 u2).1 ∧ ((s_hears A u1 u2).1 = 0 → v = (s_hears A u1 u2).2) := by
  have hl := hA.doors.1
  have h' : rM (kbW μ 57 3 0) A := h.fr (C := []) (S := [3]) (kbFr.w57 kbFr.rf (by decide)) (by decide) (by decide)
  unfold f_MD_hears s_hears jn_MD_hears_40 f_MD_fail
  rw [md_isDoor h'.doors hl, kn_bs]
  rcases zIn_cases u1 (c := A.2.2.1.length) (by omega) with ⟨d, hd, rfl⟩ | ⟨h1, -⟩
  · rw [zIn_n (by omega), decide_eq_true hd, if_neg (show ¬ zB true = 0 by decide), if_pos rfl, md_isRow hn, kn_bs]
    cases hr : zIsRow u2 with
    | false => exact ⟨_, _, rfl, kW_at, fun q => absurd q (by first | exact z1n | exact z2n)⟩
    | true =>
      obtain ⟨v, rfl, -, hv⟩ := zIsRow_t hr
      have hk := hA.doors.at hd
      rw [if_neg (show ¬ zB true = 0 by decide), if_pos rfl, md_heardAt hn (by omega) (h'.doors.2 d hd).1 hk.1 h'.wet hA.wet hv, nI_clamp (by omega), nI_clamp (by omega)]
      exact ⟨_, _, rfl, kW_at, fun _ => rfl⟩
  · rw [h1, if_pos (show zB false = 0 from rfl)]
    exact ⟨_, _, rfl, kW_at, fun q => absurd q (by first | exact z1n | exact z2n)⟩
theorem op_6 {n : Nat} (hn : 20 ≤ n) {μ : kbM} (hI : kbInv μ) (u1 u2 : Int32) : ∃ μ', c_law_6 n u1 u2 μ = some μ' ∧ kbInv μ' := by
  obtain ⟨A, hA, hC, hM⟩ := hI
  obtain ⟨μ1, h1, h4⟩ := cl_hears hn hA hC u1 u2
  have f1 := fr_f_L_hears h1
  have hC1 := hC.fr f1 (by decide) (by decide)
  have hM1 := hM.fr f1 (by decide) (by decide)
  obtain ⟨v, μ2, h2, h3, h5⟩ := md_hears hn hA hM1 u1 u2
  have f2 := fr_f_MD_hears h2
  refine ⟨μ2, law_int h1 h2 h3 (fun q => ?_), A, hA, hC1.fr f2 (by decide) (by decide), hM1.fr f2 (by decide) (by decide)⟩
  rw [fr_at2 f2 (by decide) (by decide), h4 q, h5 q]
/-- apart -/
def s_apart (u1 u2 : Int32) : Int32 × Int32 := if zIsRow u1 = true ∧ zIsRow u2 = true then (0, nI (zDist u1.toNatClampNeg u2.toNatClampNeg)) else (1, 0)
theorem ru_full {n : Nat} (hn : 20 ≤ n) {v u : Nat} (hv : v ≤ 244140624) (hu : u ≤ 244140624) (μ : kbM) : ∃ μ', f_RU_steps n (nI v) (nI u) μ = some (nI (zDist v u), μ') := by
  obtain ⟨μ1, e1, g1⟩ := ro_spread40 hn hv μ
  obtain ⟨μ2, e2⟩ := ru_steps hn hv hu g1
  refine ⟨μ2, ?_⟩
  unfold f_RU_steps
  rw [e1, kn_bs]
  simp only
  rw [e2, kn_bs]
theorem cl_apart {n : Nat} (hn : 20 ≤ n) (μ : kbM) (u1 u2 : Int32) : ∃ μ1, f_L_apart n u1 u2 μ = some ((s_apart u1 u2).1, μ1) ∧ ((s_apart u1 u2).1 = 0 → μ1.2 97 0 = (s_apart u1 u2).2.toInt64) := by
  unfold f_L_apart f_KB_apart s_apart
  rw [kb_needRow hn]
  cases hr1 : zIsRow u1 with
  | false => exact ⟨μ, rfl, fun q => absurd q (by first | exact z1n | exact z2n)⟩
  | true =>
    rw [if_pos rfl, kn_or_r, kb_needRow hn]
    cases hr2 : zIsRow u2 with
    | false => exact ⟨μ, rfl, fun q => absurd q (by first | exact z1n | exact z2n)⟩
    | true =>
      obtain ⟨v, rfl, -, hv⟩ := zIsRow_t hr1
      obtain ⟨u, rfl, -, hu⟩ := zIsRow_t hr2
      obtain ⟨μ1, e⟩ := ru_full hn hv hu μ
      rw [if_pos rfl, kn_or_r, e, kn_bs, nI_clamp (by omega), nI_clamp (by omega)]
      exact ⟨_, rfl, fun _ => kX_at⟩
theorem md_apart {n : Nat} (hn : 20 ≤ n) (μ : kbM) (u1 u2 : Int32) : ∃ v μ2, f_MD_apart n u1 u2 μ = some (v, μ2) ∧ μ2.1 57 3 = (s_apart u1 u2).1 ∧ ((s_apart u1 u2).1 = 0 → v = (s_apart u1 u2).2) := by
  unfold f_MD_apart s_apart jn_MD_apart_28 jn_MD_apart_33 f_MD_fail
  rw [md_isRow hn, kn_bs]
  cases hr1 : zIsRow u1 with
  | false => exact ⟨_, _, rfl, kW_at, fun q => absurd q (by first | exact z1n | exact z2n)⟩
  | true =>
    rw [if_neg (show ¬ zB true = 0 by decide), md_isRow hn, kn_bs]
    cases hr2 : zIsRow u2 with
    | false => exact ⟨_, _, rfl, kW_at, fun q => absurd q (by first | exact z1n | exact z2n)⟩
    | true =>
      obtain ⟨v, rfl, -, hv⟩ := zIsRow_t hr1
      obtain ⟨u, rfl, -, hu⟩ := zIsRow_t hr2
      obtain ⟨μ1, e⟩ := md_apartBy hn hv hu (kbW μ 57 3 0)
      have f := fr_f_MD_apartBy e
      rw [if_neg (show ¬ zB true = 0 by decide), e, kn_bs, nI_clamp (by omega), nI_clamp (by omega)]
      exact ⟨_, _, rfl, (fr_57 f (by decide) (by decide)).trans kW_at, fun _ => rfl⟩
theorem op_9 {n : Nat} (hn : 20 ≤ n) {μ : kbM} (hI : kbInv μ) (u1 u2 : Int32) : ∃ μ', c_law_9 n u1 u2 μ = some μ' ∧ kbInv μ' := by
  obtain ⟨A, hA, hC, hM⟩ := hI
  obtain ⟨μ1, h1, h4⟩ := cl_apart hn μ u1 u2
  have f1 := fr_f_L_apart h1
  have hC1 := hC.fr f1 (by decide) (by decide)
  have hM1 := hM.fr f1 (by decide) (by decide)
  obtain ⟨v, μ2, h2, h3, h5⟩ := md_apart hn μ1 u1 u2
  have f2 := fr_f_MD_apart h2
  refine ⟨μ2, law_int h1 h2 h3 (fun q => ?_), A, hA, hC1.fr f2 (by decide) (by decide), hM1.fr f2 (by decide) (by decide)⟩
  rw [fr_at2 f2 (by decide) (by decide), h4 q, h5 q]
/-! the nearest word: the first of those least apart -/
def zNr (W : zW) (v : Nat) (c : Nat) : Option (Nat × Nat) := zFold (fun i a => match a with | none => some (i, zDist v (zRowAt W i)) | some q => if zDist v (zRowAt W i) < q.2 then some (i, zDist v (zRowAt W i)) else some q) none c
def zNrB (o : Option (Nat × Nat)) : Int32 := match o with | none => -1 | some q => nI q.1
def zNrL (F : Nat) (o : Option (Nat × Nat)) : Int32 := match o with | none => nI F | some q => nI q.2
theorem zNr_ok {W : zW} (hW : zWok W) {v : Nat} (hv : v ≤ 244140624) : ∀ c, c ≤ W.length → match zNr W v c with | none => c = 0 | some q => q.1 < c ∧ q.2 = zDist v (zRowAt W q.1) ∧ q.2 ≤ 24 := by
  intro c
  induction c with
  | zero => intro _; rfl
  | succ c ih =>
    intro hc
    have := ih (by omega)
    have hd := zDist_le hv (hW.row (i := c) (by omega)).1
    show match (match zNr W v c with | none => some (c, zDist v (zRowAt W c)) | some q => if zDist v (zRowAt W c) < q.2 then some (c, zDist v (zRowAt W c)) else some q) with | none => c + 1 = 0 | some q => q.1 < c + 1 ∧ q.2 = zDist v (zRowAt W q.1) ∧ q.2 ≤ 24
    cases h : zNr W v c with
    | none => exact ⟨by simp, rfl, hd⟩
    | some q =>
      rw [h] at this
      simp only at this ⊢
      by_cases hlt : zDist v (zRowAt W c) < q.2
      · rw [if_pos hlt]; exact ⟨by simp, rfl, hd⟩
      · rw [if_neg hlt]; exact ⟨by omega, this.2⟩
theorem kn_absd : ∀ a b : Fin 13, kbAbs (nI a.val - nI b.val) = nI (if b.val ≤ a.val then a.val - b.val else b.val - a.val) := by decide +kernel
theorem ru_near_lp {n : Nat} (hn : 20 ≤ n) {W : zW} (hW : zWok W) {v : Nat} (hv : v ≤ 244140624) : ∀ (c k i : Nat) (μ : kbM), i + c = W.length → c < k → cWords μ 13 14 15 16 17 W → zSnd (μ.1 40) v →
    ∃ μ', lp_RU_nearestWord_18 n (nI (zSize v)) k (zNrB (zNr W v i)) (zNrL 1000000 (zNr W v i)) (nI i) μ = some (zNrB (zNr W v W.length), μ') := by
  intro c
  induction c with
  | zero =>
    intro k i μ h hk hc hs
    obtain ⟨k, rfl⟩ : ∃ q, k = q + 1 := ⟨k - 1, by omega⟩
    have := hW.1
    refine ⟨μ, ?_⟩
    unfold lp_RU_nearestWord_18
    rw [hc.1, if_pos (by rw [nI_leI (by omega) (by omega)]; omega), show i = W.length by omega]
  | succ c ih =>
    intro k i μ h hk hc hs
    obtain ⟨k, rfl⟩ : ∃ q, k = q + 1 := ⟨k - 1, by omega⟩
    have h10 := hW.1
    have hi : i < W.length := by omega
    have hr := hW.row hi
    have hd := zDist_le hv hr.1
    have h12 := zSize_12.mpr hv
    have hu12 := zSize_12.mpr hr.1
    have hok := zNr_ok hW hv i (by omega)
    have hge := zE_ge (zDg v) (zDg (zRowAt W i)) (zSize v) (zSize (zRowAt W i))
    have hsucc : zNr W v (i + 1) = (match zNr W v i with | none => some (i, zDist v (zRowAt W i)) | some q => if zDist v (zRowAt W i) < q.2 then some (i, zDist v (zRowAt W i)) else some q) := rfl
    have hle : ∃ l : Nat, zNrL 1000000 (zNr W v i) = nI l ∧ l ≤ 1000000 ∧ (zNr W v (i + 1) = if zDist v (zRowAt W i) < l then some (i, zDist v (zRowAt W i)) else zNr W v i) ∧ (zNr W v i = none → l = 1000000) := by
      cases hz : zNr W v i with
      | none =>
        refine ⟨1000000, rfl, Nat.le_refl _, ?_, fun _ => rfl⟩
        rw [hsucc, hz, if_pos (by omega)]
      | some q =>
        rw [hz] at hok
        refine ⟨q.2, rfl, by omega, ?_, fun q => by cases q⟩
        rw [hsucc, hz]
    obtain ⟨l, hl1, hl2, hl3, -⟩ := hle
    have hsz := kn_absd ⟨zSize v, by omega⟩ ⟨zSize (zRowAt W i), by omega⟩
    simp only at hsz
    unfold lp_RU_nearestWord_18 jn_RU_nearestWord_97
    rw [hc.1, if_neg (by rw [nI_leI (by omega) (by omega)]; omega), kn_in (by omega), decide_eq_true (by omega), kn_if_t, nI_clamp (by omega), (hc.2 i hi).2.1, hsz, nI_1]
    have hdist : zDist v (zRowAt W i) = zE (zDg v) (zDg (zRowAt W i)) (zSize v) (zSize (zRowAt W i)) := rfl
    by_cases hp : l ≤ (if zSize (zRowAt W i) ≤ zSize v then zSize v - zSize (zRowAt W i) else zSize (zRowAt W i) - zSize v)
    · rw [if_pos (by rw [hl1, nI_leI (by omega) (by split <;> omega)]; exact hp)]
      have : ¬ zDist v (zRowAt W i) < l := by
        rw [hdist]
        split at hp <;> omega
      rw [if_neg this] at hl3
      rw [← hl3]
      exact ih k (i + 1) μ (by omega) (by omega) hc hs
    · rw [if_neg (by rw [hl1, nI_leI (by omega) (by split <;> omega)]; exact hp), kn_if_t, (hc.2 i hi).1]
      obtain ⟨μ1, e⟩ := ru_steps hn hv hr.1 hs
      have f := fr_f_RU_stepsFromLeft e
      rw [e, kn_bs]
      unfold jn_RU_nearestWord_80 jn_RU_nearestWord_95 jn_RU_nearestWord_97
      simp only [nI_1]
      have hcs : cWords μ1 13 14 15 16 17 W := hc.fr f (by decide)
      have hs1 : zSnd (μ1.1 40) v := by rw [fr_at f (by decide) (by decide)]; exact hs
      have := ih k (i + 1) μ1 (by omega) (by omega) hcs hs1
      rw [hl3] at this
      rw [hl1]
      by_cases hlt : zDist v (zRowAt W i) < l
      · rw [if_neg (by rw [nI_leI (by omega) (by omega)]; omega), if_neg (by rw [nI_leI (by omega) (by omega)]; omega)]
        rw [if_pos hlt] at this
        exact this
      · rw [if_pos (by rw [nI_leI (by omega) (by omega)]; omega), if_pos (by rw [nI_leI (by omega) (by omega)]; omega)]
        rw [if_neg hlt, hl1] at this
        exact this
def zNear (W : zW) (v : Nat) : Int32 := zNrB (zNr W v W.length)
theorem ru_nearest {n : Nat} (hn : 20 ≤ n) {W : zW} (hW : zWok W) {v : Nat} (hv : v ≤ 244140624) {μ : kbM} (hc : cWords μ 13 14 15 16 17 W) : ∃ μ', f_RU_nearestWord n (nI v) μ = some (zNear W v, μ') := by
  have := hW.1
  obtain ⟨μ1, e1, g1⟩ := ro_spread40 hn hv μ
  have f1 := fr_f_RO_spread_40 e1
  obtain ⟨μ2, e2⟩ := ru_near_lp hn hW hv W.length n 0 μ1 (by omega) (by omega) (hc.fr f1 (by decide)) g1
  refine ⟨μ2, ?_⟩
  unfold f_RU_nearestWord
  rw [e1, kn_bs]
  simp only
  have e2' : lp_RU_nearestWord_18 n (nI (zSize v)) n (-1) 1000000 0 μ1 = some (zNear W v, μ2) := e2
  rw [e2', kn_bs]
theorem md_near_lp {n : Nat} (hn : 20 ≤ n) {W : zW} (hW : zWok W) {v : Nat} (hv : v ≤ 244140624) : ∀ (c k i : Nat) (μ : kbM), i + c = W.length → c < k → mWords μ W →
    ∃ μ', lp_MD_nearestTo_8 n (nI v) k (zNrB (zNr W v i)) (zNrL 100000 (zNr W v i)) (nI i) μ = some (zNrB (zNr W v W.length), μ') := by
  intro c
  induction c with
  | zero =>
    intro k i μ h hk hc
    obtain ⟨k, rfl⟩ : ∃ q, k = q + 1 := ⟨k - 1, by omega⟩
    have := hW.1
    refine ⟨μ, ?_⟩
    unfold lp_MD_nearestTo_8
    rw [hc.1, if_pos (by rw [nI_leI (by omega) (by omega)]; omega), show i = W.length by omega]
  | succ c ih =>
    intro k i μ h hk hc
    obtain ⟨k, rfl⟩ : ∃ q, k = q + 1 := ⟨k - 1, by omega⟩
    have h10 := hW.1
    have hi : i < W.length := by omega
    have hr := hW.row hi
    have hd := zDist_le hv hr.1
    have hok := zNr_ok hW hv i (by omega)
    have hsucc : zNr W v (i + 1) = (match zNr W v i with | none => some (i, zDist v (zRowAt W i)) | some q => if zDist v (zRowAt W i) < q.2 then some (i, zDist v (zRowAt W i)) else some q) := rfl
    have hle : ∃ l : Nat, zNrL 100000 (zNr W v i) = nI l ∧ l ≤ 100000 ∧ (zNr W v (i + 1) = if zDist v (zRowAt W i) < l then some (i, zDist v (zRowAt W i)) else zNr W v i) := by
      cases hz : zNr W v i with
      | none =>
        refine ⟨100000, rfl, Nat.le_refl _, ?_⟩
        rw [hsucc, hz, if_pos (by omega)]
      | some q =>
        rw [hz] at hok
        refine ⟨q.2, rfl, by omega, ?_⟩
        rw [hsucc, hz]
    obtain ⟨l, hl1, hl2, hl3⟩ := hle
    unfold lp_MD_nearestTo_8 jn_MD_nearestTo_46
    rw [hc.1, if_neg (by rw [nI_leI (by omega) (by omega)]; omega), kn_in (by omega), decide_eq_true (by omega), kn_if_t, nI_clamp (by omega), (hc.2 i hi).1, nI_1]
    obtain ⟨μ1, e⟩ := md_apartBy hn hv hr.1 μ
    have f := fr_f_MD_apartBy e
    rw [e, kn_bs]
    simp only
    have := ih k (i + 1) μ1 (by omega) (by omega) (hc.fr f (by decide) (by decide))
    rw [hl3] at this
    rw [hl1]
    by_cases hlt : zDist v (zRowAt W i) < l
    · rw [if_pos (by rw [nI_ltI (by omega) (by omega)]; exact hlt)]
      rw [if_pos hlt] at this
      exact this
    · rw [if_neg (by rw [nI_ltI (by omega) (by omega)]; exact hlt)]
      rw [if_neg hlt, hl1] at this
      exact this
theorem md_nearestTo {n : Nat} (hn : 20 ≤ n) {W : zW} (hW : zWok W) {v : Nat} (hv : v ≤ 244140624) {μ : kbM} (hc : mWords μ W) : ∃ μ', f_MD_nearestTo n (nI v) μ = some (zNear W v, μ') := by
  have := hW.1
  obtain ⟨μ2, e2⟩ := md_near_lp hn hW hv W.length n 0 μ (by omega) (by omega) hc
  refine ⟨μ2, ?_⟩
  unfold f_MD_nearestTo
  have e2' : lp_MD_nearestTo_8 n (nI v) n (-1) 100000 0 μ = some (zNear W v, μ2) := e2
  rw [e2', kn_bs]
theorem zNear_cases {W : zW} (hW : zWok W) {v : Nat} (hv : v ≤ 244140624) : zNear W v = -1 ∨ ∃ w, w < W.length ∧ zNear W v = nI w ∧ nI w ≠ -1 := by
  have := zNr_ok hW hv W.length (Nat.le_refl _)
  have h10 := hW.1
  unfold zNear
  cases h : zNr W v W.length with
  | none => exact Or.inl rfl
  | some q =>
    rw [h] at this
    refine Or.inr ⟨q.1, this.1, rfl, fun e => ?_⟩
    have e2 := congrArg Int32.toInt e
    rw [nI_toInt (by omega)] at e2
    have h1 : (-1 : Int32).toInt = -1 := by decide
    omega
def s_nearest (A : zA) (u1 u2 : Int32) : Int32 × Int32 := if zIn u2 2 = true then (if zIsRow u1 = true then (0, if u2 = 0 ∨ zNear A.1.1.1 u1.toNatClampNeg = -1 then zNear A.1.1.1 u1.toNatClampNeg else nI (zDist u1.toNatClampNeg (zRowAt A.1.1.1 (zNear A.1.1.1 u1.toNatClampNeg).toNatClampNeg))) else (2, 0)) else (1, 0)
theorem cl_nearest {n : Nat} (hn : 20 ≤ n) {μ : kbM} {A : zA} (hA : zOk A) (h : rC μ A) (u1 u2 : Int32) : ∃ μ1, f_L_nearest n u1 u2 μ = some ((s_nearest A u1 u2).1, μ1) ∧ ((s_nearest A u1 u2).1 = 0 → μ1.2 97 0 = (s_nearest A u1 u2).2.toInt64) := by
  have h10 := hA.words.1
  unfold f_L_nearest f_KB_nearest s_nearest jn_KB_nearest_27
  rw [show (2 : Int32) = nI 2 from rfl, kb_needWhat n μ u2 (by decide)]
  cases h2 : zIn u2 2 with
  | false => exact ⟨μ, rfl, fun q => absurd q (by first | exact z1n | exact z2n)⟩
  | true =>
    rw [if_pos rfl, kn_or_r, kb_needRow hn]
    cases hr : zIsRow u1 with
    | false => exact ⟨μ, rfl, fun q => absurd q (by first | exact z1n | exact z2n)⟩
    | true =>
      obtain ⟨v, rfl, -, hv⟩ := zIsRow_t hr
      obtain ⟨μ1, e1⟩ := ru_nearest hn hA.words hv h.words
      have f1 := fr_f_RU_nearestWord e1
      rw [if_pos rfl, kn_or_r, e1, kn_bs, nI_clamp (by omega)]
      simp only [if_true]
      rcases zNear_cases hA.words hv with hz | ⟨w, hw, hz, hne⟩
      · rw [if_pos hz, if_pos (Or.inr hz)]
        exact ⟨_, rfl, fun _ => kX_at⟩
      · have hne' : ¬ zNear A.1.1.1 v = -1 := by rw [hz]; exact hne
        rw [if_neg hne']
        by_cases hu : u2 = 0
        · rw [if_pos hu, if_pos (Or.inl hu)]
          exact ⟨_, rfl, fun _ => kX_at⟩
        · have hwd := h.words.fr f1 (by decide)
          obtain ⟨μ3, e3⟩ := ru_full hn hv (hA.words.row hw).1 μ1
          rw [if_neg hu, if_neg (by simp [hu, hne']), hz, kn_in (by omega), decide_eq_true (by omega), kn_if_t, nI_clamp (by omega), (hwd.2 w hw).1, e3, kn_bs]
          exact ⟨_, rfl, fun _ => kX_at⟩
theorem md_nearest {n : Nat} (hn : 20 ≤ n) {μ : kbM} {A : zA} (hA : zOk A) (h : rM μ A) (u1 u2 : Int32) : ∃ v μ2, f_MD_nearest n u1 u2 μ = some (v, μ2) ∧ μ2.1 57 3 = (s_nearest A u1 u2).1 ∧ ((s_nearest A u1 u2).1 = 0 → v = (s_nearest A u1 u2).2) := by
  have h10 := hA.words.1
  have h' : rM (kbW μ 57 3 0) A := h.fr (C := []) (S := [3]) (kbFr.w57 kbFr.rf (by decide)) (by decide) (by decide)
  unfold f_MD_nearest s_nearest jn_MD_nearest_14 jn_MD_nearest_48 jn_MD_nearest_63 f_MD_fail
  rcases zIn_2 u2 with ⟨q1, q2⟩ | ⟨q1, q2, q3⟩ | ⟨q1, q2, q3, q4⟩
  · rw [if_pos q1, q2]; exact ⟨_, _, rfl, kW_at, fun q => absurd q (by first | exact z1n | exact z2n)⟩
  · rw [if_neg q1, if_neg q2, q3]; exact ⟨_, _, rfl, kW_at, fun q => absurd q (by first | exact z1n | exact z2n)⟩
  · rw [if_neg q1, if_pos q2, q3, md_isRow hn, kn_bs, if_pos rfl]
    cases hr : zIsRow u1 with
    | false => exact ⟨_, _, rfl, kW_at, fun q => absurd q (by first | exact z1n | exact z2n)⟩
    | true =>
      obtain ⟨v, rfl, -, hv⟩ := zIsRow_t hr
      obtain ⟨μ1, e1⟩ := md_nearestTo hn hA.words hv h'.words
      have f1 := fr_f_MD_nearestTo e1
      have c1 : μ1.1 57 3 = 0 := (fr_57 f1 (by decide) (by decide)).trans kW_at
      rw [if_neg (show ¬ zB true = 0 by decide), if_pos rfl, e1, kn_bs, nI_clamp (by omega)]
      by_cases hu : u2 = 0
      · rw [if_pos hu, if_pos (Or.inl hu)]
        exact ⟨_, _, rfl, c1, fun _ => rfl⟩
      · rw [if_neg hu]
        rcases zNear_cases hA.words hv with hz | ⟨w, hw, hz, hne⟩
        · rw [if_pos hz, if_pos (Or.inr hz)]
          exact ⟨_, _, rfl, c1, fun _ => rfl⟩
        · have hne' : ¬ zNear A.1.1.1 v = -1 := by rw [hz]; exact hne
          have hwd := h'.words.fr f1 (by decide) (by decide)
          obtain ⟨μ3, e3⟩ := md_apartBy hn hv (hA.words.row hw).1 μ1
          have f3 := fr_f_MD_apartBy e3
          rw [if_neg hne', if_neg (by simp [hu, hne']), hz, kn_in (by omega), decide_eq_true (by omega), kn_if_t, nI_clamp (by omega), (hwd.2 w hw).1, e3, kn_bs]
          exact ⟨_, _, rfl, (fr_57 f3 (by decide) (by decide)).trans c1, fun _ => rfl⟩
theorem op_10 {n : Nat} (hn : 20 ≤ n) {μ : kbM} (hI : kbInv μ) (u1 u2 : Int32) : ∃ μ', c_law_10 n u1 u2 μ = some μ' ∧ kbInv μ' := by
  obtain ⟨A, hA, hC, hM⟩ := hI
  obtain ⟨μ1, h1, h4⟩ := cl_nearest hn hA hC u1 u2
  have f1 := fr_f_L_nearest h1
  have hC1 := hC.fr f1 (by decide) (by decide)
  have hM1 := hM.fr f1 (by decide) (by decide)
  obtain ⟨v, μ2, h2, h3, h5⟩ := md_nearest hn hA hM1 u1 u2
  have f2 := fr_f_MD_nearest h2
  refine ⟨μ2, law_int h1 h2 h3 (fun q => ?_), A, hA, hC1.fr f2 (by decide) (by decide), hM1.fr f2 (by decide) (by decide)⟩
  rw [fr_at2 f2 (by decide) (by decide), h4 q, h5 q]
