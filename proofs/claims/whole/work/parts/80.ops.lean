/-! the acts' calls -/
theorem cWords.cg {μ μ' : kbM} {o r z p w : Nat} {W : zW} (h : ∀ a ∈ [o, r, z, p, w], μ'.1 a = μ.1 a) (q : cWords μ o r z p w W) : cWords μ' o r z p w W := by
  simp only [List.forall_mem_cons, List.not_mem_nil, false_implies, implies_true, and_true] at h
  obtain ⟨h1, h2, h3, h4, h5⟩ := h
  unfold cWords at q ⊢
  rw [h1, h2, h3, h4, h5]; exact q
theorem mWords.cg {μ μ' : kbM} {W : zW} (h7 : μ'.1 57 27 = μ.1 57 27) (h : ∀ a ∈ [70, 71, 72], μ'.1 a = μ.1 a) (q : mWords μ W) : mWords μ' W := by
  simp only [List.forall_mem_cons, List.not_mem_nil, false_implies, implies_true, and_true] at h
  obtain ⟨h1, h2, h3⟩ := h
  unfold mWords at q ⊢
  rw [h7, h1, h2, h3]; exact q
theorem rC.kX {μ : kbM} {A : zA} (h : rC μ A) (v : Int64) : rC (kbX μ 97 0 v) A := h.congr (fun _ _ => rfl) h.2.2.2.2.2.1
theorem c_refuse {μ : kbM} {A : zA} (h : rC μ A) {k : Nat} (hk : k < 3) : rC (kbW μ 21 k (μ.1 21 k + 1)) (zRf A.1 k, A.2) := by
  refine h.ses (fun a ha => kW_ne (by revert a; decide)) ?_ ?_
  · obtain ⟨g1, g2, g3, g4, g5, g6, g7⟩ := h.1
    refine ⟨g1.cg (fun a ha => kW_ne (by revert a; decide)), by rw [kW_ne (by decide)]; exact g2, by rw [kW_ne (by decide)]; exact g3, by rw [kW_ne (by decide)]; exact g4, ?_, ?_, fun i hi => ?_⟩
    · unfold cLog at g5 ⊢; rw [kW_ne (by decide)]; exact g5
    · unfold cHeard at g6 ⊢; rw [kW_ne (by decide), kW_ne (by decide)]; exact g6
    · have q := g7 i hi
      have qk := g7 k hk
      by_cases e : i = k
      · subst e; rw [kW_at]; show _ = upd A.1.2.2.2 i _ i; rw [pk_us, q]
      · rw [kW_no e]; show _ = upd A.1.2.2.2 k _ i; rw [pk_un e, q]
  · unfold cKnown; rw [kW_ne (by decide)]; exact h.2.2.2.2.2.1
theorem m_refuse {μ : kbM} {A : zA} (h : rM μ A) {k : Nat} (hk : k < 3) : rM (kbW μ 68 k (μ.1 68 k + 1)) (zRf A.1 k, A.2) := by
  refine h.ses (fun a ha => kW_ne (by revert a; decide)) (fun a _ => by rw [kW_ne (by decide)]) ?_
  obtain ⟨g1, g2, g3, g4, g5, g6, g7⟩ := h.1
  refine ⟨g1.cg (by rw [kW_ne (by decide)]) (fun a ha => kW_ne (by revert a; decide)), by rw [kW_ne (by decide)]; exact g2, by rw [kW_ne (by decide)]; exact g3, by rw [kW_ne (by decide)]; exact g4, ?_, ?_, fun i hi => ?_⟩
  · unfold mPast mPack at g5 ⊢; rw [kW_ne (by decide)]; exact g5
  · unfold cHeard at g6 ⊢; rw [kW_ne (by decide), kW_ne (by decide)]; exact g6
  · have q := g7 i hi
    have qk := g7 k hk
    by_cases e : i = k
    · subst e; rw [kW_at]; show _ = upd A.1.2.2.2 i _ i; rw [pk_us, q]
    · rw [kW_no e]; show _ = upd A.1.2.2.2 k _ i; rw [pk_un e, q]
theorem md_refuse {μ : kbM} {k : Nat} (hk : k < 3) : f_MD_refuse (nI k) μ = some (-1, kbW μ 68 k (μ.1 68 k + 1)) := by
  unfold f_MD_refuse
  simp (disch := omega) only [kn_if_t, kn_bs, kn_or_l, kn_or_r, kn_inT, nI_clamp, nI_leI, nI_ltI, nI_eq, nI_add, pk_mul, nI_1, kn_eq0, kn_lt0, kn_le0, kn_0le, kn_div, kn_rem, kn_or, kn_and, kn_or0, kn_ad0, kn_shl1, kn_bitB, zBt, zBf, zB1t, zB1f, zB_01, zB_10, kl_2, kl_3, kl_4, kl_5, kl_6, kl_7, kl_8, kl_10, kl_12, kl_13, if_pos, if_neg, ↓reduceIte, eq_self, not_true_eq_false, not_false_eq_true, Nat.add_zero, Nat.or_zero, reduceCtorEq, or_true, true_or, or_false, false_or, decide_true, decide_false, kn_sub1, sb_m1, pk_sub, kW_ne, kW_at, kW_no, kA_ne, kA_eq, ite_self, and_self, true_and, and_true]
theorem c_act {μ ν : kbM} {A : zA} {a : zAct} {t : zSt} (h : rC μ A) (hl : t.1.length ≤ 10) (hW : cWords ν 13 14 15 16 17 t.1) (h7 : ν.1 12 7 = nI t.2) (h5 : ν.1 12 5 = nI (zKeep A.1.2.1 a A.1.1).length) (hL : cLog ν 18 (zKeep A.1.2.1 a A.1.1)) (h6 : ν.1 12 6 = μ.1 12 6) (hs : ∀ c ∈ [0, 1, 2, 19, 20, 21, 22, 23, 24, 25, 26, 27, 28, 29, 30, 31, 32, 33, 34, 35, 36], ν.1 c = μ.1 c) : rC (kbRn ν) (zDo A.1 a t, A.2) := by
  refine h.ses (fun c hc => ?_) ?_ (kRn_known ν hl _)
  · rw [kRn_ne (by revert c; decide)]; exact hs c (by revert c; decide)
  · refine h.1.do (hW.cg fun c hc => kRn_ne (by revert c; decide)) ?_ ?_ ?_ ?_ ?_ ?_ ?_
    · rw [kRn_ne (by decide)]; exact h7
    · rw [kRn_ne (by decide)]; exact h5
    · unfold cLog at hL ⊢; rw [kRn_ne (by decide)]; exact hL
    · rw [kRn_ne (by decide)]; exact h6
    · rw [kRn_ne (by decide)]; exact hs 19 (by decide)
    · rw [kRn_ne (by decide)]; exact hs 20 (by decide)
    · rw [kRn_ne (by decide)]; exact hs 21 (by decide)
theorem m_act {μ ν : kbM} {A : zA} {a : zAct} {t : zSt} (h : rM μ A) (hW : mWords ν t.1) (h7 : ν.1 57 28 = nI t.2) (h5 : ν.1 57 29 = nI (zKeep A.1.2.1 a A.1.1).length) (hL : mPast ν 73 (zKeep A.1.2.1 a A.1.1)) (hs : ∀ c ∈ [61, 65, 66, 67, 68, 69, 89, 90, 92, 93, 94, 95, 96], ν.1 c = μ.1 c) (hk : ∀ k ∈ [13, 22, 30, 52, 53, 54], ν.1 57 k = μ.1 57 k) : rM ν (zDo A.1 a t, A.2) :=
  h.ses (fun c hc => hs c (by revert c; decide)) (fun k hk' => hk k (by revert k; decide)) (h.1.do hW h7 h5 hL (hk 30 (by decide)) (hs 89 (by decide)) (hs 90 (by decide)) (hs 68 (by decide)))
theorem zOk.past {A : zA} (h : zOk A) : ∀ q ∈ A.1.2.1, q.2.1.length ≤ 10 := fun q hq => (h.1.2.2.1 q hq).1.1
theorem m_keepA {n : Nat} (hn : 2000 ≤ n) {μ : kbM} {A : zA} (hA : zOk A) (h : rM μ A) (a : zAct) : ∃ μ', f_MD_keep n μ = some μ' ∧ mPast μ' 73 (zKeep A.1.2.1 a A.1.1) ∧ μ'.1 57 29 = nI (zKeep A.1.2.1 a A.1.1).length ∧ (∀ c, c ≠ 57 → c ≠ 73 → μ'.1 c = μ.1 c) ∧ (∀ k, k ≠ 29 → μ'.1 57 k = μ.1 57 k) ∧ mWords μ' A.1.1.1 ∧ μ'.1 57 28 = nI A.1.1.2 := by
  obtain ⟨μ', e, g1, g2, g3, g4⟩ := m_keep (n := n) hn h.words hA.words.1 h.wet hA.past h.1.2.2.1 h.1.2.2.2.2.1 hA.1.2.1 a
  refine ⟨μ', e, g1, g2, g3, g4, h.words.cg (g4 27 (by decide)) (fun c hc => g3 c (by revert c; decide) (by revert c; decide)), by rw [g4 28 (by decide)]; exact h.wet⟩
/-! take -/
def zTk (A : zA) (u1 u2 u3 : Int32) : Bool := decide (A.1.1.1.length < 10) && zIsRow u1 && decide (¬ u1 = 0) && decide (zSize u1.toNatClampNeg ≤ 6) && (zFd A.1.1.1 u1.toNatClampNeg).isNone && zIn u2 3 && zIn u3 100
def t_take (A : zA) (u1 u2 u3 : Int32) : zSes × Int32 := if zTk A u1 u2 u3 = true then (zDo A.1 (0, A.1.1.1.length, u1.toNatClampNeg, u2.toNatClampNeg, u3.toNatClampNeg) (A.1.1.1.insertIdx A.1.1.1.length (u1.toNatClampNeg, u2.toNatClampNeg, u3.toNatClampNeg), A.1.1.2), nI A.1.1.1.length) else (zRf A.1 1, -1)
theorem zTk_t {A : zA} {u1 u2 u3 : Int32} (h : zTk A u1 u2 u3 = true) : ∃ v pt wt, u1 = nI v ∧ u2 = nI pt ∧ u3 = nI wt ∧ v ≤ 244140624 ∧ zWord v ∧ pt ≤ 2 ∧ wt ≤ 99 ∧ A.1.1.1.length < 10 ∧ zFd A.1.1.1 v = none := by
  simp only [zTk, Bool.and_eq_true, decide_eq_true_eq, Option.isNone_iff_eq_none] at h
  obtain ⟨⟨⟨⟨⟨⟨h1, h2⟩, h3⟩, h4⟩, h5⟩, h6⟩, h7⟩ := h
  obtain ⟨v, rfl, hv, hv2⟩ := zIsRow_t h2
  obtain ⟨pt, hp, rfl⟩ := zIn_f (by decide) h6
  obtain ⟨wt, hw, rfl⟩ := zIn_f (by decide) h7
  rw [nI_clamp (by omega)] at h4 h5
  have h4' := (zSize_le 6 v).mp h4
  rw [show (5 : Nat) ^ 6 = 15625 by decide] at h4'
  simp only [zRow, Bool.and_eq_true, decide_eq_true_eq] at hv
  exact ⟨v, pt, wt, rfl, rfl, rfl, hv2, ⟨hv.2, by rcases Nat.eq_zero_or_pos v with q | q; · subst q; exact absurd rfl h3
                                                  · exact q, h4'⟩, by omega, by omega, h1, h5⟩
theorem cl_take {n : Nat} (hn : 2000 ≤ n) {μ : kbM} {A : zA} (hA : zOk A) (h : rC μ A) (u1 u2 u3 : Int32) : ∃ μ1, f_KB_take n u1 u2 u3 μ = some ((t_take A u1 u2 u3).2, μ1) ∧ rC μ1 ((t_take A u1 u2 u3).1, A.2) := by
  have h10 := hA.words.1
  have refF : zTk A u1 u2 u3 = false → ∃ μ1, jn_KB_take_67 n u1 u2 u3 μ = some ((t_take A u1 u2 u3).2, μ1) ∧ rC μ1 ((t_take A u1 u2 u3).1, A.2) := by
    intro hf
    refine ⟨kbW μ 21 1 (μ.1 21 1 + 1), ?_, ?_⟩
    · unfold jn_KB_take_67 jn_KB_take_68 f_KB_refuseAct t_take; rw [hf]; rfl
    · unfold t_take; rw [hf]; exact c_refuse h (by decide)
  unfold f_KB_take
  rw [h.words.1, kl_10]
  by_cases h1 : 10 ≤ A.1.1.1.length
  · rw [if_pos (by rw [nI_leI (by decide) (by omega)]; exact h1)]
    exact refF (by unfold zTk; rw [decide_eq_false (show ¬ A.1.1.1.length < 10 by omega)]; simp only [Bool.false_and])
  rw [if_neg (by rw [nI_leI (by decide) (by omega)]; exact h1), ro_isRow (by omega), kn_bs]
  cases h2 : zIsRow u1 with
  | false => rw [if_pos (show zB false = 0 from rfl)]; exact refF (by unfold zTk; rw [h2]; simp only [Bool.false_and, Bool.and_false])
  | true =>
    rw [if_neg (show ¬ zB true = 0 by decide)]
    by_cases h3 : u1 = 0
    · rw [if_pos h3]; exact refF (by unfold zTk; rw [decide_eq_false (show ¬ ¬ u1 = 0 from fun q => q h3)]; simp only [Bool.false_and, Bool.and_false])
    rw [if_neg h3]
    obtain ⟨v, hu1, hv, hv2⟩ := zIsRow_t h2
    have hcl : u1.toNatClampNeg = v := by rw [hu1]; exact nI_clamp (by omega)
    have hs14 := zSize_lt32 (v := v) (by omega)
    by_cases h4 : zSize v ≤ 6
    · have ef : f_WO_find_13 n u1 μ = some (zFdI (zFd A.1.1.1 v)) := by rw [hu1]; exact c_find (by omega) hA.words h.words (by omega)
      have es : f_RO_size n u1 = some (nI (zSize v)) := by rw [hu1]; exact ro_size (by omega) hv2
      rw [es, kn_bs, kl_6, if_neg (by rw [nI_ltI (by decide) (by omega)]; omega), ef, kn_bs]
      cases h5 : zFd A.1.1.1 v with
      | some q =>
        have hne := mt (zFdI_m1 h10 v).mp (by rw [h5]; simp)
        rw [h5] at hne
        rw [if_neg hne]
        exact refF (by unfold zTk; rw [hcl, h5]; simp only [Option.isNone_some, Bool.false_and, Bool.and_false])
      | none =>
        rw [if_pos (show zFdI none = -1 from rfl), kb_isPart, kn_bs]
        cases h6 : zIn u2 3 with
        | false => rw [if_pos (show zB false = 0 from rfl)]; exact refF (by unfold zTk; rw [h6]; simp only [Bool.false_and, Bool.and_false])
        | true =>
          rw [if_neg (show ¬ zB true = 0 by decide), kb_isWorth, kn_bs]
          cases h7 : zIn u3 100 with
          | false => rw [if_pos (show zB false = 0 from rfl)]; exact refF (by unfold zTk; rw [h7]; simp only [Bool.false_and, Bool.and_false])
          | true =>
            have ht : zTk A u1 u2 u3 = true := by
              unfold zTk
              rw [decide_eq_true (show A.1.1.1.length < 10 by omega), h2, decide_eq_true (show ¬ u1 = 0 from h3), hcl, decide_eq_true h4, h5, h6, h7]; rfl
            obtain ⟨pt, hp, hu2⟩ := zIn_f (by decide) h6
            obtain ⟨wt, hw, hu3⟩ := zIn_f (by decide) h7
            have c2 : u2.toNatClampNeg = pt := by rw [hu2]; exact nI_clamp (by omega)
            have c3 : u3.toNatClampNeg = wt := by rw [hu3]; exact nI_clamp (by omega)
            obtain ⟨x1, e1, w1⟩ := c_insert (n := n) (by omega) (p := A.1.1.1.length) (pt := pt) (wt := wt) h.words (by omega) (Nat.le_refl _) hv2
            have f1 := fr_f_WO_insert_13 e1
            obtain ⟨x2, e2, k1, k2, k3, k4⟩ := c_keep (μ := x1) (G := A.1.2.1) (by rw [fr_at f1 (by decide) (by decide)]; exact h.1.2.2.1) (by have := h.1.2.2.2.2.1; unfold cLog at this ⊢; rw [fr_at f1 (by decide) (by decide)]; exact this) hA.1.2.1 (0, A.1.1.1.length, v, pt, wt) A.1.1
            have e2' : f_ST_keepAct_12 0 (nI A.1.1.1.length) (nI v) (nI pt) (nI wt) x1 = some x2 := e2
            rw [if_neg (show ¬ zB true = 0 by decide)]
            unfold jn_KB_take_68 t_take
            rw [if_neg z1n, ht, if_pos rfl, h.words.1, hcl, c2, c3, hu1, hu2, hu3, e1, kn_bs, e2', kn_bs, jo_renew, kn_bs]
            refine ⟨kbRn x2, rfl, c_act h ?_ ?_ ?_ k2 k1 ?_ ?_⟩
            · show (A.1.1.1.insertIdx A.1.1.1.length (v, pt, wt)).length ≤ 10
              rw [List.length_insertIdx_of_le_length (Nat.le_refl _)]; omega
            · exact w1.cg (fun c hc => k3 c (by revert c; decide) (by revert c; decide))
            · rw [k4 7 (by decide), fr_at f1 (by decide) (by decide)]; exact h.wet
            · rw [k4 6 (by decide), fr_at f1 (by decide) (by decide)]
            · intro c hc
              rw [k3 c (by revert c; decide) (by revert c; decide), fr_at f1 (by revert c; decide) (by revert c; decide)]
    · have es : f_RO_size n u1 = some (nI (zSize v)) := by rw [hu1]; exact ro_size (by omega) hv2
      rw [es, kn_bs, kl_6, if_pos (by rw [nI_ltI (by decide) (by omega)]; omega)]
      exact refF (by unfold zTk; rw [hcl, decide_eq_false h4]; simp only [Bool.false_and, Bool.and_false])
theorem md_take {n : Nat} (hn : 2000 ≤ n) {μ : kbM} {A : zA} (hA : zOk A) (h0 : rM μ A) (u1 u2 u3 : Int32) : ∃ μ1, f_MD_take n u1 u2 u3 μ = some ((t_take A u1 u2 u3).2, μ1) ∧ rM μ1 ((t_take A u1 u2 u3).1, A.2) := by
  have h10 := hA.words.1
  have h := h0.c0 0
  have refF : zTk A u1 u2 u3 = false → ∃ μ1, jn_MD_take_67 n (kbW μ 57 3 0) = some ((t_take A u1 u2 u3).2, μ1) ∧ rM μ1 ((t_take A u1 u2 u3).1, A.2) := by
    intro hf
    refine ⟨kbW (kbW μ 57 3 0) 68 1 ((kbW μ 57 3 0).1 68 1 + 1), ?_, ?_⟩
    · unfold jn_MD_take_67 t_take
      rw [show f_MD_refuse 1 (kbW μ 57 3 0) = _ from md_refuse (k := 1) (by decide), hf]; rfl
    · unfold t_take; rw [hf]; exact m_refuse h (by decide)
  unfold f_MD_take
  rw [h.words.1, kl_10]
  by_cases h1 : A.1.1.1.length = 10
  · rw [if_pos (by rw [h1])]
    exact refF (by unfold zTk; rw [decide_eq_false (show ¬ A.1.1.1.length < 10 by omega)]; simp only [Bool.false_and])
  rw [if_neg (by rw [nI_eq (by omega) (by decide)]; exact h1), md_isRow (by omega), kn_bs]
  cases h2 : zIsRow u1 with
  | false => rw [if_pos (show zB false = 0 from rfl)]; exact refF (by unfold zTk; rw [h2]; simp only [Bool.false_and, Bool.and_false])
  | true =>
    rw [if_neg (show ¬ zB true = 0 by decide)]
    by_cases h3 : u1 = 0
    · rw [if_pos h3]; exact refF (by unfold zTk; rw [decide_eq_false (show ¬ ¬ u1 = 0 from fun q => q h3)]; simp only [Bool.false_and, Bool.and_false])
    rw [if_neg h3]
    obtain ⟨v, hu1, hv, hv2⟩ := zIsRow_t h2
    have hcl : u1.toNatClampNeg = v := by rw [hu1]; exact nI_clamp (by omega)
    have hs14 := zSize_lt32 (v := v) (by omega)
    have es : f_MD_sizeOf n u1 = some (nI (zSize v)) := by rw [hu1]; exact md_sizeOf (by omega) (by omega)
    by_cases h4 : zSize v ≤ 6
    · have ef : f_MD_wordBy n u1 (kbW μ 57 3 0) = some (zFdI (zFd A.1.1.1 v)) := by rw [hu1]; exact m_find (by omega) hA.words h.words (by omega)
      rw [es, kn_bs, kl_6, if_neg (by rw [nI_ltI (by decide) (by omega)]; omega), ef, kn_bs]
      cases h5 : zFd A.1.1.1 v with
      | some q =>
        have hne := mt (zFdI_m1 h10 v).mp (by rw [h5]; simp)
        rw [h5] at hne
        rw [if_neg hne]
        exact refF (by unfold zTk; rw [hcl, h5]; simp only [Option.isNone_some, Bool.false_and, Bool.and_false])
      | none =>
        rw [if_pos (show zFdI none = -1 from rfl), kn_isIn2, kn_bs]
        cases h6 : zIn u2 3 with
        | false => rw [if_pos (show zB false = 0 from rfl)]; exact refF (by unfold zTk; rw [h6]; simp only [Bool.false_and, Bool.and_false])
        | true =>
          rw [if_neg (show ¬ zB true = 0 by decide), kn_isIn99, kn_bs]
          cases h7 : zIn u3 100 with
          | false => rw [if_pos (show zB false = 0 from rfl)]; exact refF (by unfold zTk; rw [h7]; simp only [Bool.false_and, Bool.and_false])
          | true =>
            have ht : zTk A u1 u2 u3 = true := by
              unfold zTk
              rw [decide_eq_true (show A.1.1.1.length < 10 by omega), h2, decide_eq_true (show ¬ u1 = 0 from h3), hcl, decide_eq_true h4, h5, h6, h7]; rfl
            obtain ⟨pt, hp, hu2⟩ := zIn_f (by decide) h6
            obtain ⟨wt, hw, hu3⟩ := zIn_f (by decide) h7
            have c2 : u2.toNatClampNeg = pt := by rw [hu2]; exact nI_clamp (by omega)
            have c3 : u3.toNatClampNeg = wt := by rw [hu3]; exact nI_clamp (by omega)
            obtain ⟨x, e1, k1, k2, k3, k4, kw, kwt⟩ := m_keepA hn hA h (0, A.1.1.1.length, v, pt, wt)
            rw [if_neg (show ¬ zB true = 0 by decide), e1, kn_bs]
            unfold t_take
            rw [ht, if_pos rfl, hcl, c2, c3, hu1, hu2, hu3]
            refine ⟨kbW (kbW (kbW (kbW x 70 A.1.1.1.length (nI v)) 71 A.1.1.1.length (nI pt)) 72 A.1.1.1.length (nI wt)) 57 27 (nI (A.1.1.1.length + 1)), ?_, m_act h (m_ins kw (by omega)) ?_ ?_ ?_ ?_ ?_⟩
            · simp (disch := omega) only [kn_if_t, kn_bs, kn_or_l, kn_or_r, kn_inT, nI_clamp, nI_leI, nI_ltI, nI_eq, nI_add, pk_mul, nI_1, kn_eq0, kn_lt0, kn_le0, kn_0le, kn_div, kn_rem, kn_or, kn_and, kn_or0, kn_ad0, kn_shl1, kn_bitB, zBt, zBf, zB1t, zB1f, zB_01, zB_10, kl_2, kl_3, kl_4, kl_5, kl_6, kl_7, kl_8, kl_10, kl_12, kl_13, if_pos, if_neg, ↓reduceIte, eq_self, not_true_eq_false, not_false_eq_true, Nat.add_zero, Nat.or_zero, reduceCtorEq, or_true, true_or, or_false, false_or, decide_true, decide_false, kn_sub1, sb_m1, pk_sub, kW_ne, kW_at, kW_no, kA_ne, kA_eq, ite_self, and_self, true_and, and_true, kw.1, Nat.add_sub_cancel]
            · simp (disch := omega) only [kn_if_t, kn_bs, kn_or_l, kn_or_r, kn_inT, nI_clamp, nI_leI, nI_ltI, nI_eq, nI_add, pk_mul, nI_1, kn_eq0, kn_lt0, kn_le0, kn_0le, kn_div, kn_rem, kn_or, kn_and, kn_or0, kn_ad0, kn_shl1, kn_bitB, zBt, zBf, zB1t, zB1f, zB_01, zB_10, kl_2, kl_3, kl_4, kl_5, kl_6, kl_7, kl_8, kl_10, kl_12, kl_13, if_pos, if_neg, ↓reduceIte, eq_self, not_true_eq_false, not_false_eq_true, Nat.add_zero, Nat.or_zero, reduceCtorEq, or_true, true_or, or_false, false_or, decide_true, decide_false, kn_sub1, sb_m1, pk_sub, kW_ne, kW_at, kW_no, kA_ne, kA_eq, ite_self, and_self, true_and, and_true]; exact kwt
            · simp (disch := omega) only [kn_if_t, kn_bs, kn_or_l, kn_or_r, kn_inT, nI_clamp, nI_leI, nI_ltI, nI_eq, nI_add, pk_mul, nI_1, kn_eq0, kn_lt0, kn_le0, kn_0le, kn_div, kn_rem, kn_or, kn_and, kn_or0, kn_ad0, kn_shl1, kn_bitB, zBt, zBf, zB1t, zB1f, zB_01, zB_10, kl_2, kl_3, kl_4, kl_5, kl_6, kl_7, kl_8, kl_10, kl_12, kl_13, if_pos, if_neg, ↓reduceIte, eq_self, not_true_eq_false, not_false_eq_true, Nat.add_zero, Nat.or_zero, reduceCtorEq, or_true, true_or, or_false, false_or, decide_true, decide_false, kn_sub1, sb_m1, pk_sub, kW_ne, kW_at, kW_no, kA_ne, kA_eq, ite_self, and_self, true_and, and_true]; exact k2
            · unfold mPast mPack at k1 ⊢
              simp (disch := omega) only [kn_if_t, kn_bs, kn_or_l, kn_or_r, kn_inT, nI_clamp, nI_leI, nI_ltI, nI_eq, nI_add, pk_mul, nI_1, kn_eq0, kn_lt0, kn_le0, kn_0le, kn_div, kn_rem, kn_or, kn_and, kn_or0, kn_ad0, kn_shl1, kn_bitB, zBt, zBf, zB1t, zB1f, zB_01, zB_10, kl_2, kl_3, kl_4, kl_5, kl_6, kl_7, kl_8, kl_10, kl_12, kl_13, if_pos, if_neg, ↓reduceIte, eq_self, not_true_eq_false, not_false_eq_true, Nat.add_zero, Nat.or_zero, reduceCtorEq, or_true, true_or, or_false, false_or, decide_true, decide_false, kn_sub1, sb_m1, pk_sub, kW_ne, kW_at, kW_no, kA_ne, kA_eq, ite_self, and_self, true_and, and_true]; exact k1
            · intro c hc
              rw [kW_ne (by revert c; decide), kW_ne (by revert c; decide), kW_ne (by revert c; decide), kW_ne (by revert c; decide), k3 c (by revert c; decide) (by revert c; decide)]
            · intro k hk
              rw [kW_no (by revert k; decide), kW_ne (by decide), kW_ne (by decide), kW_ne (by decide), k4 k (by revert k; decide)]
    · rw [es, kn_bs, kl_6, if_pos (by rw [nI_ltI (by decide) (by omega)]; omega)]
      exact refF (by unfold zTk; rw [hcl, decide_eq_false h4]; simp only [Bool.false_and, Bool.and_false])
theorem ok_take {A : zA} (hA : zOk A) (u1 u2 u3 : Int32) : zOk ((t_take A u1 u2 u3).1, A.2) := by
  refine hA.ses ?_
  unfold t_take
  cases ht : zTk A u1 u2 u3 with
  | false => exact zRf_ok hA.1 1
  | true =>
    obtain ⟨v, pt, wt, rfl, rfl, rfl, hv2, hw, hp, hwt, hl, hf⟩ := zTk_t ht
    rw [if_pos rfl, nI_clamp (by omega), nI_clamp (by omega), nI_clamp (by omega)]
    have h3 := hw.2.2
    refine zDo_ok hA.1 ⟨zWok_ins hA.words hl hw hp hwt hf, hA.wet⟩ ⟨?_, (by show 0 ≤ 3; decide), (by show A.1.1.1.length < 2 ^ 31; omega), (by show v < 2 ^ 31; omega), hp, hwt, fun _ => ?_, fun q => (by simp at q), fun q => (by simp at q), fun q => (by simp at q)⟩
    · show ((A.1.1.1.insertIdx A.1.1.1.length (v, pt, wt)).eraseIdx A.1.1.1.length, A.1.1.2) = A.1.1
      rw [List.eraseIdx_insertIdx_self]
    · show A.1.1.1.length < (A.1.1.1.insertIdx A.1.1.1.length (v, pt, wt)).length
      rw [List.length_insertIdx_of_le_length (Nat.le_refl _)]; omega
theorem op_11 {n : Nat} (hn : 5000 ≤ n) {μ : kbM} (hI : kbInv μ) (u1 u2 u3 : Int32) : ∃ μ', c_law_11 n u1 u2 u3 μ = some μ' ∧ kbInv μ' := by
  obtain ⟨A, hA, hC, hM⟩ := hI
  obtain ⟨μ1, h1, hC1⟩ := cl_take (n := n) (by omega) hA hC u1 u2 u3
  have f1 := fr_f_KB_take h1
  have hM1 := hM.fr f1 (by decide) (by decide)
  obtain ⟨μ2, h2, hM2⟩ := md_take (n := n) (by omega) hA hM1 u1 u2 u3
  have f2 := fr_f_MD_take h2
  refine ⟨μ2, ?_, _, ok_take hA u1 u2 u3, hC1.fr f2 (by decide) (by decide), hM2⟩
  unfold c_law_11
  rw [h1, kn_bs]
  simp only
  rw [h2, kn_bs, if_pos rfl]
