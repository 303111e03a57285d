/-! a new word -/
theorem zBit_and (a b k : Nat) : zBit (a &&& b) k = (zBit a k && zBit b k) := by rw [zBit_tb, zBit_tb, zBit_tb, Nat.testBit_and]
theorem zCan_and (a b : Nat) : ∀ v, zCan (a &&& b) v = (zCan a v && zCan b v) := by
  intro v
  induction v using Nat.strongRecOn with
  | ind v ih =>
    by_cases h : v = 0
    · subst h; rw [zCan_0, zCan_0, zCan_0]; rfl
    · rw [zCan_s h, zCan_s h, zCan_s h, ih (v / 5) (Nat.div_lt_self (Nat.pos_of_ne_zero h) (by decide)), zBit_and]
      cases zBit a (v % 5 - 1) <;> cases zBit b (v % 5 - 1) <;> cases zCan a (v / 5) <;> cases zCan b (v / 5) <;> rfl
theorem zBit_15 : ∀ k : Fin 4, zBit 15 k.val = true := by decide +kernel
theorem zCan_15 : ∀ v, zCan 15 v = true := by
  intro v
  induction v using Nat.strongRecOn with
  | ind v ih =>
    by_cases h : v = 0
    · subst h; exact zCan_0 15
    · have b := zBit_15 ⟨v % 5 - 1, by omega⟩
      simp only at b
      rw [zCan_s h, ih (v / 5) (Nat.div_lt_self (Nat.pos_of_ne_zero h) (by decide)), b]; rfl
def zHdC (D : List (Nat × Nat)) (set c : Nat) : Nat := zFold (fun i a => a &&& (if zBit set i = true then zHand D i else 15)) 15 c
theorem zHdC_s (D : List (Nat × Nat)) (set c : Nat) : zHdC D set (c + 1) = zHdC D set c &&& (if zBit set c = true then zHand D c else 15) := rfl
theorem zHdC_lt (D : List (Nat × Nat)) (set c : Nat) : zHdC D set c < 16 := by
  induction c with
  | zero => show 15 < 16; decide
  | succ c ih => rw [zHdC_s]; exact Nat.lt_of_le_of_lt Nat.and_le_left ih
theorem zHdC_can (D : List (Nat × Nat)) (set v c : Nat) : zCan (zHdC D set c) v = zAll (fun i => !(zBit set i) || zCan (zHand D i) v) c := by
  induction c with
  | zero => exact zCan_15 v
  | succ c ih =>
    rw [zHdC_s, zCan_and, ih]
    show (zAll (fun i => !(zBit set i) || zCan (zHand D i) v) c && zCan (if zBit set c = true then zHand D c else 15) v) = (zAll (fun i => !(zBit set i) || zCan (zHand D i) v) c && (!(zBit set c) || zCan (zHand D c) v))
    congr 1
    cases zBit set c
    · exact zCan_15 v
    · rfl
theorem c_common {n : Nat} (hn : 100 ≤ n) {μ : kbM} {W : zW} {D : List (Nat × Nat)} {w : Nat} (h : hOk W D w) (hc : cH μ W D w) {set : Nat} (hs : set < 64) : f_HO_commonHand n (nI set) μ = some (nI (zHdC D set D.length)) := by
  have h6 := h.l6
  have e := kn_loop (fun k (s : Nat) i => lp_HO_commonHand_5 n (nI set) μ k (nI s) (nI i)) (fun i a => a &&& (if zBit set i = true then zHand D i else 15)) 15 D.length (nI (zHdC D set D.length))
    (fun k => by simp (disch := omega) only [kn_if_t, kn_bs, kn_or_l, kn_or_r, kn_inT, nI_clamp, nI_leI, nI_ltI, nI_eq, nI_add, pk_mul, nI_1, kn_eq0, kn_lt0, kn_le0, kn_0le, kn_div, kn_rem, kn_or, kn_and, kn_or0, kn_ad0, kn_shl1, kn_bitB, zBt, zBf, zB1t, zB1f, zB_01, zB_10, kl_2, kl_3, kl_4, kl_5, kl_6, kl_7, kl_8, kl_10, kl_12, kl_13, if_pos, if_neg, ↓reduceIte, eq_self, not_true_eq_false, not_false_eq_true, Nat.add_zero, Nat.or_zero, reduceCtorEq, or_true, true_or, or_false, false_or, decide_true, decide_false, kn_sub1, sb_m1, pk_sub, kW_ne, kW_at, kW_no, kA_ne, kA_eq, ite_self, and_self, true_and, and_true, lp_HO_commonHand_5, hc.2.1.1] <;> rfl)
    (fun k i hi => by
      have hh := (hc.2.1.2 i hi).2
      have e15 : (15 : Int32) = nI 15 := rfl
      cases hb : zBit set i <;> simp (disch := omega) only [kn_if_t, kn_bs, kn_or_l, kn_or_r, kn_inT, nI_clamp, nI_leI, nI_ltI, nI_eq, nI_add, pk_mul, nI_1, kn_eq0, kn_lt0, kn_le0, kn_0le, kn_div, kn_rem, kn_or, kn_and, kn_or0, kn_ad0, kn_shl1, kn_bitB, zBt, zBf, zB1t, zB1f, zB_01, zB_10, kl_2, kl_3, kl_4, kl_5, kl_6, kl_7, kl_8, kl_10, kl_12, kl_13, if_pos, if_neg, ↓reduceIte, eq_self, not_true_eq_false, not_false_eq_true, Nat.add_zero, Nat.or_zero, reduceCtorEq, or_true, true_or, or_false, false_or, decide_true, decide_false, kn_sub1, sb_m1, pk_sub, kW_ne, kW_at, kW_no, kA_ne, kA_eq, ite_self, and_self, true_and, and_true, lp_HO_commonHand_5, jn_HO_commonHand_39, hc.2.1.1, hb, hh, e15, Bool.false_eq_true]) D.length 0 n (by omega) (by omega)
  unfold f_HO_commonHand
  rw [show lp_HO_commonHand_5 n (nI set) μ n 15 0 = _ from e, kn_bs]
def zAnew (W : zW) (D : List (Nat × Nat)) (w v : Nat) : Bool := zAll (fun d => zAll (fun i => !(zHr D w d v == zHr D w d (zRowAt W i))) W.length) D.length
theorem c_anew {n : Nat} (hn : 100 ≤ n) {μ : kbM} {W : zW} {D : List (Nat × Nat)} {w : Nat} (h : hOk W D w) (hc : cH μ W D w) (hE : ∀ d, d < D.length → cEar μ W D w d) {v : Nat} (hv : v ≤ 244140624) : f_HO_isHeardAnew n (nI v) μ = some (zB (zAnew W D w v)) := by
  have h6 := h.l6
  have h10 := h.l10
  have inner : ∀ d, d < D.length → lp_HO_isHeardAnew_23 n (nI v) (nI d) (nI (zHr D w d v)) μ n 0 = some (if zAll (fun i => !(zHr D w d v == zHr D w d (zRowAt W i))) W.length = true then .inr () else .inl 0) := by
    intro d hd
    have gv := zHr_le (D := D) (w := w) (d := d) hv
    exact kn_all (lp := fun k i => lp_HO_isHeardAnew_23 n (nI v) (nI d) (nI (zHr D w d v)) μ k (nI i)) (fun i => !(zHr D w d v == zHr D w d (zRowAt W i))) W.length (.inr ()) (.inl 0)
      (fun k => by simp (disch := omega) only [kn_if_t, kn_bs, kn_or_l, kn_or_r, kn_inT, nI_clamp, nI_leI, nI_ltI, nI_eq, nI_add, pk_mul, nI_1, kn_eq0, kn_lt0, kn_le0, kn_0le, kn_div, kn_rem, kn_or, kn_and, kn_or0, kn_ad0, kn_shl1, kn_bitB, zBt, zBf, zB1t, zB1f, zB_01, zB_10, kl_2, kl_3, kl_4, kl_5, kl_6, kl_7, kl_8, kl_10, kl_12, kl_13, if_pos, if_neg, ↓reduceIte, eq_self, not_true_eq_false, not_false_eq_true, Nat.add_zero, Nat.or_zero, reduceCtorEq, or_true, true_or, or_false, false_or, decide_true, decide_false, kn_sub1, sb_m1, pk_sub, kW_ne, kW_at, kW_no, kA_ne, kA_eq, ite_self, and_self, true_and, and_true, lp_HO_isHeardAnew_23, hc.1.1])
      (fun k i hi hp => by
        have hp1 : zHr D w d v = zHr D w d (zRowAt W i) := by simpa using hp
        simp (disch := omega) only [kn_if_t, kn_bs, kn_or_l, kn_or_r, kn_inT, nI_clamp, nI_leI, nI_ltI, nI_eq, nI_add, pk_mul, nI_1, kn_eq0, kn_lt0, kn_le0, kn_0le, kn_div, kn_rem, kn_or, kn_and, kn_or0, kn_ad0, kn_shl1, kn_bitB, zBt, zBf, zB1t, zB1f, zB_01, zB_10, kl_2, kl_3, kl_4, kl_5, kl_6, kl_7, kl_8, kl_10, kl_12, kl_13, if_pos, if_neg, ↓reduceIte, eq_self, not_true_eq_false, not_false_eq_true, Nat.add_zero, Nat.or_zero, reduceCtorEq, or_true, true_or, or_false, false_or, decide_true, decide_false, kn_sub1, sb_m1, pk_sub, kW_ne, kW_at, kW_no, kA_ne, kA_eq, ite_self, and_self, true_and, and_true, lp_HO_isHeardAnew_23, hc.1.1, hE d hd i hi, hp1])
      (fun k i hi hp => by
        have hp1 : ¬ zHr D w d (zRowAt W i) = zHr D w d v := by
          intro q
          rw [q] at hp
          simp at hp
        have g2 := h.hr d hi
        simp (disch := omega) only [kn_if_t, kn_bs, kn_or_l, kn_or_r, kn_inT, nI_clamp, nI_leI, nI_ltI, nI_eq, nI_add, pk_mul, nI_1, kn_eq0, kn_lt0, kn_le0, kn_0le, kn_div, kn_rem, kn_or, kn_and, kn_or0, kn_ad0, kn_shl1, kn_bitB, zBt, zBf, zB1t, zB1f, zB_01, zB_10, kl_2, kl_3, kl_4, kl_5, kl_6, kl_7, kl_8, kl_10, kl_12, kl_13, if_pos, if_neg, ↓reduceIte, eq_self, not_true_eq_false, not_false_eq_true, Nat.add_zero, Nat.or_zero, reduceCtorEq, or_true, true_or, or_false, false_or, decide_true, decide_false, kn_sub1, sb_m1, pk_sub, kW_ne, kW_at, kW_no, kA_ne, kA_eq, ite_self, and_self, true_and, and_true, lp_HO_isHeardAnew_23, hc.1.1, hE d hd i hi, hp1])
      W.length 0 n (by omega) (by omega) rfl
  have key := kn_all (lp := fun k i => lp_HO_isHeardAnew_2 n (nI v) μ k (nI i)) (fun d => zAll (fun i => !(zHr D w d v == zHr D w d (zRowAt W i))) W.length) D.length (.inr ()) (.inl 0)
    (fun k => by simp (disch := omega) only [kn_if_t, kn_bs, kn_or_l, kn_or_r, kn_inT, nI_clamp, nI_leI, nI_ltI, nI_eq, nI_add, pk_mul, nI_1, kn_eq0, kn_lt0, kn_le0, kn_0le, kn_div, kn_rem, kn_or, kn_and, kn_or0, kn_ad0, kn_shl1, kn_bitB, zBt, zBf, zB1t, zB1f, zB_01, zB_10, kl_2, kl_3, kl_4, kl_5, kl_6, kl_7, kl_8, kl_10, kl_12, kl_13, if_pos, if_neg, ↓reduceIte, eq_self, not_true_eq_false, not_false_eq_true, Nat.add_zero, Nat.or_zero, reduceCtorEq, or_true, true_or, or_false, false_or, decide_true, decide_false, kn_sub1, sb_m1, pk_sub, kW_ne, kW_at, kW_no, kA_ne, kA_eq, ite_self, and_self, true_and, and_true, lp_HO_isHeardAnew_2, hc.2.1.1])
    (fun k i hi hp => by
      have q := inner i hi
      try simp only at hp
      rw [hp, if_neg (by decide)] at q
      have q1 := c_hr (n := n) (by omega) h hc hi hv
      simp (disch := omega) only [kn_if_t, kn_bs, kn_or_l, kn_or_r, kn_inT, nI_clamp, nI_leI, nI_ltI, nI_eq, nI_add, pk_mul, nI_1, kn_eq0, kn_lt0, kn_le0, kn_0le, kn_div, kn_rem, kn_or, kn_and, kn_or0, kn_ad0, kn_shl1, kn_bitB, zBt, zBf, zB1t, zB1f, zB_01, zB_10, kl_2, kl_3, kl_4, kl_5, kl_6, kl_7, kl_8, kl_10, kl_12, kl_13, if_pos, if_neg, ↓reduceIte, eq_self, not_true_eq_false, not_false_eq_true, Nat.add_zero, Nat.or_zero, reduceCtorEq, or_true, true_or, or_false, false_or, decide_true, decide_false, kn_sub1, sb_m1, pk_sub, kW_ne, kW_at, kW_no, kA_ne, kA_eq, ite_self, and_self, true_and, and_true, lp_HO_isHeardAnew_2, hc.2.1.1, q1, q])
    (fun k i hi hp => by
      have q := inner i hi
      try simp only at hp
      rw [hp, if_pos rfl] at q
      have q1 := c_hr (n := n) (by omega) h hc hi hv
      simp (disch := omega) only [kn_if_t, kn_bs, kn_or_l, kn_or_r, kn_inT, nI_clamp, nI_leI, nI_ltI, nI_eq, nI_add, pk_mul, nI_1, kn_eq0, kn_lt0, kn_le0, kn_0le, kn_div, kn_rem, kn_or, kn_and, kn_or0, kn_ad0, kn_shl1, kn_bitB, zBt, zBf, zB1t, zB1f, zB_01, zB_10, kl_2, kl_3, kl_4, kl_5, kl_6, kl_7, kl_8, kl_10, kl_12, kl_13, if_pos, if_neg, ↓reduceIte, eq_self, not_true_eq_false, not_false_eq_true, Nat.add_zero, Nat.or_zero, reduceCtorEq, or_true, true_or, or_false, false_or, decide_true, decide_false, kn_sub1, sb_m1, pk_sub, kW_ne, kW_at, kW_no, kA_ne, kA_eq, ite_self, and_self, true_and, and_true, lp_HO_isHeardAnew_2, hc.2.1.1, q1, q])
    D.length 0 n (by omega) (by omega) rfl
  unfold f_HO_isHeardAnew
  rw [show lp_HO_isHeardAnew_2 n (nI v) μ n 0 = _ from key]
  unfold zAnew
  cases zAll (fun d => zAll (fun i => !(zHr D w d v == zHr D w d (zRowAt W i))) W.length) D.length <;> rfl
def zNewP (W : zW) (D : List (Nat × Nat)) (w set v : Nat) : Bool := zRow v && (zCan (zHdC D set D.length) v && ((zFd W v).isNone && zAnew W D w v))
def zNewR (W : zW) (D : List (Nat × Nat)) (w set : Nat) : Option Nat := zFind (fun v => zNewP W D w set v) 625 624 1
theorem zSub_can {h v : Nat} (hh : h < 16) : (nI (zBits 0 v) &&& (nI h ^^^ (-1)) = 0) ↔ zCan h v = true := by
  have hb := zBits_lt v 0 (by decide)
  have ht := zSub_tab ⟨zBits 0 v, hb⟩ ⟨h, hh⟩
  have hc := zBits_can hh v 0 (by decide)
  simp only at ht
  have e0 : ((0 &&& h) == 0) = true := by simp
  rw [hc, e0, Bool.and_true] at ht
  rw [← ht]
  simp
theorem c_fresh {n : Nat} (hn : 1000 ≤ n) {μ : kbM} {W : zW} {D : List (Nat × Nat)} {w : Nat} (h : hOk W D w) (hc : cH μ W D w) {set : Nat} (hs : set < 64) : ∃ ν, f_HO_freshRow n (nI set) μ = some (zFewI (zNewR W D w set), ν) := by
  have h10 := h.l10
  obtain ⟨μ1, e1, c1, E1⟩ := c_hearAll (n := n) (by omega) h hc
  have e2 := c_common (n := n) (by omega) h c1 hs
  have hh := zHdC_lt D set D.length
  have f4 := fv_at 4 (by decide)
  rw [show (5 : Nat) ^ 4 = 625 by decide] at f4
  have common : ∀ k i, i < 625 → lp_HO_freshRow_12 n (nI (zHdC D set D.length)) μ1 (k + 1) (nI i) = if zNewP W D w set i = true then some (.inl (nI i, μ1)) else lp_HO_freshRow_12 n (nI (zHdC D set D.length)) μ1 k (nI (i + 1)) := by
    intro k i hi
    simp only [lp_HO_freshRow_12, jn_HO_freshRow_73, jn_HO_freshRow_55, jn_HO_freshRow_56]
    rw [f4, if_neg (by rw [nI_leI (by omega) (by omega)]; omega), ro_isRow (by omega), kn_bs, zIsRow_n (by omega), nI_1]
    unfold zNewP
    cases hr : zRow i
    · rfl
    · have hz : zNZ i = true := by
        unfold zRow at hr
        simp only [Bool.and_eq_true] at hr
        exact hr.2
      rw [if_neg zT0, ro_sounds (by omega) (by omega) hz, kn_bs, c_find (by omega) h.1 c1.1 (by omega), kn_bs, c_anew (by omega) h c1 E1 (by omega), kn_bs, Bool.true_and]
      cases hcn : zCan (zHdC D set D.length) i
      · rw [if_neg (by rw [zSub_can hh, hcn]; decide)]
        rfl
      · rw [if_pos ((zSub_can hh).mpr hcn), Bool.true_and]
        cases hf : zFd W i with
        | none =>
          rw [if_pos ((zFdI_m1 h10 i).mpr hf |> (fun q => by rw [hf] at q; exact q)), if_neg (show ¬ (1 : Int32) = 0 by decide)]
          cases zAnew W D w i <;> rfl
        | some q =>
          rw [if_neg (fun z => by rw [← hf] at z; rw [(zFdI_m1 h10 i).mp z] at hf; cases hf)]
          rfl
  have key := kn_search (fun k i => lp_HO_freshRow_12 n (nI (zHdC D set D.length)) μ1 k (nI i)) (fun v => zNewP W D w set v) 625 (fun q => .inl (nI q, μ1)) (.inr ())
    (fun k => by simp only [lp_HO_freshRow_12]; rw [f4, if_pos (by rw [nI_leI (by omega) (by omega)]; omega)])
    (fun k i hi hp => by (try simp only at hp ⊢); rw [common k i hi, if_pos hp])
    (fun k i hi hp => by (try simp only at hp ⊢); rw [common k i hi, if_neg (by rw [hp]; decide)])
    624 1 n (by omega) (by omega)
  refine ⟨μ1, ?_⟩
  unfold f_HO_freshRow
  rw [e1, kn_bs, e2, kn_bs, show lp_HO_freshRow_12 n (nI (zHdC D set D.length)) μ1 n 1 = _ from key]
  unfold zNewR
  cases zFind (fun v => zNewP W D w set v) 625 624 1 <;> rfl
theorem m_isNew {n : Nat} (hn : 100 ≤ n) {μ : kbM} {W : zW} {D : List (Nat × Nat)} {w : Nat} (h : hOk W D w) (hc : mH μ W D w) {set v : Nat} (hs : set < 64) (hv : v ≤ 244140624) (hz : zNZ v = true) : f_MD_isNew n (nI v) (nI set) μ = some (zB (zCan (zHdC D set D.length) v && ((zFd W v).isNone && zAnew W D w v))) := by
  have h6 := h.l6
  have h10 := h.l10
  have inner : ∀ d, d < D.length → lp_MD_isNew_49 n (nI v) (nI set) (nI d) μ n 0 = some (if zAll (fun i => !(zHr D w d v == zHr D w d (zRowAt W i))) W.length = true then .inr () else .inl 0) := by
    intro d hd
    have gv := zHr_le (D := D) (w := w) (d := d) hv
    have q1 := m_hr (n := n) (by omega) h hc hd hv
    exact kn_all (lp := fun k i => lp_MD_isNew_49 n (nI v) (nI set) (nI d) μ k (nI i)) (fun i => !(zHr D w d v == zHr D w d (zRowAt W i))) W.length (.inr ()) (.inl 0)
      (fun k => by simp (disch := omega) only [kn_if_t, kn_bs, kn_or_l, kn_or_r, kn_inT, nI_clamp, nI_leI, nI_ltI, nI_eq, nI_add, pk_mul, nI_1, kn_eq0, kn_lt0, kn_le0, kn_0le, kn_div, kn_rem, kn_or, kn_and, kn_or0, kn_ad0, kn_shl1, kn_bitB, zBt, zBf, zB1t, zB1f, zB_01, zB_10, kl_2, kl_3, kl_4, kl_5, kl_6, kl_7, kl_8, kl_10, kl_12, kl_13, if_pos, if_neg, ↓reduceIte, eq_self, not_true_eq_false, not_false_eq_true, Nat.add_zero, Nat.or_zero, reduceCtorEq, or_true, true_or, or_false, false_or, decide_true, decide_false, kn_sub1, sb_m1, pk_sub, kW_ne, kW_at, kW_no, kA_ne, kA_eq, ite_self, and_self, true_and, and_true, lp_MD_isNew_49, hc.1.1])
      (fun k i hi hp => by
        have hp1 : zHr D w d v = zHr D w d (zRowAt W i) := by simpa using hp
        have q2 := m_hr (n := n) (by omega) h hc hd (h.row hi)
        rw [← hp1] at q2
        simp (disch := omega) only [kn_if_t, kn_bs, kn_or_l, kn_or_r, kn_inT, nI_clamp, nI_leI, nI_ltI, nI_eq, nI_add, pk_mul, nI_1, kn_eq0, kn_lt0, kn_le0, kn_0le, kn_div, kn_rem, kn_or, kn_and, kn_or0, kn_ad0, kn_shl1, kn_bitB, zBt, zBf, zB1t, zB1f, zB_01, zB_10, kl_2, kl_3, kl_4, kl_5, kl_6, kl_7, kl_8, kl_10, kl_12, kl_13, if_pos, if_neg, ↓reduceIte, eq_self, not_true_eq_false, not_false_eq_true, Nat.add_zero, Nat.or_zero, reduceCtorEq, or_true, true_or, or_false, false_or, decide_true, decide_false, kn_sub1, sb_m1, pk_sub, kW_ne, kW_at, kW_no, kA_ne, kA_eq, ite_self, and_self, true_and, and_true, lp_MD_isNew_49, hc.1.1, q1, q2, (hc.1.2 i hi).1])
      (fun k i hi hp => by
        have hp1 : ¬ zHr D w d v = zHr D w d (zRowAt W i) := by simpa using hp
        have q2 := m_hr (n := n) (by omega) h hc hd (h.row hi)
        have g2 := h.hr d hi
        simp (disch := omega) only [kn_if_t, kn_bs, kn_or_l, kn_or_r, kn_inT, nI_clamp, nI_leI, nI_ltI, nI_eq, nI_add, pk_mul, nI_1, kn_eq0, kn_lt0, kn_le0, kn_0le, kn_div, kn_rem, kn_or, kn_and, kn_or0, kn_ad0, kn_shl1, kn_bitB, zBt, zBf, zB1t, zB1f, zB_01, zB_10, kl_2, kl_3, kl_4, kl_5, kl_6, kl_7, kl_8, kl_10, kl_12, kl_13, if_pos, if_neg, ↓reduceIte, eq_self, not_true_eq_false, not_false_eq_true, Nat.add_zero, Nat.or_zero, reduceCtorEq, or_true, true_or, or_false, false_or, decide_true, decide_false, kn_sub1, sb_m1, pk_sub, kW_ne, kW_at, kW_no, kA_ne, kA_eq, ite_self, and_self, true_and, and_true, lp_MD_isNew_49, hc.1.1, q1, q2, (hc.1.2 i hi).1, hp1])
      W.length 0 n (by omega) (by omega) rfl
  have one : ∀ k d, d < D.length → lp_MD_isNew_13 n (nI v) (nI set) μ (k + 1) (nI d) = if ((!(zBit set d) || zCan (zHand D d) v) && zAll (fun i => !(zHr D w d v == zHr D w d (zRowAt W i))) W.length) = true then lp_MD_isNew_13 n (nI v) (nI set) μ k (nI (d + 1)) else some (.inl 0) := by
    intro k d hd
    have q := md_isOf (a := set) (k := d) (by omega) (by omega)
    have hcn := md_can (n := n) (h := zHand D d) (v := v) (by omega) (h.2.1.at hd).2 (by omega) hz
    simp only [lp_MD_isNew_13, jn_MD_isNew_46]
    rw [hc.2.1.1, if_neg (by rw [nI_leI (by omega) (by omega)]; omega), q, kn_bs, kn_inT (by omega) (by omega), nI_clamp (by omega), (hc.2.1.2 d hd).2, hcn, kn_bs, inner d hd, kn_if_t, nI_1]
    cases zBit set d
    · cases zAll (fun i => !(zHr D w d v == zHr D w d (zRowAt W i))) W.length <;> rfl
    · cases zCan (zHand D d) v
      · rfl
      · cases zAll (fun i => !(zHr D w d v == zHr D w d (zRowAt W i))) W.length <;> rfl
  have key := kn_all (lp := fun k i => lp_MD_isNew_13 n (nI v) (nI set) μ k (nI i)) (fun d => (!(zBit set d) || zCan (zHand D d) v) && zAll (fun i => !(zHr D w d v == zHr D w d (zRowAt W i))) W.length) D.length (.inr ()) (.inl 0)
    (fun k => by simp (disch := omega) only [kn_if_t, kn_bs, kn_or_l, kn_or_r, kn_inT, nI_clamp, nI_leI, nI_ltI, nI_eq, nI_add, pk_mul, nI_1, kn_eq0, kn_lt0, kn_le0, kn_0le, kn_div, kn_rem, kn_or, kn_and, kn_or0, kn_ad0, kn_shl1, kn_bitB, zBt, zBf, zB1t, zB1f, zB_01, zB_10, kl_2, kl_3, kl_4, kl_5, kl_6, kl_7, kl_8, kl_10, kl_12, kl_13, if_pos, if_neg, ↓reduceIte, eq_self, not_true_eq_false, not_false_eq_true, Nat.add_zero, Nat.or_zero, reduceCtorEq, or_true, true_or, or_false, false_or, decide_true, decide_false, kn_sub1, sb_m1, pk_sub, kW_ne, kW_at, kW_no, kA_ne, kA_eq, ite_self, and_self, true_and, and_true, lp_MD_isNew_13, hc.2.1.1])
    (fun k i hi hp => by (try simp only at hp ⊢); rw [one k i hi, if_neg (by rw [hp]; decide)])
    (fun k i hi hp => by (try simp only at hp ⊢); rw [one k i hi, if_pos hp])
    D.length 0 n (by omega) (by omega) rfl
  rw [zAll_and, ← zHdC_can, show zAll (fun d => zAll (fun i => !(zHr D w d v == zHr D w d (zRowAt W i))) W.length) D.length = zAnew W D w v from rfl] at key
  unfold f_MD_isNew
  rw [m_find (by omega) h.1 hc.1 (by omega), kn_bs, show lp_MD_isNew_13 n (nI v) (nI set) μ n 0 = _ from key]
  cases hf : zFd W v with
  | none =>
    rw [if_pos ((zFdI_m1 h10 v).mpr hf |> (fun q => by rw [hf] at q; exact q))]
    cases zCan (zHdC D set D.length) v <;> cases zAnew W D w v <;> rfl
  | some q =>
    rw [if_neg (fun z => by rw [← hf] at z; rw [(zFdI_m1 h10 v).mp z] at hf; cases hf)]
    cases zCan (zHdC D set D.length) v <;> rfl
theorem m_newR {n : Nat} (hn : 1000 ≤ n) {μ : kbM} {W : zW} {D : List (Nat × Nat)} {w : Nat} (h : hOk W D w) (hc : mH μ W D w) {set : Nat} (hs : set < 64) : lp_MD_newWord_33 n (nI set) μ n 1 = some (match zNewR W D w set with | some q => .inl (nI q, μ) | none => .inr ()) := by
  have p4 := md_power (n := n) (k := 4) (by omega) (by decide)
  rw [show (5 : Nat) ^ 4 = 625 by decide] at p4
  have common : ∀ k i, i < 625 → lp_MD_newWord_33 n (nI set) μ (k + 1) (nI i) = if zNewP W D w set i = true then some (.inl (nI i, μ)) else lp_MD_newWord_33 n (nI set) μ k (nI (i + 1)) := by
    intro k i hi
    simp only [lp_MD_newWord_33, jn_MD_newWord_59]
    rw [kl_4, p4, kn_bs, if_neg (by rw [nI_leI (by omega) (by omega)]; omega), md_isRow (by omega), kn_bs, zIsRow_n (by omega), nI_1]
    unfold zNewP
    cases hr : zRow i
    · rfl
    · have hz : zNZ i = true := by
        unfold zRow at hr
        simp only [Bool.and_eq_true] at hr
        exact hr.2
      rw [if_neg zT0, m_isNew (by omega) h hc hs (by omega) hz, kn_bs, Bool.true_and]
      cases (zCan (zHdC D set D.length) i && ((zFd W i).isNone && zAnew W D w i)) <;> rfl
  exact kn_search (fun k i => lp_MD_newWord_33 n (nI set) μ k (nI i)) (fun v => zNewP W D w set v) 625 (fun q => .inl (nI q, μ)) (.inr ())
    (fun k => by simp only [lp_MD_newWord_33]; rw [kl_4, p4, kn_bs, if_pos (by rw [nI_leI (by omega) (by omega)]; omega)])
    (fun k i hi hp => by (try simp only at hp ⊢); rw [common k i hi, if_pos hp])
    (fun k i hi hp => by (try simp only at hp ⊢); rw [common k i hi, if_neg (by rw [hp]; decide)])
    624 1 n (by omega) (by omega)
def s_newWord (A : zA) (u : Int32) : Int32 × Int32 := if zIn u (2 ^ A.2.2.1.length) = true then (0, zFewI (zNewR A.1.1.1 A.2.2.1 A.1.1.2 u.toNatClampNeg)) else (1, 0)
theorem cl_newWord {n : Nat} (hn : 1000 ≤ n) {μ : kbM} {A : zA} (hA : zOk A) (h : rC μ A) (u : Int32) : ∃ μ1, f_L_newWord n u μ = some ((s_newWord A u).1, μ1) ∧ ((s_newWord A u).1 = 0 → μ1.2 97 0 = (s_newWord A u).2.toInt64) := by
  have h6 := hA.doors.1
  have p6 := pow64 h6
  unfold f_L_newWord f_KB_newWord s_newWord jn_KB_newWord_17
  rw [h.doors.1, kn_shl1 (by omega)]
  rcases zIn_cases u (c := 2 ^ A.2.2.1.length) (by omega) with ⟨a, ha, rfl⟩ | ⟨h1, h2 | h2⟩
  · obtain ⟨ν, e⟩ := c_fresh hn hA.H h.H (set := a) (by omega)
    rw [if_neg (nI_pos (by omega)), if_pos (by rw [nI_ltI (by omega) (by omega)]; exact ha), zIn_n (by omega), decide_eq_true ha, if_pos rfl, e, kn_bs, nI_clamp (by omega)]
    exact ⟨_, rfl, fun _ => kX_at⟩
  · rw [if_pos h2, h1]; exact ⟨μ, rfl, fun q => absurd q z1n⟩
  · rw [if_neg h2.1, if_neg h2.2.2, h1]; exact ⟨μ, rfl, fun q => absurd q z1n⟩
theorem md_newWord {n : Nat} (hn : 1000 ≤ n) {μ : kbM} {A : zA} (hA : zOk A) (h0 : rM μ A) (u : Int32) : ∃ v μ2, f_MD_newWord n u μ = some (v, μ2) ∧ μ2.1 57 3 = (s_newWord A u).1 ∧ ((s_newWord A u).1 = 0 → v = (s_newWord A u).2) := by
  have h6 := hA.doors.1
  have p6 := pow64 h6
  have h := h0.c0 0
  unfold f_MD_newWord s_newWord f_MD_fail
  rw [h.doors.1, kn_shl1 (by omega), kn_isIn u (by omega), kn_bs]
  rcases zIn_cases u (c := 2 ^ A.2.2.1.length) (by omega) with ⟨a, ha, rfl⟩ | ⟨h1, h2⟩
  · have e := m_newR hn hA.H h.H (set := a) (by omega)
    rw [zIn_n (by omega), decide_eq_true ha, if_pos rfl, if_neg zT0, e, nI_clamp (by omega)]
    cases zNewR A.1.1.1 A.2.2.1 A.1.1.2 a with
    | none => exact ⟨_, _, rfl, kW_at, fun _ => rfl⟩
    | some q => exact ⟨_, _, rfl, kW_at, fun _ => rfl⟩
  · rw [h1]; exact ⟨_, _, rfl, kW_at, fun q => absurd q z1n⟩
theorem op_21 {n : Nat} (hn : 5000 ≤ n) {μ : kbM} (hI : kbInv μ) (u1 : Int32) : ∃ μ', c_law_21 n u1 μ = some μ' ∧ kbInv μ' := by
  obtain ⟨A, hA, hC, hM⟩ := hI
  obtain ⟨μ1, h1, h4⟩ := cl_newWord (n := n) (by omega) hA hC u1
  have f1 := fr_f_L_newWord h1
  have hC1 := hC.fr f1 (by decide) (by decide)
  have hM1 := hM.fr f1 (by decide) (by decide)
  obtain ⟨v, μ2, h2, h3, h5⟩ := md_newWord (n := n) (by omega) hA hM1 u1
  have f2 := fr_f_MD_newWord h2
  refine ⟨μ2, law_int h1 h2 h3 (fun q => ?_), A, hA, hC1.fr f2 (by decide) (by decide), hM1.fr f2 (by decide) (by decide)⟩
  rw [fr_at2 f2 (by decide) (by decide), h4 q, h5 q]
