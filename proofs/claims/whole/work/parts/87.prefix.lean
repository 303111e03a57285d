/-! sums; one row at another's beginning: prefixes -/
theorem zSum_s (f : Nat → Nat) (c : Nat) : zSum f (c + 1) = zSum f c + f c := rfl
theorem zSum_congr {f g : Nat → Nat} {c : Nat} (h : ∀ i, i < c → f i = g i) : zSum f c = zSum g c := zFold_congr fun i x hi => by rw [h i hi]
theorem zSum_add (f g : Nat → Nat) (c : Nat) : zSum (fun i => f i + g i) c = zSum f c + zSum g c := by
  induction c with
  | zero => rfl
  | succ c ih => rw [zSum_s, zSum_s, zSum_s, ih]; omega
theorem zSum_z (c : Nat) : zSum (fun _ => 0) c = 0 := by
  induction c with
  | zero => rfl
  | succ c ih => rw [zSum_s, ih]
theorem zSum_swap (f : Nat → Nat → Nat) (c d : Nat) : zSum (fun i => zSum (fun j => f i j) d) c = zSum (fun j => zSum (fun i => f i j) c) d := by
  induction c with
  | zero => exact (zSum_z d).symm
  | succ c ih =>
    rw [zSum_s, ih, ← zSum_add]
    exact zSum_congr fun i _ => rfl
theorem zFold_sum (f : Nat → Nat) (s c : Nat) : zFold (fun i a => a + f i) s c = s + zSum f c := by
  induction c with
  | zero => rfl
  | succ c ih => show zFold (fun i a => a + f i) s c + f c = s + (zSum f c + f c); rw [ih]; omega
theorem z_top {v b : Nat} (h : b ≤ zSize v) : v / 5 ^ (zSize v - b) < 5 ^ b := by
  rw [Nat.div_lt_iff_lt_mul (five_pos _), ← Nat.pow_add, show b + (zSize v - b) = zSize v by omega]
  exact (zSize_le _ v).mp (Nat.le_refl _)
/-- r is the beginning of v, and v is longer -/
def zPre (r v : Nat) : Bool := decide (zSize r < zSize v) && (v / 5 ^ (zSize v - zSize r) == r)
theorem c_begins {μ : kbM} {W : zW} (hW : zWok W) (hc : cWords μ 13 14 15 16 17 W) {a b : Nat} (ha : a < W.length) (hb : b < W.length) : f_CO_beginsWith (nI a) (nI b) μ = some (zB (zPre (zRowAt W b) (zRowAt W a))) := by
  have h10 := hW.1
  have ra := hW.row ha
  have rb := hW.row hb
  have sa := zSize_12.mpr ra.1
  have sb := zSize_12.mpr rb.1
  have wa := hc.2 a ha
  have wb := hc.2 b hb
  have i1 : kbIn (nI a) 10 = true := kn_inT (by omega) (by omega)
  have i2 : kbIn (nI b) 10 = true := kn_inT (by omega) (by omega)
  unfold f_CO_beginsWith jn_CO_beginsWith_62 jn_CO_beginsWith_63 zPre
  rw [i1, i2, nI_clamp (by omega), nI_clamp (by omega), wa.1, wa.2.1, wb.1, wb.2.1]
  simp only [kn_if_t]
  by_cases hs : zSize (zRowAt W a) ≤ zSize (zRowAt W b)
  · rw [if_pos (by rw [nI_leI (by omega) (by omega)]; exact hs), decide_eq_false (show ¬ zSize (zRowAt W b) < zSize (zRowAt W a) by omega)]; rfl
  · have hsl := ro_slice (v := zRowAt W a) (z := zSize (zRowAt W a)) (a := 0) (b := zSize (zRowAt W b)) (by omega) (by omega) (by omega) sa
    rw [Nat.sub_zero, Nat.mod_eq_of_lt (z_top (by omega))] at hsl
    have hlt := Nat.div_le_self (zRowAt W a) (5 ^ (zSize (zRowAt W a) - zSize (zRowAt W b)))
    rw [if_neg (by rw [nI_leI (by omega) (by omega)]; exact hs), show f_RO_slice (nI (zRowAt W a)) (nI (zSize (zRowAt W a))) 0 (nI (zSize (zRowAt W b))) = _ from hsl, kn_bs, decide_eq_true (show zSize (zRowAt W b) < zSize (zRowAt W a) by omega)]
    by_cases he : zRowAt W a / 5 ^ (zSize (zRowAt W a) - zSize (zRowAt W b)) = zRowAt W b
    · rw [if_pos (by rw [he]), he, beq_self_eq_true]; rfl
    · rw [if_neg (by rw [nI_eq (by omega) (by omega)]; exact he), show (zRowAt W a / 5 ^ (zSize (zRowAt W a) - zSize (zRowAt W b)) == zRowAt W b) = false by simpa using he]; rfl
/-- what is left of v behind r -/
def zBeh (v r : Nat) : Int32 := if zSize r ≤ zSize v ∧ v / 5 ^ (zSize v - zSize r) = r then nI (v % 5 ^ (zSize v - zSize r)) else -1
theorem md_behind {n v r : Nat} (hn : 100 ≤ n) (hv : v ≤ 244140624) (hr : r ≤ 244140624) : f_MD_behind n (nI v) (nI r) = some (zBeh v r) := by
  have sv := zSize_12.mpr hv
  have sr := zSize_12.mpr hr
  unfold f_MD_behind jn_MD_behind_35 zBeh
  rw [md_sizeOf (by omega) (by omega), kn_bs, md_sizeOf (by omega) (by omega), kn_bs]
  by_cases hs : zSize r ≤ zSize v
  · have p := five_lt (j := zSize v - zSize r) (by omega)
    have p0 := five_pos (zSize v - zSize r)
    have hlt := Nat.div_le_self v (5 ^ (zSize v - zSize r))
    rw [pk_sub hs, if_pos (by rw [kn_0le (by omega)]; trivial), md_power hn (by omega), kn_bs, decide_eq_true (show ¬ nI (5 ^ (zSize v - zSize r)) = 0 by rw [kn_eq0 (by omega)]; omega), kn_if_t, kn_div (by omega) p0 p]
    by_cases he : v / 5 ^ (zSize v - zSize r) = r
    · rw [if_pos (by rw [he]), if_pos ⟨hs, he⟩, kn_if_t, kn_rem (by omega) p0 p]
    · rw [if_neg (by rw [nI_eq (by omega) (by omega)]; exact he), if_neg (fun q => he q.2)]
  · have q : ¬ (0 : Int32) ≤ nI (zSize v) - nI (zSize r) := by
      intro q
      have a1 := Int32.le_iff_toInt_le.mp q
      rw [pk_sub_toInt (by omega) (by omega)] at a1
      have a2 : (0 : Int32).toInt = 0 := by decide
      omega
    rw [if_neg q, if_neg (fun q => hs q.1)]
theorem zWok.inj {W : zW} (h : zWok W) {a b : Nat} (ha : a < W.length) (hb : b < W.length) (e : zRowAt W a = zRowAt W b) : a = b := by
  have h3 := h.2.2
  rw [List.nodup_iff_pairwise_ne, List.pairwise_iff_getElem] at h3
  have g : ∀ i, (hi : i < W.length) → (W.map fun q => q.1)[i]'(by simpa using hi) = zRowAt W i := by
    intro i hi
    unfold zRowAt
    rw [List.getElem_map, List.getD_eq_getElem?_getD, List.getElem?_eq_getElem hi]
    rfl
  rcases Nat.lt_trichotomy a b with q | q | q
  · exact absurd (by rw [g a ha, g b hb]; exact e) (h3 a b (by simpa using ha) (by simpa using hb) q)
  · exact q
  · exact absurd (by rw [g a ha, g b hb]; exact e.symm) (h3 b a (by simpa using hb) (by simpa using ha) q)
theorem zBeh_pre {W : zW} (hW : zWok W) {a b : Nat} (ha : a < W.length) (hb : b < W.length) (hab : a ≠ b) : (zBeh (zRowAt W b) (zRowAt W a) = -1) = (zPre (zRowAt W a) (zRowAt W b) = false) := by
  have rb := hW.row hb
  unfold zBeh zPre
  apply propext
  by_cases hs : zSize (zRowAt W a) < zSize (zRowAt W b)
  · by_cases he : zRowAt W b / 5 ^ (zSize (zRowAt W b) - zSize (zRowAt W a)) = zRowAt W a
    · have := Nat.mod_le (zRowAt W b) (5 ^ (zSize (zRowAt W b) - zSize (zRowAt W a)))
      rw [if_pos ⟨by omega, he⟩, kn_nm1 (by omega)]
      simp [hs, he]
    · rw [if_neg (fun q => he q.2)]
      simp [he]
  · rw [if_neg]
    · simp [hs]
    · rintro ⟨q1, q2⟩
      rw [show zSize (zRowAt W b) - zSize (zRowAt W a) = 0 by omega, Nat.pow_zero, Nat.div_one] at q2
      exact hab (hW.inj ha hb q2.symm)
def zPxc (W : zW) : Nat := zSum (fun a => zSum (fun b => if zPre (zRowAt W b) (zRowAt W a) = true then 1 else 0) W.length) W.length
theorem zPre_self (r : Nat) : zPre r r = false := by unfold zPre; simp
theorem c_prefixes {n : Nat} (hn : 100 ≤ n) {μ : kbM} {W : zW} (hW : zWok W) (hc : cWords μ 13 14 15 16 17 W) : f_CO_prefixCouples n μ = some (nI (zPxc W)) := by
  have h10 := hW.1
  have inner : ∀ a s, a < W.length → lp_CO_prefixCouples_17 n (nI a) μ n (nI s) 0 = some (nI (s + zSum (fun b => if zPre (zRowAt W b) (zRowAt W a) = true then 1 else 0) W.length)) := by
    intro a s ha
    have := kn_loop (fun k (s : Nat) i => lp_CO_prefixCouples_17 n (nI a) μ k (nI s) (nI i)) (fun b s => s + (if zPre (zRowAt W b) (zRowAt W a) = true then 1 else 0)) s W.length (nI (zFold (fun b s => s + (if zPre (zRowAt W b) (zRowAt W a) = true then 1 else 0)) s W.length))
      (fun k => by simp (disch := omega) only [kn_if_t, kn_bs, kn_or_l, kn_or_r, kn_inT, nI_clamp, nI_leI, nI_ltI, nI_eq, nI_add, pk_mul, nI_1, kn_eq0, kn_lt0, kn_le0, kn_0le, kn_div, kn_rem, kn_or, kn_and, kn_or0, kn_ad0, kn_shl1, kn_bitB, zBt, zBf, zB1t, zB1f, zB_01, zB_10, kl_2, kl_3, kl_4, kl_5, kl_6, kl_7, kl_8, kl_10, kl_12, kl_13, if_pos, if_neg, ↓reduceIte, eq_self, not_true_eq_false, not_false_eq_true, Nat.add_zero, Nat.or_zero, reduceCtorEq, or_true, true_or, or_false, false_or, decide_true, decide_false, kn_sub1, sb_m1, pk_sub, kW_ne, kW_at, kW_no, kA_ne, kA_eq, ite_self, and_self, true_and, and_true, lp_CO_prefixCouples_17, hc.1])
      (fun k i hi => by
        have q := c_begins hW hc ha hi
        cases hp : zPre (zRowAt W i) (zRowAt W a) <;> (rw [hp] at q; simp (disch := omega) only [kn_if_t, kn_bs, kn_or_l, kn_or_r, kn_inT, nI_clamp, nI_leI, nI_ltI, nI_eq, nI_add, pk_mul, nI_1, kn_eq0, kn_lt0, kn_le0, kn_0le, kn_div, kn_rem, kn_or, kn_and, kn_or0, kn_ad0, kn_shl1, kn_bitB, zBt, zBf, zB1t, zB1f, zB_01, zB_10, kl_2, kl_3, kl_4, kl_5, kl_6, kl_7, kl_8, kl_10, kl_12, kl_13, if_pos, if_neg, ↓reduceIte, eq_self, not_true_eq_false, not_false_eq_true, Nat.add_zero, Nat.or_zero, reduceCtorEq, or_true, true_or, or_false, false_or, decide_true, decide_false, kn_sub1, sb_m1, pk_sub, kW_ne, kW_at, kW_no, kA_ne, kA_eq, ite_self, and_self, true_and, and_true, lp_CO_prefixCouples_17, jn_CO_prefixCouples_43, hc.1, q, hp, Bool.false_eq_true])) W.length 0 n (by omega) (by omega)
    rw [← zFold_sum]
    exact this
  have e := kn_loop (fun k (s : Nat) i => lp_CO_prefixCouples_4 n μ k (nI s) (nI i)) (fun a s => s + zSum (fun b => if zPre (zRowAt W b) (zRowAt W a) = true then 1 else 0) W.length) 0 W.length (nI (zPxc W))
    (fun k => by simp (disch := omega) only [kn_if_t, kn_bs, kn_or_l, kn_or_r, kn_inT, nI_clamp, nI_leI, nI_ltI, nI_eq, nI_add, pk_mul, nI_1, kn_eq0, kn_lt0, kn_le0, kn_0le, kn_div, kn_rem, kn_or, kn_and, kn_or0, kn_ad0, kn_shl1, kn_bitB, zBt, zBf, zB1t, zB1f, zB_01, zB_10, kl_2, kl_3, kl_4, kl_5, kl_6, kl_7, kl_8, kl_10, kl_12, kl_13, if_pos, if_neg, ↓reduceIte, eq_self, not_true_eq_false, not_false_eq_true, Nat.add_zero, Nat.or_zero, reduceCtorEq, or_true, true_or, or_false, false_or, decide_true, decide_false, kn_sub1, sb_m1, pk_sub, kW_ne, kW_at, kW_no, kA_ne, kA_eq, ite_self, and_self, true_and, and_true, lp_CO_prefixCouples_4, hc.1] <;> rfl)
    (fun k i hi => by simp (disch := omega) only [kn_if_t, kn_bs, kn_or_l, kn_or_r, kn_inT, nI_clamp, nI_leI, nI_ltI, nI_eq, nI_add, pk_mul, nI_1, kn_eq0, kn_lt0, kn_le0, kn_0le, kn_div, kn_rem, kn_or, kn_and, kn_or0, kn_ad0, kn_shl1, kn_bitB, zBt, zBf, zB1t, zB1f, zB_01, zB_10, kl_2, kl_3, kl_4, kl_5, kl_6, kl_7, kl_8, kl_10, kl_12, kl_13, if_pos, if_neg, ↓reduceIte, eq_self, not_true_eq_false, not_false_eq_true, Nat.add_zero, Nat.or_zero, reduceCtorEq, or_true, true_or, or_false, false_or, decide_true, decide_false, kn_sub1, sb_m1, pk_sub, kW_ne, kW_at, kW_no, kA_ne, kA_eq, ite_self, and_self, true_and, and_true, lp_CO_prefixCouples_4, hc.1, inner i _ hi]) W.length 0 n (by omega) (by omega)
  unfold f_CO_prefixCouples
  rw [show lp_CO_prefixCouples_4 n μ n 0 0 = _ from e, kn_bs]
theorem m_prefixes {n : Nat} (hn : 100 ≤ n) {μ : kbM} {W : zW} (hW : zWok W) (hc : mWords μ W) : lp_MD_prefixes_9 n μ n 0 0 = some (nI (zPxc W)) := by
  have h10 := hW.1
  have inner : ∀ a s, a < W.length → lp_MD_prefixes_19 n (nI a) μ n (nI s) 0 = some (nI (s + zSum (fun b => if zPre (zRowAt W a) (zRowAt W b) = true then 1 else 0) W.length)) := by
    intro a s ha
    have := kn_loop (fun k (s : Nat) i => lp_MD_prefixes_19 n (nI a) μ k (nI s) (nI i)) (fun b s => s + (if zPre (zRowAt W a) (zRowAt W b) = true then 1 else 0)) s W.length (nI (zFold (fun b s => s + (if zPre (zRowAt W a) (zRowAt W b) = true then 1 else 0)) s W.length))
      (fun k => by simp (disch := omega) only [kn_if_t, kn_bs, kn_or_l, kn_or_r, kn_inT, nI_clamp, nI_leI, nI_ltI, nI_eq, nI_add, pk_mul, nI_1, kn_eq0, kn_lt0, kn_le0, kn_0le, kn_div, kn_rem, kn_or, kn_and, kn_or0, kn_ad0, kn_shl1, kn_bitB, zBt, zBf, zB1t, zB1f, zB_01, zB_10, kl_2, kl_3, kl_4, kl_5, kl_6, kl_7, kl_8, kl_10, kl_12, kl_13, if_pos, if_neg, ↓reduceIte, eq_self, not_true_eq_false, not_false_eq_true, Nat.add_zero, Nat.or_zero, reduceCtorEq, or_true, true_or, or_false, false_or, decide_true, decide_false, kn_sub1, sb_m1, pk_sub, kW_ne, kW_at, kW_no, kA_ne, kA_eq, ite_self, and_self, true_and, and_true, lp_MD_prefixes_19, hc.1])
      (fun k i hi => by
        have q := md_behind (n := n) hn (hW.row hi).1 (hW.row ha).1
        by_cases hai : a = i
        · subst hai
          simp (disch := omega) only [kn_if_t, kn_bs, kn_or_l, kn_or_r, kn_inT, nI_clamp, nI_leI, nI_ltI, nI_eq, nI_add, pk_mul, nI_1, kn_eq0, kn_lt0, kn_le0, kn_0le, kn_div, kn_rem, kn_or, kn_and, kn_or0, kn_ad0, kn_shl1, kn_bitB, zBt, zBf, zB1t, zB1f, zB_01, zB_10, kl_2, kl_3, kl_4, kl_5, kl_6, kl_7, kl_8, kl_10, kl_12, kl_13, if_pos, if_neg, ↓reduceIte, eq_self, not_true_eq_false, not_false_eq_true, Nat.add_zero, Nat.or_zero, reduceCtorEq, or_true, true_or, or_false, false_or, decide_true, decide_false, kn_sub1, sb_m1, pk_sub, kW_ne, kW_at, kW_no, kA_ne, kA_eq, ite_self, and_self, true_and, and_true, lp_MD_prefixes_19, jn_MD_prefixes_57, jn_MD_prefixes_56, hc.1, zPre_self, Bool.false_eq_true]
        · have z := zBeh_pre hW ha hi hai
          cases hp : zPre (zRowAt W a) (zRowAt W i) <;> (rw [hp] at z; simp only [eq_self, reduceCtorEq, Bool.true_eq_false] at z; simp (disch := omega) only [kn_if_t, kn_bs, kn_or_l, kn_or_r, kn_inT, nI_clamp, nI_leI, nI_ltI, nI_eq, nI_add, pk_mul, nI_1, kn_eq0, kn_lt0, kn_le0, kn_0le, kn_div, kn_rem, kn_or, kn_and, kn_or0, kn_ad0, kn_shl1, kn_bitB, zBt, zBf, zB1t, zB1f, zB_01, zB_10, kl_2, kl_3, kl_4, kl_5, kl_6, kl_7, kl_8, kl_10, kl_12, kl_13, if_pos, if_neg, ↓reduceIte, eq_self, not_true_eq_false, not_false_eq_true, Nat.add_zero, Nat.or_zero, reduceCtorEq, or_true, true_or, or_false, false_or, decide_true, decide_false, kn_sub1, sb_m1, pk_sub, kW_ne, kW_at, kW_no, kA_ne, kA_eq, ite_self, and_self, true_and, and_true, lp_MD_prefixes_19, jn_MD_prefixes_57, jn_MD_prefixes_56, hc.1, hai, (hc.2 a ha).1, (hc.2 i hi).1, q, z, hp, Bool.false_eq_true])) W.length 0 n (by omega) (by omega)
    rw [← zFold_sum]
    exact this
  have sw : zPxc W = zSum (fun a => zSum (fun b => if zPre (zRowAt W a) (zRowAt W b) = true then 1 else 0) W.length) W.length := zSum_swap _ _ _
  rw [sw]
  exact kn_loop (fun k (s : Nat) i => lp_MD_prefixes_9 n μ k (nI s) (nI i)) (fun a s => s + zSum (fun b => if zPre (zRowAt W a) (zRowAt W b) = true then 1 else 0) W.length) 0 W.length _
    (fun k => by simp (disch := omega) only [kn_if_t, kn_bs, kn_or_l, kn_or_r, kn_inT, nI_clamp, nI_leI, nI_ltI, nI_eq, nI_add, pk_mul, nI_1, kn_eq0, kn_lt0, kn_le0, kn_0le, kn_div, kn_rem, kn_or, kn_and, kn_or0, kn_ad0, kn_shl1, kn_bitB, zBt, zBf, zB1t, zB1f, zB_01, zB_10, kl_2, kl_3, kl_4, kl_5, kl_6, kl_7, kl_8, kl_10, kl_12, kl_13, if_pos, if_neg, ↓reduceIte, eq_self, not_true_eq_false, not_false_eq_true, Nat.add_zero, Nat.or_zero, reduceCtorEq, or_true, true_or, or_false, false_or, decide_true, decide_false, kn_sub1, sb_m1, pk_sub, kW_ne, kW_at, kW_no, kA_ne, kA_eq, ite_self, and_self, true_and, and_true, lp_MD_prefixes_9, hc.1] <;> rfl)
    (fun k i hi => by simp (disch := omega) only [kn_if_t, kn_bs, kn_or_l, kn_or_r, kn_inT, nI_clamp, nI_leI, nI_ltI, nI_eq, nI_add, pk_mul, nI_1, kn_eq0, kn_lt0, kn_le0, kn_0le, kn_div, kn_rem, kn_or, kn_and, kn_or0, kn_ad0, kn_shl1, kn_bitB, zBt, zBf, zB1t, zB1f, zB_01, zB_10, kl_2, kl_3, kl_4, kl_5, kl_6, kl_7, kl_8, kl_10, kl_12, kl_13, if_pos, if_neg, ↓reduceIte, eq_self, not_true_eq_false, not_false_eq_true, Nat.add_zero, Nat.or_zero, reduceCtorEq, or_true, true_or, or_false, false_or, decide_true, decide_false, kn_sub1, sb_m1, pk_sub, kW_ne, kW_at, kW_no, kA_ne, kA_eq, ite_self, and_self, true_and, and_true, lp_MD_prefixes_9, hc.1, inner i _ hi]) W.length 0 n (by omega) (by omega)
theorem op_19 {n : Nat} (hn : 5000 ≤ n) {μ : kbM} (hI : kbInv μ) : ∃ μ', c_law_19 n μ = some μ' ∧ kbInv μ' := by
  obtain ⟨A, hA, hC, hM⟩ := hI
  refine ⟨kbW μ 57 3 0, ?_, A, hA, hC.c0 0, hM.c0 0⟩
  have hM' := hM.c0 0
  unfold c_law_19 f_KB_prefixes f_MD_prefixes
  rw [c_prefixes (by omega) hA.words hC.words, m_prefixes (by omega) hA.words hM'.words]
  simp only [kn_bs, if_true]
