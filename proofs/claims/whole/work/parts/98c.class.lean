/-! THE CLASS READS A BOOK: what its memory holds -/
def cKk (μ : kbM) (x : pX) (t : pT) : Prop := cTx μ x ∧ μ.1 1 4 = 0 ∧ μ.1 1 10 = 0 ∧ μ.1 1 11 = -1 ∧ μ.1 1 7 = nI t.1 ∧ μ.1 1 8 = nI t.2.1 ∧ μ.1 1 9 = nI t.2.2
def cO (μ : kbM) (o : List Int × zW × List (Nat × Nat)) : Prop := (μ.1 1 5 = nI o.1.length ∧ ∀ i, i < o.1.length → μ.1 11 i = kI (o.1.getD i 0)) ∧ cWords μ 3 4 5 6 7 o.2.1 ∧ μ.1 8 2 = nI o.2.2.length ∧ ∀ i, i < o.2.2.length → μ.1 9 i = nI (zKind o.2.2 i) ∧ μ.1 10 i = nI (zHand o.2.2 i)
def cS (μ : kbM) (x : pX) (s : pS) : Prop := cKk μ x s.1 ∧ cO μ s.2
def cF (μ : kbM) (f q : Nat) : Prop := μ.1 1 4 = 0 ∧ μ.1 1 7 = 4 ∧ μ.1 1 10 = nI f ∧ μ.1 1 11 = nI q ∧ 0 < f ∧ f ≤ 5
def cR (μ : kbM) (x : pX) : pR → Prop
  | .inl z => cF μ z.1 z.2
  | .inr s => cS μ x s
def cPp (x : pX) (g : kbM → Option kbM) (p : pS → pR) : Prop := (∀ μ s, cS μ x s → tOk' x s → ∃ μ', g μ = some μ' ∧ cR μ' x (p s)) ∧ ∀ μ f q, cF μ f q → g μ = some μ
def tk (x : pX) (p : pS → pR) : Prop := ∀ s s', tOk' x s → p s = .inr s' → tOk' x s'
theorem cPp.bind {x : pX} {g h : kbM → Option kbM} {p k : pS → pR} (hg : cPp x g p) (ht : tk x p) (hh : cPp x h k) : cPp x (fun μ => (g μ).bind h) (fun s => pB (p s) k) := by
  constructor
  · intro μ s hs ho
    obtain ⟨μ1, e1, r1⟩ := hg.1 μ s hs ho
    show ∃ μ', (g μ).bind h = some μ' ∧ cR μ' x (pB (p s) k)
    rw [e1, kn_bs]
    cases hp : p s with
    | inl z =>
      rw [hp] at r1
      exact ⟨μ1, hh.2 μ1 _ _ r1, r1⟩
    | inr s1 =>
      rw [hp] at r1
      exact hh.1 μ1 s1 r1 (ht s s1 ho hp)
  · intro μ f q hf
    show (g μ).bind h = some μ
    rw [hg.2 μ f q hf, kn_bs]
    exact hh.2 μ f q hf
theorem gd.tk {x : pX} {B : Nat} {p : pS → pR} (h : gd x B p) : tk x p := fun _ _ a b => h.tok a b
theorem cF.ne {μ : kbM} {f q : Nat} (h : cF μ f q) : ¬ μ.1 1 10 = 0 := by
  rw [h.2.2.1, kn_0, nI_eq (by have := h.2.2.2.2.2; omega) (by decide)]
  have := h.2.2.2.2.1
  omega
theorem cF.adv {n : Nat} {μ : kbM} {f q : Nat} (h : cF μ f q) : f_BT_advance n μ = some μ := by
  unfold f_BT_advance; try unfold jn_BT_advance_218
  rw [if_neg h.ne]
theorem cF.fail {μ : kbM} {f q : Nat} (h : cF μ f q) (c : Int32) : f_BT_fail c μ = some (0, μ) := by
  unfold f_BT_fail jn_BT_fail_25
  rw [if_neg h.ne]
theorem cF.emit {μ : kbM} {f q : Nat} (h : cF μ f q) (c : Int32) : f_BT_emit c μ = some μ := by
  unfold f_BT_emit jn_BT_emit_39
  rw [if_neg h.ne]
theorem cF.named {n : Nat} {μ : kbM} {f q : Nat} (h : cF μ f q) (sid : Nat) : f_BT_isNamed n sid μ = some 0 := by
  unfold f_BT_isNamed jn_BT_isNamed_24
  rw [h.2.1, if_neg (by decide)]
theorem cF.sign {n : Nat} {μ : kbM} {f q : Nat} (h : cF μ f q) {c : Int32} (hc : ¬ (4 : Int32) = c) : f_BT_passSign n c μ = some μ := by
  unfold f_BT_passSign jn_BT_passSign_14
  rw [h.2.1, if_neg hc, h.fail, kn_bs]
  show (f_BT_advance n μ).bind _ = _
  rw [h.adv, kn_bs]
theorem cO.sm {μ μ' : kbM} {o : List Int × zW × List (Nat × Nat)} (h : cO μ o) (s : sm 1 [7, 8, 9, 10, 11] μ μ') : cO μ' o := by
  unfold cO cWords at h ⊢
  rw [s.2 5 (by decide), s.1 11 (by decide), s.1 3 (by decide), s.1 4 (by decide), s.1 5 (by decide), s.1 6 (by decide), s.1 7 (by decide), s.1 8 (by decide), s.1 9 (by decide), s.1 10 (by decide)]
  exact h
theorem cPp_adv {n : Nat} (hn : 1000 ≤ n) (x : pX) : cPp x (f_BT_advance n) (fun s => .inr (pAdv x s)) := by
  constructor
  · intro μ s hs ho
    obtain ⟨⟨k1, k2, k3, k4, k5, k6, k7⟩, hO⟩ := hs
    obtain ⟨μ', e, sm1, a, b, c⟩ := bt_adv hn ho.1 k1 ho.2.1.2.1 k7 k3
    exact ⟨μ', e, ⟨k1.sm (sm1.up (by decide)), by rw [sm1.2 4 (by decide)]; exact k2, by rw [sm1.2 10 (by decide)]; exact k3, by rw [sm1.2 11 (by decide)]; exact k4, a, b, c⟩, hO.sm (sm1.up (by decide))⟩
  · intro μ f q h; exact h.adv
theorem c_fail {x : pX} {μ : kbM} {s : pS} (hs : cS μ x s) {c : Nat} (h0 : 0 < c) (h5 : c ≤ 5) : ∃ μ', f_BT_fail (nI c) μ = some (0, μ') ∧ cF μ' c s.1.2.1 := by
  obtain ⟨⟨k1, k2, k3, k4, k5, k6, k7⟩, hO⟩ := hs
  unfold f_BT_fail jn_BT_fail_25
  rw [if_pos k3]
  refine ⟨_, rfl, ?_, kW_at, ?_, ?_, h0, h5⟩
  · rw [kW_no (by decide), kW_no (by decide), kW_no (by decide)]; exact k2
  · rw [kW_no (by decide), kW_no (by decide), kW_at]
  · rw [kW_no (by decide), kW_at, kW_no (by decide)]; exact k6
theorem c_emit {x : pX} {μ : kbM} {s : pS} (hs : cS μ x s) (hl : s.2.1.length < 600) (c : Int) : ∃ μ', f_BT_emit (kI c) μ = some μ' ∧ cS μ' x (pEm c s) := by
  obtain ⟨⟨k1, k2, k3, k4, k5, k6, k7⟩, ⟨o1, o2⟩, o3, o4⟩ := hs
  unfold f_BT_emit jn_BT_emit_39
  rw [if_pos k3, o1, show (600 : Int32) = nI 600 from rfl, if_neg (by rw [nI_leI (by decide) (by omega)]; omega), kn_inT (by omega) (by omega), kn_if_t, nI_clamp (by omega)]
  have a1 : (kbW μ 11 s.2.1.length (kI c)).1 1 = μ.1 1 := kW_ne (by decide)
  rw [a1, o1, nI_1]
  refine ⟨_, rfl, ⟨⟨?_, ?_⟩, ?_, ?_, ?_, ?_, ?_, ?_⟩, ⟨?_, ?_⟩, ?_, ?_⟩
  · rw [kW_no (by decide), a1]; exact k1.1
  · rw [kW_ne (by decide), kW_ne (by decide)]; exact k1.2
  · rw [kW_no (by decide), a1]; exact k2
  · rw [kW_no (by decide), a1]; exact k3
  · rw [kW_no (by decide), a1]; exact k4
  · rw [kW_no (by decide), a1]; exact k5
  · rw [kW_no (by decide), a1]; exact k6
  · rw [kW_no (by decide), a1]; exact k7
  · rw [kW_at]; show _ = nI (s.2.1 ++ [c]).length; rw [List.length_append]; rfl
  · intro i hi
    have hi' : i < s.2.1.length + 1 := by
      have : i < (s.2.1 ++ [c]).length := hi
      rw [List.length_append] at this
      exact this
    rw [kW_ne (by decide)]
    show _ = kI ((s.2.1 ++ [c]).getD i 0)
    by_cases e : i = s.2.1.length
    · subst e
      rw [kW_at]
      congr 1
      simp [List.getD_eq_getElem?_getD]
    · rw [kW_no e, o2 i (by omega)]
      congr 1
      simp only [List.getD_eq_getElem?_getD]
      rw [List.getElem?_append_left (by omega)]
  · unfold cWords at o3 ⊢
    rw [kW_ne (by decide), kW_ne (by decide), kW_ne (by decide), kW_ne (by decide), kW_ne (by decide), kW_ne (by decide), kW_ne (by decide), kW_ne (by decide), kW_ne (by decide), kW_ne (by decide)]
    exact o3
  · rw [kW_ne (by decide), kW_ne (by decide), kW_ne (by decide), kW_ne (by decide), kW_ne (by decide), kW_ne (by decide)]
    exact o4
/-! names -/
def sids : List Nat := [0, 1, 2, 3, 4, 5, 6, 7, 8, 9, 10, 11, 12, 27, 28, 29, 31]
theorem sid_ok : ∀ sid ∈ sids, kbSlen sid = nI (pLen sid) ∧ pLen sid ≤ 20 ∧ 0 < pLen sid ∧ ∀ j, j < pLen sid → kbSchar sid (nI j) = nI (pChr sid j) ∧ pChr sid j < 256 := by decide +kernel
theorem c_named {n : Nat} (hn : 100 ≤ n) {x : pX} {μ : kbM} {s : pS} (hs : cS μ x s) (ho : tOk' x s) {sid : Nat} (hsid : sid ∈ sids) : f_BT_isNamed n sid μ = some (zB (pNm x sid s)) := by
  obtain ⟨a1, a2, a0, a3⟩ := sid_ok sid hsid
  obtain ⟨⟨k1, k2, k3, k4, k5, k6, k7⟩, hO⟩ := hs
  obtain ⟨hx, ⟨t1, t2, t3, t4, t5⟩, tc⟩ := ho
  have hx6 := hx.1
  have tl := kOk.lt ⟨t1, t2, t3, t4, t5⟩
  unfold f_BT_isNamed jn_BT_isNamed_24 pNm
  rw [k5, k6, k7, show (1 : Int32) = nI 1 from rfl]
  by_cases h1 : s.1.1 = 1
  · rw [if_pos (by rw [h1]), h1, pk_sub t1, a1]
    by_cases h2 : s.1.2.2 - s.1.2.1 = pLen sid
    · rw [if_pos (by rw [h2]), h2]
      have e : lp_BT_isNamed_28 n sid μ n (nI 0) = some (if zAll (fun j => x.1 (s.1.2.1 + j) == pChr sid j) (pLen sid) = true then .inr () else .inl 0) := by
        refine kn_all (lp := fun k i => lp_BT_isNamed_28 n sid μ k (nI i)) _ (pLen sid) _ _ ?_ ?_ ?_ (pLen sid) 0 n (by omega) (by omega) rfl
        · intro k
          simp only [lp_BT_isNamed_28]
          rw [a1, if_pos (by rw [nI_leI (by omega) (by omega)]; omega)]
        · intro k i hi hp
          have hb := hx.2 (s.1.2.1 + i) (by omega)
          obtain ⟨b1, b2⟩ := a3 i hi
          simp only [lp_BT_isNamed_28]
          rw [a1, if_neg (by rw [nI_leI (by omega) (by omega)]; omega), k6, nI_add, bt_byte hx k1 (by omega), kn_bs, kn_inT (show i < (kbTx.getD sid []).length from hi) (by omega), kn_if_t, b1, if_neg]
          rw [nI_eq (by omega) (by omega)]
          intro q
          simp only [q, beq_self_eq_true] at hp
          cases hp
        · intro k i hi hp
          have hb := hx.2 (s.1.2.1 + i) (by omega)
          obtain ⟨b1, b2⟩ := a3 i hi
          simp only [lp_BT_isNamed_28]
          rw [a1, if_neg (by rw [nI_leI (by omega) (by omega)]; omega), k6, nI_add, bt_byte hx k1 (by omega), kn_bs, kn_inT (show i < (kbTx.getD sid []).length from hi) (by omega), kn_if_t, b1, if_pos, nI_1]
          rw [beq_iff_eq.mp hp]
      rw [show (0 : Int32) = nI 0 from rfl, e]
      cases zAll (fun j => x.1 (s.1.2.1 + j) == pChr sid j) (pLen sid)
      · rw [if_neg Bool.false_ne_true, kn_or_l]; simp [zB]
      · rw [if_pos rfl, kn_or_r]; simp [zB]; rfl
    · rw [if_neg (by rw [nI_eq (by omega) (by omega)]; exact h2), beq_eq_false_iff_ne.mpr h2]
      simp [zB]
  · rw [if_neg (by rw [nI_eq (by omega) (by decide)]; exact h1), beq_eq_false_iff_ne.mpr h1]
    simp [zB]
/-- the class's number -/
theorem c_num {n : Nat} (hn : 100 ≤ n) {x : pX} {μ : kbM} {s : pS} (hs : cS μ x s) (ho : tOk' x s) (h2 : s.1.1 = 2) (h4 : s.1.2.2 - s.1.2.1 ≤ 4) : f_BT_numberTold n μ = some (nI (pNum x s.1.2.1 s.1.2.2), μ) := by
  obtain ⟨⟨k1, k2, k3, k4, k5, k6, k7⟩, hO⟩ := hs
  obtain ⟨hx, ⟨t1, t2, t3, t4, t5⟩, tc⟩ := ho
  have hx6 := hx.1
  unfold f_BT_numberTold
  rw [k6, k7, pk_sub t1, show (4 : Int32) = nI 4 from rfl, if_pos (by rw [nI_leI (by omega) (by decide)]; exact h4)]
  have e : lp_BT_numberTold_26 n μ n (nI (zFold (fun j v => 10 * v + (x.1 (s.1.2.1 + j) - 48)) 0 0)) (nI (s.1.2.1 + 0)) = some (nI (pNum x s.1.2.1 s.1.2.2)) := by
    refine kn_loop (fun k v j => lp_BT_numberTold_26 n μ k (nI v) (nI (s.1.2.1 + j))) (fun j v => 10 * v + (x.1 (s.1.2.1 + j) - 48)) 0 (s.1.2.2 - s.1.2.1) _ ?_ ?_ (s.1.2.2 - s.1.2.1) 0 n (by omega) (by omega)
    · intro k
      simp only [lp_BT_numberTold_26]
      rw [k7, if_pos (by rw [nI_leI (by omega) (by omega)]; omega)]
      rfl
    · intro k i hi
      have hd := t5 h2 (s.1.2.1 + i) (by omega) (by omega)
      unfold isDi at hd
      simp only [Bool.and_eq_true, decide_eq_true_eq] at hd
      simp only [lp_BT_numberTold_26]
      rw [k7, if_neg (by rw [nI_leI (by omega) (by omega)]; omega), bt_byte hx k1 (by omega), kn_bs, nI_1, show (10 : Int32) = nI 10 from rfl, pk_mul, nI_add, show (48 : Int32) = nI 48 from rfl, pk_sub (by omega)]
      congr 2
      omega
  have e' : lp_BT_numberTold_26 n μ n 0 (nI s.1.2.1) = some (nI (pNum x s.1.2.1 s.1.2.2)) := e
  rw [e', kn_bs]
