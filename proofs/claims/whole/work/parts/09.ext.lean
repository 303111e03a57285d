def kbIf {α : Type} (b : Bool) (o : Option α) : Option α := match b with
  | true => o
  | false => none
theorem kbG_if {α : Type} {b : Bool} {o : Option α} {P : α → Prop} (h : kbG (kbIf b o) P) : b = true ∧ kbG o P := by
  cases b with
  | true => exact ⟨rfl, h⟩
  | false => exact absurd h kbG_none
theorem kb_z01 {v : Int32} (h : v = 0 ∨ v = 1) : narrow .boolean (.int v) = .int v := by
  rcases h with rfl | rfl <;> rfl
/-- the answer, and the memory behind it -/
abbrev kbQe (ro : Option Value) (m : kbM) : kbQt := fun r μ' => r = ro ∧ μ' = m
/-! the same rows with the place as a number -/
section Places
variable {l : Launch} {M : kbMt} {d : Nat} {Q : kbQt} {pc : Nat} {L : List (Option Value)} {st : List Value} {μ : kbM}
theorem q_iald {i n : Nat} {rs : List Nat} {j : Int32} (q : Nat) (hq : j.toNatClampNeg = q) (hs : kbSh[i]? = some (.inl (0, n, rs))) (hin : vp_in j n) (hd : decode M.2.1 pc = .ok (.iaload, 1)) (kk : kbR l M d Q (pc + 1) L (.int (μ.1 i q) :: st) μ) : kbR l M d Q pc L (.int j :: .ref i :: st) μ := by subst hq; exact r_iald hs hin hd kk
theorem q_zald {i n : Nat} {rs : List Nat} {j : Int32} (q : Nat) (hq : j.toNatClampNeg = q) (hs : kbSh[i]? = some (.inl (2, n, rs))) (hin : vp_in j n) (hd : decode M.2.1 pc = .ok (.baload, 1)) (kk : kbR l M d Q (pc + 1) L (.int (μ.1 i q) :: st) μ) : kbR l M d Q pc L (.int j :: .ref i :: st) μ := by subst hq; exact r_zald hs hin hd kk
theorem q_lald {i n : Nat} {rs : List Nat} {j : Int32} (q : Nat) (hq : j.toNatClampNeg = q) (hs : kbSh[i]? = some (.inl (1, n, rs))) (hin : vp_in j n) (hd : decode M.2.1 pc = .ok (.laload, 1)) (kk : kbR l M d Q (pc + 1) L (.long (μ.2 i q) :: st) μ) : kbR l M d Q pc L (.int j :: .ref i :: st) μ := by subst hq; exact r_lald hs hin hd kk
theorem q_iast {i n : Nat} {rs : List Nat} {j x : Int32} (q : Nat) (hq : j.toNatClampNeg = q) (hs : kbSh[i]? = some (.inl (0, n, rs))) (hin : vp_in j n) (hd : decode M.2.1 pc = .ok (.iastore, 1)) (kk : kbR l M d Q (pc + 1) L st (kbW μ i q x)) : kbR l M d Q pc L (.int x :: .int j :: .ref i :: st) μ := by subst hq; exact r_iast hs hin hd kk
theorem q_zast {i n : Nat} {rs : List Nat} {j x : Int32} (q : Nat) (hq : j.toNatClampNeg = q) (hs : kbSh[i]? = some (.inl (2, n, rs))) (hin : vp_in j n) (hd : decode M.2.1 pc = .ok (.bastore, 1)) (kk : kbR l M d Q (pc + 1) L st (kbW μ i q (vp_nar .boolean x))) : kbR l M d Q pc L (.int x :: .int j :: .ref i :: st) μ := by subst hq; exact r_zast hs hin hd kk
theorem q_last {i n : Nat} {rs : List Nat} {j : Int32} {x : Int64} (q : Nat) (hq : j.toNatClampNeg = q) (hs : kbSh[i]? = some (.inl (1, n, rs))) (hin : vp_in j n) (hd : decode M.2.1 pc = .ok (.lastore, 1)) (kk : kbR l M d Q (pc + 1) L st (kbX μ i q x)) : kbR l M d Q pc L (.long x :: .int j :: .ref i :: st) μ := by subst hq; exact r_last hs hin hd kk
theorem q_fald {j : Int32} (q : Nat) (hq : j.toNatClampNeg = q) (hin : vp_in j 13) (hd : decode M.2.1 pc = .ok (.iaload, 1)) (kk : kbR l M d Q (pc + 1) L (.int (kbFv.getD q 0) :: st) μ) : kbR l M d Q pc L (.int j :: .ref 3000 :: st) μ := by subst hq; exact r_fald hin hd kk
theorem q_copy {idx i0 i1 n0 n1 : Nat} {rs0 rs1 : List Nat} {sp dp n : Int32} (a b c : Nat) (ha : sp.toNatClampNeg = a) (hb : dp.toNatClampNeg = b) (hc0 : n.toNatClampNeg = c) (hw : Cond.methodLink M.1.cls idx arraycopyName ∈ kbT) (hs0 : kbSh[i0]? = some (.inl (0, n0, rs0))) (hs1 : kbSh[i1]? = some (.inl (0, n1, rs1))) (hc : kbCp sp dp n n0 n1 = true) (hd1 : 1 ≤ d) (hr : (st.map fun v => v.category).sum ≤ 8) (hd : decode M.2.1 pc = .ok (.invokestatic idx, 3))
    (k : kbR l M d Q (pc + 3) L st (kbA μ i1 (va_cpy (μ.1 i0) (μ.1 i1) a b c))) : kbR l M d Q pc L (.int n :: .int dp :: .ref i1 :: .int sp :: .ref i0 :: st) μ := by subst ha; subst hb; subst hc0; exact r_copy hw hs0 hs1 hc hd1 hr hd k
end Places
