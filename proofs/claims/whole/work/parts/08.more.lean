/-! results: something comes out, and it is as told -/
def kbG {α : Type} (o : Option α) (P : α → Prop) : Prop := ∃ x, o = some x ∧ P x
theorem kbG_none {α : Type} {P : α → Prop} : ¬ kbG (none : Option α) P := fun ⟨_, h, _⟩ => by cases h
theorem kbG_some {α : Type} {x : α} {P : α → Prop} (h : kbG (some x) P) : P x := by obtain ⟨y, h1, h2⟩ := h; cases h1; exact h2
theorem kbG_bind {α β : Type} {o : Option α} {f : α → Option β} {P : β → Prop} (h : kbG (o.bind f) P) : ∃ x, o = some x ∧ kbG (f x) P := by
  cases o with
  | none => exact absurd h kbG_none
  | some x => exact ⟨x, rfl, h⟩
def kbOr {α β γ : Type} (o : Option (β ⊕ γ)) (f : β → Option α) (g : γ → Option α) : Option α := match o with
  | none => none
  | some (.inl r) => f r
  | some (.inr v) => g v
theorem kbG_or {α β γ : Type} {o : Option (β ⊕ γ)} {f : β → Option α} {g : γ → Option α} {P : α → Prop} (h : kbG (kbOr o f g) P) : (∃ r, o = some (.inl r) ∧ kbG (f r) P) ∨ ∃ v, o = some (.inr v) ∧ kbG (g v) P := by
  cases o with
  | none => exact absurd h kbG_none
  | some x => cases x with
    | inl r => exact Or.inl ⟨r, rfl, h⟩
    | inr v => exact Or.inr ⟨v, rfl, h⟩
theorem kbG_t {α : Type} {c : Prop} [Decidable c] {a b : Option α} {P : α → Prop} (hc : c) (h : kbG (if c then a else b) P) : kbG a P := by rw [if_pos hc] at h; exact h
theorem kbG_f {α : Type} {c : Prop} [Decidable c] {a b : Option α} {P : α → Prop} (hc : ¬ c) (h : kbG (if c then a else b) P) : kbG b P := by rw [if_neg hc] at h; exact h
/-- a test that must hold, else nothing comes out -/
theorem kbG_i {α : Type} {c : Prop} [Decidable c] {a : Option α} {P : α → Prop} (h : kbG (if c then a else none) P) : c ∧ kbG a P := by
  by_cases hc : c
  · rw [if_pos hc] at h; exact ⟨hc, h⟩
  · rw [if_neg hc] at h; exact absurd h kbG_none
/-- an index within -/
def kbIn (j : Int32) (n : Nat) : Bool := decide (¬ (j < 0 ∨ n ≤ j.toNatClampNeg))
theorem kbIn_of {j : Int32} {n : Nat} (h : kbIn j n = true) : vp_in j n := by
  have h1 : ¬ (j < 0 ∨ n ≤ j.toNatClampNeg) := of_decide_eq_true h
  exact h1
def kbRem (x y : Int32) : Int32 := x - x / y * y
def kbShl (x y : Int32) : Int32 := x <<< (y &&& 31)
def kbShr (x y : Int32) : Int32 := x >>> (y &&& 31)
def kbUsh (x y : Int32) : Int32 := (x.toUInt32 >>> (y.toUInt32 &&& Int32.toUInt32 31)).toInt32
def kbI2c (x : Int32) : Int32 := (x.toUInt32 % 65536).toInt32
def kbMin (x y : Int32) : Int32 := if y < x then y else x
def kbMax (x y : Int32) : Int32 := if x < y then y else x
def kbAbs (x : Int32) : Int32 := if 0 ≤ x then x else 0 - x
/-- fewer locals -/
def kbLe : List (Option Value) → List (Option Value) → Prop
  | [], [] => True
  | none :: a, _ :: b => kbLe a b
  | some v :: a, o :: b => o = some v ∧ kbLe a b
  | _, _ => False
theorem kbLe_ok : ∀ (a b : List (Option Value)), kbLe a b → a.length = b.length ∧ ∀ (i : Nat) (v : Value), a[i]? = some (some v) → b[i]? = some (some v)
  | [], [], _ => ⟨rfl, fun i v h => by simp at h⟩
  | [], _ :: _, h => by simp [kbLe] at h
  | none :: a, [], h => by simp [kbLe] at h
  | some _ :: a, [], h => by simp [kbLe] at h
  | none :: a, o :: b, h => by
    obtain ⟨h1, h2⟩ := kbLe_ok a b h
    refine ⟨by simp [h1], fun i v hi => ?_⟩
    cases i with
    | zero => simp at hi
    | succ i => simp at hi ⊢; exact h2 i v hi
  | some w :: a, o :: b, h => by
    obtain ⟨h0, h⟩ := h
    obtain ⟨h1, h2⟩ := kbLe_ok a b h
    refine ⟨by simp [h1], fun i v hi => ?_⟩
    cases i with
    | zero => simp at hi; subst hi; simp [h0]
    | succ i => simp at hi ⊢; exact h2 i v hi
section More
variable {l : Launch} {M : kbMt} {d : Nat} {Q : kbQt} {pc : Nat} {L : List (Option Value)} {st : List Value} {μ : kbM}
theorem r_le (L' : List (Option Value)) (h : kbLe L' L) (k : kbR l M d Q pc L' st μ) : kbR l M d Q pc L st μ := r_drop (kbLe_ok _ _ h).1 (kbLe_ok _ _ h).2 k
theorem r_rem {x y : Int32} (hd : decode M.2.1 pc = .ok (.irem, 1)) (hne : ¬ y = 0) (k : kbR l M d Q (pc + 1) L (.int (kbRem x y) :: st) μ) : kbR l M d Q pc L (.int y :: .int x :: st) μ := r_irem hd hne k
theorem r_shl {x y : Int32} (hd : decode M.2.1 pc = .ok (.ishl, 1)) (k : kbR l M d Q (pc + 1) L (.int (kbShl x y) :: st) μ) : kbR l M d Q pc L (.int y :: .int x :: st) μ := r_ishl hd k
theorem r_shr {x y : Int32} (hd : decode M.2.1 pc = .ok (.ishr, 1)) (k : kbR l M d Q (pc + 1) L (.int (kbShr x y) :: st) μ) : kbR l M d Q pc L (.int y :: .int x :: st) μ := r_ishr hd k
theorem r_ush {x y : Int32} (hd : decode M.2.1 pc = .ok (.iushr, 1)) (k : kbR l M d Q (pc + 1) L (.int (kbUsh x y) :: st) μ) : kbR l M d Q pc L (.int y :: .int x :: st) μ := r_iushr hd k
theorem r_tochar {x : Int32} (hd : decode M.2.1 pc = .ok (.i2c, 1)) (k : kbR l M d Q (pc + 1) L (.int (kbI2c x) :: st) μ) : kbR l M d Q pc L (.int x :: st) μ := r_i2c hd k
theorem r_tabOut {dflt lo hi : Int} {offs : Array Int} {len : Nat} {x : Int32} (t : Nat) (hd : decode M.2.1 pc = .ok (.tableswitch dflt lo hi offs, len)) (h : x.toInt < lo ∨ hi < x.toInt) (ht : (pc : Int) + dflt = (t : Int)) (k : kbR l M d Q t L st μ) : kbR l M d Q pc L (.int x :: st) μ := by
  intro E p e s m args below meth c C H locs ls hP hS hL
  exact lv_tableOut C.1 C.2.1 hd h ht (k E p e s m args below meth c C H locs ls hP hS hL)
theorem r_tabIn {dflt lo hi : Int} {offs : Array Int} {len : Nat} {x : Int32} {off : Int} (t : Nat) (hd : decode M.2.1 pc = .ok (.tableswitch dflt lo hi offs, len)) (h1 : ¬ x.toInt < lo) (h2 : ¬ hi < x.toInt) (ho : offs[(x.toInt - lo).toNat]? = some off) (ht : (pc : Int) + off = (t : Int)) (k : kbR l M d Q t L st μ) : kbR l M d Q pc L (.int x :: st) μ := by
  intro E p e s m args below meth c C H locs ls hP hS hL
  exact lv_tableIn C.1 C.2.1 hd h1 h2 ho ht (k E p e s m args below meth c C H locs ls hP hS hL)
theorem kb_out {x : Int32} {lo hi : Int} (h : ∀ k : Int, lo ≤ k → k ≤ hi → ¬ x = Int32.ofInt k) : x.toInt < lo ∨ hi < x.toInt := by
  by_cases h1 : x.toInt < lo
  · exact Or.inl h1
  · by_cases h2 : hi < x.toInt
    · exact Or.inr h2
    · exact absurd (Int32.ofInt_toInt x).symm (h x.toInt (by omega) (by omega))
theorem r_lookup {dflt : Int} {ps : Array (Int × Int)} {len : Nat} {x : Int32} {off : Int} (t : Nat) (hd : decode M.2.1 pc = .ok (.lookupswitch dflt ps, len)) (hp : (ps.toList.zip (ps.toList.drop 1)).all (fun (a, next) => a.1 < next.1) = true) (ho : Op.lookupswitch.offset ps.toList dflt x.toInt = off) (ht : (pc : Int) + off = (t : Int)) (k : kbR l M d Q t L st μ) : kbR l M d Q pc L (.int x :: st) μ := by
  intro E p e s m args below meth c C H locs ls hP hS hL
  exact lv_lookup C.1 C.2.1 hd hp ho ht (k E p e s m args below meth c C H locs ls hP hS hL)
theorem kb_mathW : Cond.static Lib.Math.min.name ∈ kbT ∧ Cond.code Lib.Math.min.name Lib.Math.min.code 2 (some .int) ∈ kbT ∧ Cond.static Lib.Math.max.name ∈ kbT ∧ Cond.code Lib.Math.max.name Lib.Math.max.code 2 (some .int) ∈ kbT ∧ Cond.static Lib.Math.abs.name ∈ kbT ∧ Cond.code Lib.Math.abs.name Lib.Math.abs.code 1 (some .int) ∈ kbT ∧ Cond.initialized "java/lang/Math" ∈ kbT := by decide +kernel
theorem kb_hl {d : Nat} {E : kbE} {st : List Value} {n : Nat} (h : (st.map fun v => v.category).sum + n ≤ 48 * d) : ((st.map (kbV E)).map fun v => v.category).sum + n ≤ (kbRm d).locals := by rw [kbV_sum]; exact h
theorem r_min {idx : Nat} {x y : Int32} (hw : Cond.methodLink M.1.cls idx Lib.Math.min.name ∈ kbT) (hd1 : 1 ≤ d) (hr : (st.map fun v => v.category).sum ≤ 8) (hd : decode M.2.1 pc = .ok (.invokestatic idx, 3)) (k : kbR l M d Q (pc + 3) L (.int (kbMin x y) :: st) μ) : kbR l M d Q pc L (.int y :: .int x :: st) μ := by
  intro E p e s m args below meth c C H locs ls hP hS hL
  exact va_mmin C.1 C.2.1 (C.2.2.1.trans hL.2.1.symm) C.2.2.2.2.2.1 (C.2.2.2.2.2.2.1 _ (kbT_mem hw)) (C.2.2.2.2.2.2.1 _ (kbT_mem kb_mathW.1)) (C.2.2.2.2.2.2.1 _ (kbT_mem kb_mathW.2.2.2.2.2.2)) (C.2.2.2.2.2.2.1 _ (kbT_mem kb_mathW.2.1)) hd1 (kb_hl (by omega)) (Nat.le_refl 0) (Nat.le_refl 0) hd (k E p e s m args below meth c C H locs ls hP hS hL)
theorem r_max {idx : Nat} {x y : Int32} (hw : Cond.methodLink M.1.cls idx Lib.Math.max.name ∈ kbT) (hd1 : 1 ≤ d) (hr : (st.map fun v => v.category).sum ≤ 8) (hd : decode M.2.1 pc = .ok (.invokestatic idx, 3)) (k : kbR l M d Q (pc + 3) L (.int (kbMax x y) :: st) μ) : kbR l M d Q pc L (.int y :: .int x :: st) μ := by
  intro E p e s m args below meth c C H locs ls hP hS hL
  exact va_mmax C.1 C.2.1 (C.2.2.1.trans hL.2.1.symm) C.2.2.2.2.2.1 (C.2.2.2.2.2.2.1 _ (kbT_mem hw)) (C.2.2.2.2.2.2.1 _ (kbT_mem kb_mathW.2.2.1)) (C.2.2.2.2.2.2.1 _ (kbT_mem kb_mathW.2.2.2.2.2.2)) (C.2.2.2.2.2.2.1 _ (kbT_mem kb_mathW.2.2.2.1)) hd1 (kb_hl (by omega)) (Nat.le_refl 0) (Nat.le_refl 0) hd (k E p e s m args below meth c C H locs ls hP hS hL)
theorem r_abs {idx : Nat} {x : Int32} (hw : Cond.methodLink M.1.cls idx Lib.Math.abs.name ∈ kbT) (hd1 : 1 ≤ d) (hr : (st.map fun v => v.category).sum ≤ 8) (hd : decode M.2.1 pc = .ok (.invokestatic idx, 3)) (k : kbR l M d Q (pc + 3) L (.int (kbAbs x) :: st) μ) : kbR l M d Q pc L (.int x :: st) μ := by
  intro E p e s m args below meth c C H locs ls hP hS hL
  exact va_mabs C.1 C.2.1 (C.2.2.1.trans hL.2.1.symm) C.2.2.2.2.2.1 (C.2.2.2.2.2.2.1 _ (kbT_mem hw)) (C.2.2.2.2.2.2.1 _ (kbT_mem kb_mathW.2.2.2.2.1)) (C.2.2.2.2.2.2.1 _ (kbT_mem kb_mathW.2.2.2.2.2.2)) (C.2.2.2.2.2.2.1 _ (kbT_mem kb_mathW.2.2.2.2.2.1)) hd1 (kb_hl (by omega)) (Nat.le_refl 0) (Nat.le_refl 0) hd (k E p e s m args below meth c C H locs ls hP hS hL)
theorem kb_copyW : Cond.native arraycopyName ∈ kbT ∧ Cond.static arraycopyName ∈ kbT ∧ Cond.initialized "java/lang/System" ∈ kbT := by decide +kernel
/-- places that an arraycopy wants -/
def kbCp (sp dp n : Int32) (n0 n1 : Nat) : Bool := decide (¬ sp < 0 ∧ ¬ dp < 0 ∧ ¬ n < 0 ∧ sp.toNatClampNeg + n.toNatClampNeg ≤ n0 ∧ dp.toNatClampNeg + n.toNatClampNeg ≤ n1)
theorem r_copy {idx i0 i1 n0 n1 : Nat} {rs0 rs1 : List Nat} {sp dp n : Int32} (hw : Cond.methodLink M.1.cls idx arraycopyName ∈ kbT) (hs0 : kbSh[i0]? = some (.inl (0, n0, rs0))) (hs1 : kbSh[i1]? = some (.inl (0, n1, rs1))) (hc : kbCp sp dp n n0 n1 = true) (hd1 : 1 ≤ d) (hr : (st.map fun v => v.category).sum ≤ 8) (hd : decode M.2.1 pc = .ok (.invokestatic idx, 3))
    (k : kbR l M d Q (pc + 3) L st (kbA μ i1 (va_cpy (μ.1 i0) (μ.1 i1) sp.toNatClampNeg dp.toNatClampNeg n.toNatClampNeg))) : kbR l M d Q pc L (.int n :: .int dp :: .ref i1 :: .int sp :: .ref i0 :: st) μ := by
  intro E p e s m args below meth c C H locs ls hP hS hL
  obtain ⟨h1, h2, h3, h4, h5⟩ := of_decide_eq_true hc
  have hnw : (st.map fun v => v.category).sum + (nativeFrameWords "java/lang/System" "arraycopy" 5 + 11) ≤ 48 * d := by
    have : nativeFrameWords "java/lang/System" "arraycopy" 5 ≤ 20 := by decide
    omega
  refine va_copyi C.1 C.2.1 (C.2.2.1.trans hL.2.1.symm) C.2.2.2.2.2.1 (C.2.2.2.2.2.2.1 _ (kbT_mem hw)) (C.2.2.2.2.2.2.1 _ (kbT_mem kb_copyW.1)) (C.2.2.2.2.2.2.1 _ (kbT_mem kb_copyW.2.1)) (C.2.2.2.2.2.2.1 _ (kbT_mem kb_copyW.2.2)) C.2.2.2.2.2.2.2.1 hP (kbDA C.2.2.2.2.2.2.2.2.1) hS i0 i1 0 0 (kbWs_get hs0) (kbWs_get hs1) rfl rfl rfl h1 h2 h3 h4 h5 (fun i _ => rfl) hd1 (kb_hl (st := st) hnw) hd fun H1 locs1 hP1 _ hS1 => ?_
  have e1 := kbWs_A (E := E) (μ := μ) (f := va_cpy (μ.1 i0) (μ.1 i1) sp.toNatClampNeg dp.toNatClampNeg n.toNatClampNeg) hs1
  exact k E p e s m args below meth c C H1 locs1 ls (e1 ▸ hP1) hS1 hL
/-! calls whose answer is known -/
theorem r_invV_i {idx i d' n ci : Nat} {My : kbMt} {As st' : List Value} {v : Int32} {μ1 : kbM} {fds : List (Option Nat)} {T : u_T} {N : Nat} (hc : kbCV M.1.cls idx My n) (hs : kbSh[i]? = some (.inr (ci, fds))) (hcl : vwCl[ci]? = some (My.1.cls, T, N)) (hM : kbS l My d' (.ref i :: As) μ (fun r μ' => r = some (.int v) ∧ μ' = μ1)) (hst : st' = As.reverse ++ .ref i :: st) (hn : As.length = n) (hr : (st.map fun v => v.category).sum ≤ 8) (hdd : d' + 1 ≤ d) (hd : decode M.2.1 pc = .ok (.invokevirtual idx, 3))
    (kk : kbR l M d Q (pc + 3) L (.int v :: st) μ1) : kbR l M d Q pc L st' μ := r_invV hc hs hcl hM hst hn hr hdd hd (fun r μ' h => by obtain ⟨rfl, rfl⟩ := h; exact kk)
theorem r_invV_l {idx i d' n ci : Nat} {My : kbMt} {As st' : List Value} {v : Int64} {μ1 : kbM} {fds : List (Option Nat)} {T : u_T} {N : Nat} (hc : kbCV M.1.cls idx My n) (hs : kbSh[i]? = some (.inr (ci, fds))) (hcl : vwCl[ci]? = some (My.1.cls, T, N)) (hM : kbS l My d' (.ref i :: As) μ (fun r μ' => r = some (.long v) ∧ μ' = μ1)) (hst : st' = As.reverse ++ .ref i :: st) (hn : As.length = n) (hr : (st.map fun v => v.category).sum ≤ 8) (hdd : d' + 1 ≤ d) (hd : decode M.2.1 pc = .ok (.invokevirtual idx, 3))
    (kk : kbR l M d Q (pc + 3) L (.long v :: st) μ1) : kbR l M d Q pc L st' μ := r_invV hc hs hcl hM hst hn hr hdd hd (fun r μ' h => by obtain ⟨rfl, rfl⟩ := h; exact kk)
theorem r_invV_v {idx i d' n ci : Nat} {My : kbMt} {As st' : List Value} {μ1 : kbM} {fds : List (Option Nat)} {T : u_T} {N : Nat} (hc : kbCV M.1.cls idx My n) (hs : kbSh[i]? = some (.inr (ci, fds))) (hcl : vwCl[ci]? = some (My.1.cls, T, N)) (hM : kbS l My d' (.ref i :: As) μ (fun r μ' => r = none ∧ μ' = μ1)) (hst : st' = As.reverse ++ .ref i :: st) (hn : As.length = n) (hr : (st.map fun v => v.category).sum ≤ 8) (hdd : d' + 1 ≤ d) (hd : decode M.2.1 pc = .ok (.invokevirtual idx, 3))
    (kk : kbR l M d Q (pc + 3) L st μ1) : kbR l M d Q pc L st' μ := r_invV hc hs hcl hM hst hn hr hdd hd (fun r μ' h => by obtain ⟨rfl, rfl⟩ := h; exact kk)
theorem r_invS_i {idx id d' n : Nat} {My : kbMt} {As st' : List Value} {v : Int32} {μ1 : kbM} (hc : kbCV M.1.cls idx My n) (hi : id < kbTx.length) (hcl : My.1.cls = "java/lang/String") (hM : kbS l My d' (.ref (1000 + id) :: As) μ (fun r μ' => r = some (.int v) ∧ μ' = μ1)) (hst : st' = As.reverse ++ .ref (1000 + id) :: st) (hn : As.length = n) (hr : (st.map fun v => v.category).sum ≤ 8) (hdd : d' + 1 ≤ d) (hd : decode M.2.1 pc = .ok (.invokevirtual idx, 3))
    (kk : kbR l M d Q (pc + 3) L (.int v :: st) μ1) : kbR l M d Q pc L st' μ := r_invS hc hi hcl hM hst hn hr hdd hd (fun r μ' h => by obtain ⟨rfl, rfl⟩ := h; exact kk)
theorem r_inv_i {idx d' n : Nat} {My : kbMt} {As st' : List Value} {v : Int32} {μ1 : kbM} (hc : kbCS M.1.cls idx My n) (hM : kbS l My d' As μ (fun r μ' => r = some (.int v) ∧ μ' = μ1)) (hst : st' = As.reverse ++ st) (hn : As.length = n) (hr : (st.map fun v => v.category).sum ≤ 8) (hdd : d' + 1 ≤ d) (hd : decode M.2.1 pc = .ok (.invokestatic idx, 3))
    (kk : kbR l M d Q (pc + 3) L (.int v :: st) μ1) : kbR l M d Q pc L st' μ := r_inv hc hM hst hn hr hdd hd (fun r μ' h => by obtain ⟨rfl, rfl⟩ := h; exact kk)
theorem r_inv_l {idx d' n : Nat} {My : kbMt} {As st' : List Value} {v : Int64} {μ1 : kbM} (hc : kbCS M.1.cls idx My n) (hM : kbS l My d' As μ (fun r μ' => r = some (.long v) ∧ μ' = μ1)) (hst : st' = As.reverse ++ st) (hn : As.length = n) (hr : (st.map fun v => v.category).sum ≤ 8) (hdd : d' + 1 ≤ d) (hd : decode M.2.1 pc = .ok (.invokestatic idx, 3))
    (kk : kbR l M d Q (pc + 3) L (.long v :: st) μ1) : kbR l M d Q pc L st' μ := r_inv hc hM hst hn hr hdd hd (fun r μ' h => by obtain ⟨rfl, rfl⟩ := h; exact kk)
theorem r_inv_v {idx d' n : Nat} {My : kbMt} {As st' : List Value} {μ1 : kbM} (hc : kbCS M.1.cls idx My n) (hM : kbS l My d' As μ (fun r μ' => r = none ∧ μ' = μ1)) (hst : st' = As.reverse ++ st) (hn : As.length = n) (hr : (st.map fun v => v.category).sum ≤ 8) (hdd : d' + 1 ≤ d) (hd : decode M.2.1 pc = .ok (.invokestatic idx, 3))
    (kk : kbR l M d Q (pc + 3) L st μ1) : kbR l M d Q pc L st' μ := r_inv hc hM hst hn hr hdd hd (fun r μ' h => by obtain ⟨rfl, rfl⟩ := h; exact kk)
end More
