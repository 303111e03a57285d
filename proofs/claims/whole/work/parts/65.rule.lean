/-! THE RULE: what follows what -/
def kI (a : Int) : Int32 := Int32.ofInt a
theorem kI_toInt {a : Int} (h1 : -2147483648 ≤ a) (h2 : a < 2147483648) : (kI a).toInt = a := by
  unfold kI
  exact Int32.toInt_ofInt_of_le h1 (by omega)
theorem kI_eq {a b : Int} (a1 : -2147483648 ≤ a) (a2 : a < 2147483648) (b1 : -2147483648 ≤ b) (b2 : b < 2147483648) : kI a = kI b ↔ a = b := by
  constructor
  · intro h
    have := congrArg Int32.toInt h
    rw [kI_toInt a1 a2, kI_toInt b1 b2] at this
    exact this
  · intro h; rw [h]
theorem kI_lt {a b : Int} (a1 : -2147483648 ≤ a) (a2 : a < 2147483648) (b1 : -2147483648 ≤ b) (b2 : b < 2147483648) : kI a < kI b ↔ a < b := by
  rw [Int32.lt_iff_toInt_lt, kI_toInt a1 a2, kI_toInt b1 b2]
theorem kI_le {a b : Int} (a1 : -2147483648 ≤ a) (a2 : a < 2147483648) (b1 : -2147483648 ≤ b) (b2 : b < 2147483648) : kI a ≤ kI b ↔ a ≤ b := by
  rw [Int32.le_iff_toInt_le, kI_toInt a1 a2, kI_toInt b1 b2]
theorem kI_nat (a : Nat) : kI (a : Int) = nI a := rfl
theorem kW_ne {μ : kbM} {c k a : Nat} {v : Int32} (h : a ≠ c) : (kbW μ c k v).1 a = μ.1 a := by simp [kbW, kbA, h]
theorem kW_eq {μ : kbM} {c k : Nat} {v : Int32} : (kbW μ c k v).1 c = upd (μ.1 c) k v := by simp [kbW, kbA]
theorem kW_at {μ : kbM} {c k : Nat} {v : Int32} : (kbW μ c k v).1 c k = v := by rw [kW_eq]; exact pk_us
theorem kW_no {μ : kbM} {c k j : Nat} {v : Int32} (h : j ≠ k) : (kbW μ c k v).1 c j = μ.1 c j := by rw [kW_eq]; exact pk_un h
theorem kW_2 {μ : kbM} {c k : Nat} {v : Int32} : (kbW μ c k v).2 = μ.2 := rfl
theorem kA_ne {μ : kbM} {c a : Nat} {f : Nat → Int32} (h : a ≠ c) : (kbA μ c f).1 a = μ.1 a := by simp [kbA, h]
theorem kA_eq {μ : kbM} {c : Nat} {f : Nat → Int32} : (kbA μ c f).1 c = f := by simp [kbA]
def zOp (c : Int) (a b : Int32) : Int32 := if c = -14 then a * b else if c = -13 then a - b else if c = -12 then a + b else if c = -11 then zB (decide (a = b)) else if c = -10 then zB (decide (a < b)) else if c = -9 then zB (decide (a ≠ 0 ∧ b ≠ 0)) else if c = -8 then zB (decide (a ≠ 0 ∨ b ≠ 0)) else if b = 0 then 0 else a / b
/-- a name's value: a ahead, b behind -/
def zNam (W : zW) (a b : Nat) (c : Int) : Int32 := if c = -5 then nI (zSize (zRowAt W b)) else if c = -4 then nI (zWorthAt W b) else if c = -3 then nI (zWorthAt W a) else if c = -2 then nI (zPartAt W b) else if c = -1 then nI (zPartAt W a) else zB (decide (a = b))
def zStp (W : zW) (a b : Nat) (c : Int) (st : List Int32) : List Int32 := if 0 ≤ c then kI c :: st else if -6 ≤ c then zNam W a b c :: st else if c = -7 then (match st with | x :: r => zB (decide (x = 0)) :: r | [] => []) else (match st with | y :: x :: r => zOp c x y :: r | s => s)
def zRun (W : zW) (a b : Nat) : List Int → List Int32 → List Int32
  | [], st => st
  | c :: C, st => zRun W a b C (zStp W a b c st)
def zDep : List Int → Nat → Option Nat
  | [], d => some d
  | c :: C, d => if -6 ≤ c then (if d < 64 then zDep C (d + 1) else none) else if c = -7 then (if 1 ≤ d then zDep C d else none) else if 2 ≤ d then zDep C (d - 1) else none
def zCok (C : List Int) : Prop := (C = [] ∨ zDep C 0 = some 1) ∧ C.length ≤ 600 ∧ ∀ c ∈ C, -15 ≤ c ∧ c ≤ 9999
def zJoin (W : zW) (C : List Int) (a b : Nat) : Bool := C.isEmpty || ((zRun W a b C []).headD 0 != 0)
/-- a stack of ints in a cell, its top first -/
def zStk (f : Nat → Int32) (st : List Int32) : Prop := ∀ i, i < st.length → f i = st.getD (st.length - 1 - i) 0
theorem zStk_nil (f : Nat → Int32) : zStk f [] := fun i h => by simp at h
theorem zStk_push {f : Nat → Int32} {st : List Int32} (h : zStk f st) (v : Int32) : zStk (upd f st.length v) (v :: st) := by
  intro i hi
  simp only [List.length_cons] at hi ⊢
  by_cases e : i = st.length
  · subst e; rw [pk_us]; simp
  · rw [pk_un e, h i (by omega), show st.length + 1 - 1 - i = (st.length - 1 - i) + 1 by omega]
    simp
theorem zStk_top {f : Nat → Int32} {x : Int32} {r : List Int32} (h : zStk f (x :: r)) : f r.length = x := by
  have := h r.length (by simp)
  simpa using this
theorem zStk_tail {f : Nat → Int32} {x : Int32} {r : List Int32} (h : zStk f (x :: r)) : zStk f r := by
  intro i hi
  have := h i (by simp; omega)
  rw [this]
  simp only [List.length_cons]
  rw [show r.length + 1 - 1 - i = (r.length - 1 - i) + 1 by omega]
  simp
/-- the words' cells of the class -/
theorem jo_joined {c : Int} (h1 : -15 ≤ c) (h2 : c ≤ -8) (a b : Int32) : f_JO_joined (kI c) a b = some (zOp c a b) := by
  have e : ∀ d : Int, -15 ≤ d → d ≤ -8 → (kI c = kI d ↔ c = d) := fun d d1 d2 => kI_eq (by omega) (by omega) (by omega) (by omega)
  unfold f_JO_joined zOp jn_JO_joined_93 jn_JO_joined_82 jn_JO_joined_70 jn_JO_joined_71 jn_JO_joined_52 jn_JO_joined_57 jn_JO_joined_117
  rw [show (-14 : Int32) = kI (-14) from rfl, show (-13 : Int32) = kI (-13) from rfl, show (-12 : Int32) = kI (-12) from rfl, show (-11 : Int32) = kI (-11) from rfl, show (-10 : Int32) = kI (-10) from rfl, show (-9 : Int32) = kI (-9) from rfl, show (-8 : Int32) = kI (-8) from rfl]
  simp only [e (-14) (by decide) (by decide), e (-13) (by decide) (by decide), e (-12) (by decide) (by decide), e (-11) (by decide) (by decide), e (-10) (by decide) (by decide), e (-9) (by decide) (by decide), e (-8) (by decide) (by decide)]
  have hlt : (a < b) ↔ ¬ b ≤ a := by rw [Int32.not_le]
  by_cases q14 : c = -14
  · simp [q14]
  by_cases q13 : c = -13
  · simp [q13]
  by_cases q12 : c = -12
  · simp [q12]
  by_cases q11 : c = -11
  · by_cases hab : a = b <;> simp [q11, hab, zB]
  by_cases q10 : c = -10
  · by_cases hab : b ≤ a
    · have : ¬ a < b := by rw [hlt]; simpa using hab
      simp [q10, hab, this, zB]
    · have : a < b := hlt.mpr hab
      simp [q10, hab, this, zB]
  by_cases q9 : c = -9
  · by_cases ha : a = 0 <;> by_cases hb : b = 0 <;> simp [q9, ha, hb, zB]
  by_cases q8 : c = -8
  · by_cases ha : a = 0 <;> by_cases hb : b = 0 <;> simp [q8, ha, hb, zB]
  by_cases hb : b = 0
  · simp [q14, q13, q12, q11, q10, q9, q8, hb]
  · simp [q14, q13, q12, q11, q10, q9, q8, hb, kbIf]
/-- a step as the model has it -/
def zTrI (c : Int) : Int := if c = -7 then -28 else if c = -8 then -27 else if c = -9 then -26 else if c = -10 then -24 else if c = -11 then -25 else if c = -12 then -20 else if c = -13 then -21 else if c = -14 then -22 else if c = -15 then -23 else c
theorem md_reckon {c : Int} (h1 : -15 ≤ c) (h2 : c ≤ -8) (a b : Int32) : f_MD_reckon (kI (zTrI c)) a b = some (zOp c a b) := by
  have hlt : (a < b) ↔ ¬ b ≤ a := by rw [Int32.not_le]
  have hc : c = -8 ∨ c = -9 ∨ c = -10 ∨ c = -11 ∨ c = -12 ∨ c = -13 ∨ c = -14 ∨ c = -15 := by omega
  unfold f_MD_reckon jn_MD_reckon_102 jn_MD_reckon_103 jn_MD_reckon_89 jn_MD_reckon_78 jn_MD_reckon_67 jn_MD_reckon_112 jn_MD_reckon_117
  rcases hc with rfl | rfl | rfl | rfl | rfl | rfl | rfl | rfl
  · rw [show kI (zTrI (-8)) = -27 from rfl]
    by_cases ha : a = 0 <;> by_cases hb : b = 0 <;> simp [zOp, ha, hb, zB]
  · rw [show kI (zTrI (-9)) = -26 from rfl]
    by_cases ha : a = 0 <;> by_cases hb : b = 0 <;> simp [zOp, ha, hb, zB]
  · rw [show kI (zTrI (-10)) = -24 from rfl]
    by_cases hab : b ≤ a
    · have : ¬ a < b := by rw [hlt]; simpa using hab
      simp [zOp, hab, this, zB]
    · have : a < b := hlt.mpr hab
      simp [zOp, hab, this, zB]
  · rw [show kI (zTrI (-11)) = -25 from rfl]
    by_cases hab : a = b <;> simp [zOp, hab, zB]
  · rw [show kI (zTrI (-12)) = -20 from rfl]; simp [zOp]
  · rw [show kI (zTrI (-13)) = -21 from rfl]; simp [zOp]
  · rw [show kI (zTrI (-14)) = -22 from rfl]; simp [zOp]
  · rw [show kI (zTrI (-15)) = -23 from rfl]
    by_cases hb : b = 0
    · simp [zOp, hb]
    · simp [zOp, hb, kbIf]
