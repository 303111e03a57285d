theorem dX2_add_0 : decode cX2_add 0 = .ok (.aload_n 0, 1) := by decide +kernel
theorem dX2_add_1 : decode cX2_add 1 = .ok (.getfield 18, 3) := by decide +kernel
theorem dX2_add_4 : decode cX2_add 4 = .ok (.bipush 6, 2) := by decide +kernel
theorem dX2_add_6 : decode cX2_add 6 = .ok (.if_icmp .ge 33, 3) := by decide +kernel
theorem dX2_add_9 : decode cX2_add 9 = .ok (.aload_n 0, 1) := by decide +kernel
theorem dX2_add_10 : decode cX2_add 10 = .ok (.getfield 9, 3) := by decide +kernel
theorem dX2_add_13 : decode cX2_add 13 = .ok (.aload_n 0, 1) := by decide +kernel
theorem dX2_add_14 : decode cX2_add 14 = .ok (.getfield 18, 3) := by decide +kernel
theorem dX2_add_17 : decode cX2_add 17 = .ok (.iload_n 1, 1) := by decide +kernel
theorem dX2_add_18 : decode cX2_add 18 = .ok (.iastore, 1) := by decide +kernel
theorem dX2_add_19 : decode cX2_add 19 = .ok (.aload_n 0, 1) := by decide +kernel
theorem dX2_add_20 : decode cX2_add 20 = .ok (.getfield 15, 3) := by decide +kernel
theorem dX2_add_23 : decode cX2_add 23 = .ok (.aload_n 0, 1) := by decide +kernel
theorem dX2_add_24 : decode cX2_add 24 = .ok (.getfield 18, 3) := by decide +kernel
theorem dX2_add_27 : decode cX2_add 27 = .ok (.iload_n 2, 1) := by decide +kernel
theorem dX2_add_28 : decode cX2_add 28 = .ok (.iastore, 1) := by decide +kernel
theorem dX2_add_29 : decode cX2_add 29 = .ok (.aload_n 0, 1) := by decide +kernel
theorem dX2_add_30 : decode cX2_add 30 = .ok (.dup, 1) := by decide +kernel
theorem dX2_add_31 : decode cX2_add 31 = .ok (.getfield 18, 3) := by decide +kernel
theorem dX2_add_34 : decode cX2_add 34 = .ok (.iconst 1, 1) := by decide +kernel
theorem dX2_add_35 : decode cX2_add 35 = .ok (.iadd, 1) := by decide +kernel
theorem dX2_add_36 : decode cX2_add 36 = .ok (.putfield 18, 3) := by decide +kernel
theorem dX2_add_39 : decode cX2_add 39 = .ok (.return_, 1) := by decide +kernel
theorem dX2_copyFrom_0 : decode cX2_copyFrom 0 = .ok (.aload_n 1, 1) := by decide +kernel
theorem dX2_copyFrom_1 : decode cX2_copyFrom 1 = .ok (.getfield 9, 3) := by decide +kernel
theorem dX2_copyFrom_4 : decode cX2_copyFrom 4 = .ok (.iconst 0, 1) := by decide +kernel
theorem dX2_copyFrom_5 : decode cX2_copyFrom 5 = .ok (.aload_n 0, 1) := by decide +kernel
theorem dX2_copyFrom_6 : decode cX2_copyFrom 6 = .ok (.getfield 9, 3) := by decide +kernel
theorem dX2_copyFrom_9 : decode cX2_copyFrom 9 = .ok (.iconst 0, 1) := by decide +kernel
theorem dX2_copyFrom_10 : decode cX2_copyFrom 10 = .ok (.bipush 6, 2) := by decide +kernel
theorem dX2_copyFrom_12 : decode cX2_copyFrom 12 = .ok (.invokestatic 22, 3) := by decide +kernel
theorem dX2_copyFrom_15 : decode cX2_copyFrom 15 = .ok (.aload_n 1, 1) := by decide +kernel
theorem dX2_copyFrom_16 : decode cX2_copyFrom 16 = .ok (.getfield 15, 3) := by decide +kernel
theorem dX2_copyFrom_19 : decode cX2_copyFrom 19 = .ok (.iconst 0, 1) := by decide +kernel
theorem dX2_copyFrom_20 : decode cX2_copyFrom 20 = .ok (.aload_n 0, 1) := by decide +kernel
theorem dX2_copyFrom_21 : decode cX2_copyFrom 21 = .ok (.getfield 15, 3) := by decide +kernel
theorem dX2_copyFrom_24 : decode cX2_copyFrom 24 = .ok (.iconst 0, 1) := by decide +kernel
theorem dX2_copyFrom_25 : decode cX2_copyFrom 25 = .ok (.bipush 6, 2) := by decide +kernel
theorem dX2_copyFrom_27 : decode cX2_copyFrom 27 = .ok (.invokestatic 22, 3) := by decide +kernel
theorem dX2_copyFrom_30 : decode cX2_copyFrom 30 = .ok (.aload_n 0, 1) := by decide +kernel
theorem dX2_copyFrom_31 : decode cX2_copyFrom 31 = .ok (.aload_n 1, 1) := by decide +kernel
theorem dX2_copyFrom_32 : decode cX2_copyFrom 32 = .ok (.getfield 18, 3) := by decide +kernel
theorem dX2_copyFrom_35 : decode cX2_copyFrom 35 = .ok (.putfield 18, 3) := by decide +kernel
theorem dX2_copyFrom_38 : decode cX2_copyFrom 38 = .ok (.return_, 1) := by decide +kernel
theorem dX2_can_0 : decode cX2_can 0 = .ok (.iload_n 2, 1) := by decide +kernel
theorem dX2_can_1 : decode cX2_can 1 = .ok (.invokestatic 28, 3) := by decide +kernel
theorem dX2_can_4 : decode cX2_can 4 = .ok (.aload_n 0, 1) := by decide +kernel
theorem dX2_can_5 : decode cX2_can 5 = .ok (.getfield 15, 3) := by decide +kernel
theorem dX2_can_8 : decode cX2_can 8 = .ok (.iload_n 1, 1) := by decide +kernel
theorem dX2_can_9 : decode cX2_can 9 = .ok (.iaload, 1) := by decide +kernel
theorem dX2_can_10 : decode cX2_can 10 = .ok (.iconst (-1), 1) := by decide +kernel
theorem dX2_can_11 : decode cX2_can 11 = .ok (.ixor, 1) := by decide +kernel
theorem dX2_can_12 : decode cX2_can 12 = .ok (.iand, 1) := by decide +kernel
theorem dX2_can_13 : decode cX2_can 13 = .ok (.ifCond .ne 7, 3) := by decide +kernel
theorem dX2_can_16 : decode cX2_can 16 = .ok (.iconst 1, 1) := by decide +kernel
theorem dX2_can_17 : decode cX2_can 17 = .ok (.goto 4, 3) := by decide +kernel
theorem dX2_can_20 : decode cX2_can 20 = .ok (.iconst 0, 1) := by decide +kernel
theorem dX2_can_21 : decode cX2_can 21 = .ok (.ireturn, 1) := by decide +kernel
theorem dX2_throughWood_0 : decode cX2_throughWood 0 = .ok (.aload_n 0, 1) := by decide +kernel
theorem dX2_throughWood_1 : decode cX2_throughWood 1 = .ok (.getfield 9, 3) := by decide +kernel
theorem dX2_throughWood_4 : decode cX2_throughWood 4 = .ok (.iload_n 1, 1) := by decide +kernel
theorem dX2_throughWood_5 : decode cX2_throughWood 5 = .ok (.iaload, 1) := by decide +kernel
theorem dX2_throughWood_6 : decode cX2_throughWood 6 = .ok (.tableswitch 41 1 3 #[26, 31, 36], 26) := by decide +kernel
theorem dX2_throughWood_32 : decode cX2_throughWood 32 = .ok (.iload_n 2, 1) := by decide +kernel
theorem dX2_throughWood_33 : decode cX2_throughWood 33 = .ok (.invokestatic 34, 3) := by decide +kernel
theorem dX2_throughWood_36 : decode cX2_throughWood 36 = .ok (.ireturn, 1) := by decide +kernel
theorem dX2_throughWood_37 : decode cX2_throughWood 37 = .ok (.iload_n 2, 1) := by decide +kernel
theorem dX2_throughWood_38 : decode cX2_throughWood 38 = .ok (.invokestatic 37, 3) := by decide +kernel
theorem dX2_throughWood_41 : decode cX2_throughWood 41 = .ok (.ireturn, 1) := by decide +kernel
theorem dX2_throughWood_42 : decode cX2_throughWood 42 = .ok (.iload_n 2, 1) := by decide +kernel
theorem dX2_throughWood_43 : decode cX2_throughWood 43 = .ok (.invokestatic 40, 3) := by decide +kernel
theorem dX2_throughWood_46 : decode cX2_throughWood 46 = .ok (.ireturn, 1) := by decide +kernel
theorem dX2_throughWood_47 : decode cX2_throughWood 47 = .ok (.iload_n 2, 1) := by decide +kernel
theorem dX2_throughWood_48 : decode cX2_throughWood 48 = .ok (.ireturn, 1) := by decide +kernel
def jn_DO_add_8_39 (μ : kbM) : Option (kbM) :=
  some μ
theorem jnR_DO_add_8_39 {l : Launch}    (μ : kbM) {Q : kbQt} {P : kbM → Prop} (hr : ∀ z : kbM, P z → Q none z) (h : kbG (jn_DO_add_8_39 μ) P) : kbR l MX2_add 1 Q 39 [none, none, none] [] μ := by
  unfold jn_DO_add_8_39 at h
  exact r_vret rfl dX2_add_39 (hr μ (kbG_some h))
def f_DO_add_8 (a1 : Int32) (a2 : Int32) (μ : kbM) : Option (kbM) :=
  if 6 ≤ (μ.1 8 2) then
    jn_DO_add_8_39 μ
  else
    kbIf (kbIn (μ.1 8 2) 6) <|
    kbIf (kbIn ((kbW μ 9 ((μ.1 8 2).toNatClampNeg) a1).1 8 2) 6) <|
    jn_DO_add_8_39 (kbW (kbW (kbW μ 9 ((μ.1 8 2).toNatClampNeg) a1) 10 (((kbW μ 9 ((μ.1 8 2).toNatClampNeg) a1).1 8 2).toNatClampNeg) a2) 8 2 (((kbW (kbW μ 9 ((μ.1 8 2).toNatClampNeg) a1) 10 (((kbW μ 9 ((μ.1 8 2).toNatClampNeg) a1).1 8 2).toNatClampNeg) a2).1 8 2) + 1))
theorem sp_DO_add_8 {l : Launch} (a1 : Int32) (a2 : Int32) (μ : kbM)  {x : kbM} (h : f_DO_add_8 a1 a2 μ = some x) : kbS l MX2_add 1 [.ref 8, .int a1, .int a2] μ (kbQe none x) := by
  refine kb_enter 0 rfl rfl ?_
  suffices H : ∀ (Q : kbQt) (P : kbM → Prop), (∀ z : kbM, P z → Q none z) → kbG (f_DO_add_8 a1 a2 μ) P → kbR l MX2_add 1 Q 0 [some (.ref 8), some (.int a1), some (.int a2)] [] μ from H _ (fun z => z = x) (fun z e => by subst e; exact ⟨rfl, rfl⟩) ⟨x, h, rfl⟩
  clear h
  intro Q P hr h
  unfold f_DO_add_8 at h
  refine r_aload_n dX2_add_0 rfl ?_
  refine r_getI flX2_18 sh8 rfl dX2_add_1 ?_
  refine r_bipush 6 dX2_add_4 (by decide) ?_
  refine r_icmp_ge 39 dX2_add_6 (by decide) (fun hc => ?_) (fun hc => ?_)
  · replace h := kbG_t hc h
    refine r_le [none, none, none] trivial ?_
    exact jnR_DO_add_8_39  μ (hr := hr) h
  · replace h := kbG_f hc h
    refine r_aload_n dX2_add_9 rfl ?_
    refine r_getR flX2_9 sh8 rfl dX2_add_10 ?_
    refine r_aload_n dX2_add_13 rfl ?_
    refine r_getI flX2_18 sh8 rfl dX2_add_14 ?_
    refine r_iload_n dX2_add_17 rfl ?_
    obtain ⟨hin, h⟩ := kbG_if h
    replace hin := kbIn_of hin
    refine q_iast ((μ.1 8 2).toNatClampNeg) rfl sh9 hin dX2_add_18 ?_
    refine r_aload_n dX2_add_19 rfl ?_
    refine r_getR flX2_15 sh8 rfl dX2_add_20 ?_
    refine r_aload_n dX2_add_23 rfl ?_
    refine r_getI flX2_18 sh8 rfl dX2_add_24 ?_
    refine r_iload_n dX2_add_27 rfl ?_
    obtain ⟨hin, h⟩ := kbG_if h
    replace hin := kbIn_of hin
    refine q_iast (((kbW μ 9 ((μ.1 8 2).toNatClampNeg) a1).1 8 2).toNatClampNeg) rfl sh10 hin dX2_add_28 ?_
    refine r_aload_n dX2_add_29 rfl ?_
    refine r_dup dX2_add_30 rfl ?_
    refine r_getI flX2_18 sh8 rfl dX2_add_31 ?_
    refine r_iconst 1 dX2_add_34 (by decide) ?_
    refine r_iadd dX2_add_35 ?_
    refine r_put flX2_18 sh8 rfl rfl rfl dX2_add_36 ?_
    refine r_le [none, none, none] trivial ?_
    exact jnR_DO_add_8_39  (kbW (kbW (kbW μ 9 ((μ.1 8 2).toNatClampNeg) a1) 10 (((kbW μ 9 ((μ.1 8 2).toNatClampNeg) a1).1 8 2).toNatClampNeg) a2) 8 2 (((kbW (kbW μ 9 ((μ.1 8 2).toNatClampNeg) a1) 10 (((kbW μ 9 ((μ.1 8 2).toNatClampNeg) a1).1 8 2).toNatClampNeg) a2).1 8 2) + 1)) (hr := hr) h
def f_DO_copyFrom_32_8 (μ : kbM) : Option (kbM) :=
  some (kbW (kbA (kbA μ 33 (va_cpy (μ.1 9) (μ.1 33) 0 0 6)) 34 (va_cpy ((kbA μ 33 (va_cpy (μ.1 9) (μ.1 33) 0 0 6)).1 10) ((kbA μ 33 (va_cpy (μ.1 9) (μ.1 33) 0 0 6)).1 34) 0 0 6)) 32 2 ((kbA (kbA μ 33 (va_cpy (μ.1 9) (μ.1 33) 0 0 6)) 34 (va_cpy ((kbA μ 33 (va_cpy (μ.1 9) (μ.1 33) 0 0 6)).1 10) ((kbA μ 33 (va_cpy (μ.1 9) (μ.1 33) 0 0 6)).1 34) 0 0 6)).1 8 2))
theorem sp_DO_copyFrom_32_8 {l : Launch} (μ : kbM)  {x : kbM} (h : f_DO_copyFrom_32_8 μ = some x) : kbS l MX2_copyFrom 1 [.ref 32, .ref 8] μ (kbQe none x) := by
  refine kb_enter 0 rfl rfl ?_
  suffices H : ∀ (Q : kbQt) (P : kbM → Prop), (∀ z : kbM, P z → Q none z) → kbG (f_DO_copyFrom_32_8 μ) P → kbR l MX2_copyFrom 1 Q 0 [some (.ref 32), some (.ref 8)] [] μ from H _ (fun z => z = x) (fun z e => by subst e; exact ⟨rfl, rfl⟩) ⟨x, h, rfl⟩
  clear h
  intro Q P hr h
  unfold f_DO_copyFrom_32_8 at h
  refine r_aload_n dX2_copyFrom_0 rfl ?_
  refine r_getR flX2_9 sh8 rfl dX2_copyFrom_1 ?_
  refine r_iconst 0 dX2_copyFrom_4 (by decide) ?_
  refine r_aload_n dX2_copyFrom_5 rfl ?_
  refine r_getR flX2_9 sh32 rfl dX2_copyFrom_6 ?_
  refine r_iconst 0 dX2_copyFrom_9 (by decide) ?_
  refine r_bipush 6 dX2_copyFrom_10 (by decide) ?_
  have hcp : kbCp 0 0 6 6 6 = true := by decide
  refine q_copy 0 0 6 (by decide) (by decide) (by decide) mlX2_22 sh9 sh33 hcp (Nat.le_of_ble_eq_true rfl) (Nat.le_of_ble_eq_true rfl) dX2_copyFrom_12 ?_
  refine r_aload_n dX2_copyFrom_15 rfl ?_
  refine r_getR flX2_15 sh8 rfl dX2_copyFrom_16 ?_
  refine r_iconst 0 dX2_copyFrom_19 (by decide) ?_
  refine r_aload_n dX2_copyFrom_20 rfl ?_
  refine r_getR flX2_15 sh32 rfl dX2_copyFrom_21 ?_
  refine r_iconst 0 dX2_copyFrom_24 (by decide) ?_
  refine r_bipush 6 dX2_copyFrom_25 (by decide) ?_
  have hcp : kbCp 0 0 6 6 6 = true := by decide
  refine q_copy 0 0 6 (by decide) (by decide) (by decide) mlX2_22 sh10 sh34 hcp (Nat.le_of_ble_eq_true rfl) (Nat.le_of_ble_eq_true rfl) dX2_copyFrom_27 ?_
  refine r_aload_n dX2_copyFrom_30 rfl ?_
  refine r_aload_n dX2_copyFrom_31 rfl ?_
  refine r_getI flX2_18 sh8 rfl dX2_copyFrom_32 ?_
  refine r_put flX2_18 sh32 rfl rfl rfl dX2_copyFrom_35 ?_
  exact r_vret rfl dX2_copyFrom_38 (hr (kbW (kbA (kbA μ 33 (va_cpy (μ.1 9) (μ.1 33) 0 0 6)) 34 (va_cpy ((kbA μ 33 (va_cpy (μ.1 9) (μ.1 33) 0 0 6)).1 10) ((kbA μ 33 (va_cpy (μ.1 9) (μ.1 33) 0 0 6)).1 34) 0 0 6)) 32 2 ((kbA (kbA μ 33 (va_cpy (μ.1 9) (μ.1 33) 0 0 6)) 34 (va_cpy ((kbA μ 33 (va_cpy (μ.1 9) (μ.1 33) 0 0 6)).1 10) ((kbA μ 33 (va_cpy (μ.1 9) (μ.1 33) 0 0 6)).1 34) 0 0 6)).1 8 2)) (kbG_some h))
def jn_DO_can_32_21 (n : Nat) (w0 : Int32) (μ : kbM) : Option (Int32) :=
  kbIf (decide (w0 = 0 ∨ w0 = 1)) <|
  some w0
theorem jnR_DO_can_32_21 {l : Launch} (n : Nat)   (w0 : Int32) (μ : kbM) {Q : kbQt} {P : Int32 → Prop} (hr : ∀ z : Int32, P z → Q (some (.int z)) μ) (h : kbG (jn_DO_can_32_21 n w0 μ) P) : kbR l MX2_can 3 Q 21 [none, none, none] [.int w0] μ := by
  unfold jn_DO_can_32_21 at h
  obtain ⟨hz, h⟩ := kbG_if h
  exact r_zret rfl (kb_z01 (of_decide_eq_true hz)) dX2_can_21 (hr w0 (kbG_some h))
def f_DO_can_32 (n : Nat) (a1 : Int32) (a2 : Int32) (μ : kbM) : Option (Int32) :=
  (f_RO_soundsIn n a2).bind fun x1 =>
  kbIf (kbIn a1 6) <|
  if (x1 &&& ((μ.1 34 a1.toNatClampNeg) ^^^ (-1))) = 0 then
    jn_DO_can_32_21 n 1 μ
  else
    jn_DO_can_32_21 n 0 μ
theorem sp_DO_can_32 {l : Launch} (n : Nat) (a1 : Int32) (a2 : Int32) (μ : kbM)  {x : Int32} (h : f_DO_can_32 n a1 a2 μ = some x) : kbS l MX2_can 3 [.ref 32, .int a1, .int a2] μ (kbQe (some (.int x)) μ) := by
  refine kb_enter 0 rfl rfl ?_
  suffices H : ∀ (Q : kbQt) (P : Int32 → Prop), (∀ z : Int32, P z → Q (some (.int z)) μ) → kbG (f_DO_can_32 n a1 a2 μ) P → kbR l MX2_can 3 Q 0 [some (.ref 32), some (.int a1), some (.int a2)] [] μ from H _ (fun z => z = x) (fun z e => by subst e; exact ⟨rfl, rfl⟩) ⟨x, h, rfl⟩
  clear h
  intro Q P hr h
  unfold f_DO_can_32 at h
  refine r_iload_n dX2_can_0 rfl ?_
  obtain ⟨x1, hx0, h⟩ := kbG_bind h
  refine r_inv_i csX2_28 (sp_RO_soundsIn n a2 μ hx0) rfl rfl (Nat.le_of_ble_eq_true rfl) (Nat.le_of_ble_eq_true rfl) dX2_can_1 ?_
  refine r_aload_n dX2_can_4 rfl ?_
  refine r_getR flX2_15 sh32 rfl dX2_can_5 ?_
  refine r_iload_n dX2_can_8 rfl ?_
  obtain ⟨hin, h⟩ := kbG_if h
  replace hin := kbIn_of hin
  refine q_iald a1.toNatClampNeg rfl sh34 hin dX2_can_9 ?_
  refine r_iconst (-1) dX2_can_10 (by decide) ?_
  refine r_ixor dX2_can_11 ?_
  refine r_iand dX2_can_12 ?_
  refine r_if_ne 20 dX2_can_13 (by decide) (fun hc => ?_) (fun hc => ?_)
  · replace h := kbG_f hc h
    refine r_iconst 0 dX2_can_20 (by decide) ?_
    refine r_le [none, none, none] trivial ?_
    exact jnR_DO_can_32_21 n 0 μ (hr := hr) h
  · replace h := kbG_t hc h
    refine r_iconst 1 dX2_can_16 (by decide) ?_
    refine r_goto 21 dX2_can_17 (by decide) ?_
    refine r_le [none, none, none] trivial ?_
    exact jnR_DO_can_32_21 n 1 μ (hr := hr) h
def f_DO_throughWood_32 (n : Nat) (a1 : Int32) (a2 : Int32) (μ : kbM) : Option (Int32) :=
  kbIf (kbIn a1 6) <|
  if (μ.1 33 a1.toNatClampNeg) = 1 then
    (f_RO_withoutLast a2).bind fun x1 =>
    some x1
  else if (μ.1 33 a1.toNatClampNeg) = 2 then
    (f_RO_withoutPalms n a2).bind fun x2 =>
    some x2
  else if (μ.1 33 a1.toNatClampNeg) = 3 then
    (f_RO_knucklesForRings n a2).bind fun x3 =>
    some x3
  else
    some a2
theorem sp_DO_throughWood_32 {l : Launch} (n : Nat) (a1 : Int32) (a2 : Int32) (μ : kbM)  {x : Int32} (h : f_DO_throughWood_32 n a1 a2 μ = some x) : kbS l MX2_throughWood 2 [.ref 32, .int a1, .int a2] μ (kbQe (some (.int x)) μ) := by
  refine kb_enter 0 rfl rfl ?_
  suffices H : ∀ (Q : kbQt) (P : Int32 → Prop), (∀ z : Int32, P z → Q (some (.int z)) μ) → kbG (f_DO_throughWood_32 n a1 a2 μ) P → kbR l MX2_throughWood 2 Q 0 [some (.ref 32), some (.int a1), some (.int a2)] [] μ from H _ (fun z => z = x) (fun z e => by subst e; exact ⟨rfl, rfl⟩) ⟨x, h, rfl⟩
  clear h
  intro Q P hr h
  unfold f_DO_throughWood_32 at h
  refine r_aload_n dX2_throughWood_0 rfl ?_
  refine r_getR flX2_9 sh32 rfl dX2_throughWood_1 ?_
  refine r_iload_n dX2_throughWood_4 rfl ?_
  obtain ⟨hin, h⟩ := kbG_if h
  replace hin := kbIn_of hin
  refine q_iald a1.toNatClampNeg rfl sh33 hin dX2_throughWood_5 ?_
  by_cases hc0 : (μ.1 33 a1.toNatClampNeg) = 1
  · replace h := kbG_t hc0 h
    refine r_tabIn 32 dX2_throughWood_6 (by rw [hc0]; decide) (by rw [hc0]; decide) (by rw [hc0]; rfl) (by decide) ?_
    refine r_iload_n dX2_throughWood_32 rfl ?_
    obtain ⟨x1, hx0, h⟩ := kbG_bind h
    refine r_inv_i csX2_34 (sp_RO_withoutLast a2 μ hx0) rfl rfl (Nat.le_of_ble_eq_true rfl) (Nat.le_of_ble_eq_true rfl) dX2_throughWood_33 ?_
    exact r_iret rfl dX2_throughWood_36 (hr x1 (kbG_some h))
  replace h := kbG_f hc0 h
  by_cases hc1 : (μ.1 33 a1.toNatClampNeg) = 2
  · replace h := kbG_t hc1 h
    refine r_tabIn 37 dX2_throughWood_6 (by rw [hc1]; decide) (by rw [hc1]; decide) (by rw [hc1]; rfl) (by decide) ?_
    refine r_iload_n dX2_throughWood_37 rfl ?_
    obtain ⟨x2, hx0, h⟩ := kbG_bind h
    refine r_inv_i csX2_37 (sp_RO_withoutPalms n a2 μ hx0) rfl rfl (Nat.le_of_ble_eq_true rfl) (Nat.le_of_ble_eq_true rfl) dX2_throughWood_38 ?_
    exact r_iret rfl dX2_throughWood_41 (hr x2 (kbG_some h))
  replace h := kbG_f hc1 h
  by_cases hc2 : (μ.1 33 a1.toNatClampNeg) = 3
  · replace h := kbG_t hc2 h
    refine r_tabIn 42 dX2_throughWood_6 (by rw [hc2]; decide) (by rw [hc2]; decide) (by rw [hc2]; rfl) (by decide) ?_
    refine r_iload_n dX2_throughWood_42 rfl ?_
    obtain ⟨x3, hx0, h⟩ := kbG_bind h
    refine r_inv_i csX2_40 (sp_RO_knucklesForRings n a2 μ hx0) rfl rfl (Nat.le_of_ble_eq_true rfl) (Nat.le_of_ble_eq_true rfl) dX2_throughWood_43 ?_
    exact r_iret rfl dX2_throughWood_46 (hr x3 (kbG_some h))
  replace h := kbG_f hc2 h
  have hD : kbR l MX2_throughWood 2 Q 47 [some (.ref 32), some (.int a1), some (.int a2)] [] μ := by
    refine r_iload_n dX2_throughWood_47 rfl ?_
    exact r_iret rfl dX2_throughWood_48 (hr a2 (kbG_some h))
  exact r_tabOut 47 dX2_throughWood_6 (kb_out fun q q1 q2 => by
    have hq : q = 1 ∨ q = 2 ∨ q = 3 := by omega
    rcases hq with rfl | rfl | rfl
    · exact hc0
    · exact hc1
    · exact hc2) (by decide) hD
