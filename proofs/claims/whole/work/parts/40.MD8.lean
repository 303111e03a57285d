theorem dX12_be_0 : decode cX12_be 0 = .ok (.iconst 0, 1) := by decide +kernel
theorem dX12_be_1 : decode cX12_be 1 = .ok (.istore_n 2, 1) := by decide +kernel
theorem dX12_be_2 : decode cX12_be 2 = .ok (.iload_n 2, 1) := by decide +kernel
theorem dX12_be_3 : decode cX12_be 3 = .ok (.aload_n 0, 1) := by decide +kernel
theorem dX12_be_4 : decode cX12_be 4 = .ok (.arraylength, 1) := by decide +kernel
theorem dX12_be_5 : decode cX12_be 5 = .ok (.if_icmp .ge 15, 3) := by decide +kernel
theorem dX12_be_8 : decode cX12_be 8 = .ok (.aload_n 0, 1) := by decide +kernel
theorem dX12_be_9 : decode cX12_be 9 = .ok (.iload_n 2, 1) := by decide +kernel
theorem dX12_be_10 : decode cX12_be 10 = .ok (.aload_n 1, 1) := by decide +kernel
theorem dX12_be_11 : decode cX12_be 11 = .ok (.iload_n 2, 1) := by decide +kernel
theorem dX12_be_12 : decode cX12_be 12 = .ok (.iaload, 1) := by decide +kernel
theorem dX12_be_13 : decode cX12_be 13 = .ok (.iastore, 1) := by decide +kernel
theorem dX12_be_14 : decode cX12_be 14 = .ok (.iinc 2 1, 3) := by decide +kernel
theorem dX12_be_17 : decode cX12_be 17 = .ok (.goto (-15), 3) := by decide +kernel
theorem dX12_be_20 : decode cX12_be 20 = .ok (.return_, 1) := by decide +kernel
theorem dX12_image_0 : decode cX12_image 0 = .ok (.aload_n 0, 1) := by decide +kernel
theorem dX12_image_1 : decode cX12_image 1 = .ok (.iconst 0, 1) := by decide +kernel
theorem dX12_image_2 : decode cX12_image 2 = .ok (.putfield 159, 3) := by decide +kernel
theorem dX12_image_5 : decode cX12_image 5 = .ok (.aload_n 0, 1) := by decide +kernel
theorem dX12_image_6 : decode cX12_image 6 = .ok (.iconst 1, 1) := by decide +kernel
theorem dX12_image_7 : decode cX12_image 7 = .ok (.putfield 314, 3) := by decide +kernel
theorem dX12_image_10 : decode cX12_image 10 = .ok (.aload_n 0, 1) := by decide +kernel
theorem dX12_image_11 : decode cX12_image 11 = .ok (.aload_n 0, 1) := by decide +kernel
theorem dX12_image_12 : decode cX12_image 12 = .ok (.getfield 308, 3) := by decide +kernel
theorem dX12_image_15 : decode cX12_image 15 = .ok (.putfield 465, 3) := by decide +kernel
theorem dX12_image_18 : decode cX12_image 18 = .ok (.aload_n 0, 1) := by decide +kernel
theorem dX12_image_19 : decode cX12_image 19 = .ok (.aload_n 0, 1) := by decide +kernel
theorem dX12_image_20 : decode cX12_image 20 = .ok (.getfield 311, 3) := by decide +kernel
theorem dX12_image_23 : decode cX12_image 23 = .ok (.putfield 468, 3) := by decide +kernel
theorem dX12_image_26 : decode cX12_image 26 = .ok (.aload_n 0, 1) := by decide +kernel
theorem dX12_image_27 : decode cX12_image 27 = .ok (.aload_n 0, 1) := by decide +kernel
theorem dX12_image_28 : decode cX12_image 28 = .ok (.getfield 144, 3) := by decide +kernel
theorem dX12_image_31 : decode cX12_image 31 = .ok (.iconst 0, 1) := by decide +kernel
theorem dX12_image_32 : decode cX12_image 32 = .ok (.invokevirtual 382, 3) := by decide +kernel
theorem dX12_image_35 : decode cX12_image 35 = .ok (.aload_n 0, 1) := by decide +kernel
theorem dX12_image_36 : decode cX12_image 36 = .ok (.getfield 147, 3) := by decide +kernel
theorem dX12_image_39 : decode cX12_image 39 = .ok (.aload_n 0, 1) := by decide +kernel
theorem dX12_image_40 : decode cX12_image 40 = .ok (.getfield 88, 3) := by decide +kernel
theorem dX12_image_43 : decode cX12_image 43 = .ok (.invokestatic 471, 3) := by decide +kernel
theorem dX12_image_46 : decode cX12_image 46 = .ok (.aload_n 0, 1) := by decide +kernel
theorem dX12_image_47 : decode cX12_image 47 = .ok (.getfield 150, 3) := by decide +kernel
theorem dX12_image_50 : decode cX12_image 50 = .ok (.aload_n 0, 1) := by decide +kernel
theorem dX12_image_51 : decode cX12_image 51 = .ok (.getfield 135, 3) := by decide +kernel
theorem dX12_image_54 : decode cX12_image 54 = .ok (.invokestatic 471, 3) := by decide +kernel
theorem dX12_image_57 : decode cX12_image 57 = .ok (.aload_n 0, 1) := by decide +kernel
theorem dX12_image_58 : decode cX12_image 58 = .ok (.getfield 153, 3) := by decide +kernel
theorem dX12_image_61 : decode cX12_image 61 = .ok (.aload_n 0, 1) := by decide +kernel
theorem dX12_image_62 : decode cX12_image 62 = .ok (.getfield 138, 3) := by decide +kernel
theorem dX12_image_65 : decode cX12_image 65 = .ok (.invokestatic 471, 3) := by decide +kernel
theorem dX12_image_68 : decode cX12_image 68 = .ok (.aload_n 0, 1) := by decide +kernel
theorem dX12_image_69 : decode cX12_image 69 = .ok (.getfield 156, 3) := by decide +kernel
theorem dX12_image_72 : decode cX12_image 72 = .ok (.aload_n 0, 1) := by decide +kernel
theorem dX12_image_73 : decode cX12_image 73 = .ok (.getfield 69, 3) := by decide +kernel
theorem dX12_image_76 : decode cX12_image 76 = .ok (.invokestatic 471, 3) := by decide +kernel
theorem dX12_image_79 : decode cX12_image 79 = .ok (.return_, 1) := by decide +kernel
theorem dX12_restore_0 : decode cX12_restore 0 = .ok (.aload_n 0, 1) := by decide +kernel
theorem dX12_restore_1 : decode cX12_restore 1 = .ok (.iconst 0, 1) := by decide +kernel
theorem dX12_restore_2 : decode cX12_restore 2 = .ok (.putfield 159, 3) := by decide +kernel
theorem dX12_restore_5 : decode cX12_restore 5 = .ok (.aload_n 0, 1) := by decide +kernel
theorem dX12_restore_6 : decode cX12_restore 6 = .ok (.getfield 314, 3) := by decide +kernel
theorem dX12_restore_9 : decode cX12_restore 9 = .ok (.ifCond .ne 5, 3) := by decide +kernel
theorem dX12_restore_12 : decode cX12_restore 12 = .ok (.iconst 0, 1) := by decide +kernel
theorem dX12_restore_13 : decode cX12_restore 13 = .ok (.ireturn, 1) := by decide +kernel
theorem dX12_restore_14 : decode cX12_restore 14 = .ok (.aload_n 0, 1) := by decide +kernel
theorem dX12_restore_15 : decode cX12_restore 15 = .ok (.aload_n 0, 1) := by decide +kernel
theorem dX12_restore_16 : decode cX12_restore 16 = .ok (.getfield 465, 3) := by decide +kernel
theorem dX12_restore_19 : decode cX12_restore 19 = .ok (.putfield 308, 3) := by decide +kernel
theorem dX12_restore_22 : decode cX12_restore 22 = .ok (.aload_n 0, 1) := by decide +kernel
theorem dX12_restore_23 : decode cX12_restore 23 = .ok (.aload_n 0, 1) := by decide +kernel
theorem dX12_restore_24 : decode cX12_restore 24 = .ok (.getfield 468, 3) := by decide +kernel
theorem dX12_restore_27 : decode cX12_restore 27 = .ok (.putfield 311, 3) := by decide +kernel
theorem dX12_restore_30 : decode cX12_restore 30 = .ok (.aload_n 0, 1) := by decide +kernel
theorem dX12_restore_31 : decode cX12_restore 31 = .ok (.aload_n 0, 1) := by decide +kernel
theorem dX12_restore_32 : decode cX12_restore 32 = .ok (.getfield 144, 3) := by decide +kernel
theorem dX12_restore_35 : decode cX12_restore 35 = .ok (.iconst 0, 1) := by decide +kernel
theorem dX12_restore_36 : decode cX12_restore 36 = .ok (.invokevirtual 399, 3) := by decide +kernel
theorem dX12_restore_39 : decode cX12_restore 39 = .ok (.aload_n 0, 1) := by decide +kernel
theorem dX12_restore_40 : decode cX12_restore 40 = .ok (.getfield 88, 3) := by decide +kernel
theorem dX12_restore_43 : decode cX12_restore 43 = .ok (.aload_n 0, 1) := by decide +kernel
theorem dX12_restore_44 : decode cX12_restore 44 = .ok (.getfield 147, 3) := by decide +kernel
theorem dX12_restore_47 : decode cX12_restore 47 = .ok (.invokestatic 471, 3) := by decide +kernel
theorem dX12_restore_50 : decode cX12_restore 50 = .ok (.aload_n 0, 1) := by decide +kernel
theorem dX12_restore_51 : decode cX12_restore 51 = .ok (.getfield 135, 3) := by decide +kernel
theorem dX12_restore_54 : decode cX12_restore 54 = .ok (.aload_n 0, 1) := by decide +kernel
theorem dX12_restore_55 : decode cX12_restore 55 = .ok (.getfield 150, 3) := by decide +kernel
theorem dX12_restore_58 : decode cX12_restore 58 = .ok (.invokestatic 471, 3) := by decide +kernel
theorem dX12_restore_61 : decode cX12_restore 61 = .ok (.aload_n 0, 1) := by decide +kernel
theorem dX12_restore_62 : decode cX12_restore 62 = .ok (.getfield 138, 3) := by decide +kernel
theorem dX12_restore_65 : decode cX12_restore 65 = .ok (.aload_n 0, 1) := by decide +kernel
theorem dX12_restore_66 : decode cX12_restore 66 = .ok (.getfield 153, 3) := by decide +kernel
theorem dX12_restore_69 : decode cX12_restore 69 = .ok (.invokestatic 471, 3) := by decide +kernel
theorem dX12_restore_72 : decode cX12_restore 72 = .ok (.aload_n 0, 1) := by decide +kernel
theorem dX12_restore_73 : decode cX12_restore 73 = .ok (.getfield 69, 3) := by decide +kernel
theorem dX12_restore_76 : decode cX12_restore 76 = .ok (.aload_n 0, 1) := by decide +kernel
theorem dX12_restore_77 : decode cX12_restore 77 = .ok (.getfield 156, 3) := by decide +kernel
theorem dX12_restore_80 : decode cX12_restore 80 = .ok (.invokestatic 471, 3) := by decide +kernel
theorem dX12_restore_83 : decode cX12_restore 83 = .ok (.iconst 1, 1) := by decide +kernel
theorem dX12_restore_84 : decode cX12_restore 84 = .ok (.ireturn, 1) := by decide +kernel
def lp_MD_pack_92_18 (n : Nat) (v2 : Int32) : Nat → Int32 → kbM → Option (kbM)
  | 0, _, _ => none
  | k + 1, v3, μ =>
    if 10 ≤ v3 then
      some μ
    else
      kbIf (kbIn v3 10) <|
      kbIf (kbIn ((v2 + 2) + v3) 32) <|
      kbIf (kbIn v3 10) <|
      kbIf (kbIn (((v2 + 2) + 10) + v3) 32) <|
      kbIf (kbIn v3 10) <|
      kbIf (kbIn (((v2 + 2) + 20) + v3) 32) <|
      lp_MD_pack_92_18 n v2 k (v3 + 1) (kbW (kbW (kbW μ 92 (((v2 + 2) + v3).toNatClampNeg) (μ.1 70 v3.toNatClampNeg)) 92 ((((v2 + 2) + 10) + v3).toNatClampNeg) ((kbW μ 92 (((v2 + 2) + v3).toNatClampNeg) (μ.1 70 v3.toNatClampNeg)).1 71 v3.toNatClampNeg)) 92 ((((v2 + 2) + 20) + v3).toNatClampNeg) ((kbW (kbW μ 92 (((v2 + 2) + v3).toNatClampNeg) (μ.1 70 v3.toNatClampNeg)) 92 ((((v2 + 2) + 10) + v3).toNatClampNeg) ((kbW μ 92 (((v2 + 2) + v3).toNatClampNeg) (μ.1 70 v3.toNatClampNeg)).1 71 v3.toNatClampNeg)).1 72 v3.toNatClampNeg))
theorem lpR_MD_pack_92_18 {l : Launch} (n : Nat) (v2 : Int32)  {Q : kbQt} {P : kbM → Prop} (hx : ∀ z : kbM, P (z) → kbR l MX12_pack 1 Q 75 [none, none, none, none] [] z) : ∀ (k : Nat) (v3 : Int32) (μ : kbM), kbG (lp_MD_pack_92_18 n v2 k v3 μ) P → kbR l MX12_pack 1 Q 18 [some (.ref 57), some (.ref 92), some (.int v2), some (.int v3)] [] μ := by
  intro k
  induction k with
  | zero => intro v3 μ h; exact absurd h kbG_none
  | succ k ih =>
    intro v3 μ h
    unfold lp_MD_pack_92_18 at h
    refine r_iload_n dX12_pack_18 rfl ?_
    refine r_bipush 10 dX12_pack_19 (by decide) ?_
    refine r_icmp_ge 75 dX12_pack_21 (by decide) (fun hc => ?_) (fun hc => ?_)
    · replace h := kbG_t hc h
      refine r_le [none, none, none, none] trivial ?_
      exact hx μ (kbG_some h)
    · replace h := kbG_f hc h
      refine r_aload_n dX12_pack_24 rfl ?_
      refine r_iload_n dX12_pack_25 rfl ?_
      refine r_iconst 2 dX12_pack_26 (by decide) ?_
      refine r_iadd dX12_pack_27 ?_
      refine r_iload_n dX12_pack_28 rfl ?_
      refine r_iadd dX12_pack_29 ?_
      refine r_aload_n dX12_pack_30 rfl ?_
      refine r_getR flX12_79 sh57 rfl dX12_pack_31 ?_
      refine r_iload_n dX12_pack_34 rfl ?_
      obtain ⟨hin, h⟩ := kbG_if h
      replace hin := kbIn_of hin
      refine q_iald v3.toNatClampNeg rfl sh70 hin dX12_pack_35 ?_
      obtain ⟨hin, h⟩ := kbG_if h
      replace hin := kbIn_of hin
      refine q_iast (((v2 + 2) + v3).toNatClampNeg) rfl sh92 hin dX12_pack_36 ?_
      refine r_aload_n dX12_pack_37 rfl ?_
      refine r_iload_n dX12_pack_38 rfl ?_
      refine r_iconst 2 dX12_pack_39 (by decide) ?_
      refine r_iadd dX12_pack_40 ?_
      refine r_bipush 10 dX12_pack_41 (by decide) ?_
      refine r_iadd dX12_pack_43 ?_
      refine r_iload_n dX12_pack_44 rfl ?_
      refine r_iadd dX12_pack_45 ?_
      refine r_aload_n dX12_pack_46 rfl ?_
      refine r_getR flX12_82 sh57 rfl dX12_pack_47 ?_
      refine r_iload_n dX12_pack_50 rfl ?_
      obtain ⟨hin, h⟩ := kbG_if h
      replace hin := kbIn_of hin
      refine q_iald v3.toNatClampNeg rfl sh71 hin dX12_pack_51 ?_
      obtain ⟨hin, h⟩ := kbG_if h
      replace hin := kbIn_of hin
      refine q_iast ((((v2 + 2) + 10) + v3).toNatClampNeg) rfl sh92 hin dX12_pack_52 ?_
      refine r_aload_n dX12_pack_53 rfl ?_
      refine r_iload_n dX12_pack_54 rfl ?_
      refine r_iconst 2 dX12_pack_55 (by decide) ?_
      refine r_iadd dX12_pack_56 ?_
      refine r_bipush 20 dX12_pack_57 (by decide) ?_
      refine r_iadd dX12_pack_59 ?_
      refine r_iload_n dX12_pack_60 rfl ?_
      refine r_iadd dX12_pack_61 ?_
      refine r_aload_n dX12_pack_62 rfl ?_
      refine r_getR flX12_85 sh57 rfl dX12_pack_63 ?_
      refine r_iload_n dX12_pack_66 rfl ?_
      obtain ⟨hin, h⟩ := kbG_if h
      replace hin := kbIn_of hin
      refine q_iald v3.toNatClampNeg rfl sh72 hin dX12_pack_67 ?_
      obtain ⟨hin, h⟩ := kbG_if h
      replace hin := kbIn_of hin
      refine q_iast ((((v2 + 2) + 20) + v3).toNatClampNeg) rfl sh92 hin dX12_pack_68 ?_
      refine r_iinc 1 dX12_pack_69 rfl (by decide) (Nat.le_of_ble_eq_true rfl) rfl ?_
      refine r_goto 18 dX12_pack_72 (by decide) ?_
      refine r_le [some (.ref 57), some (.ref 92), some (.int v2), some (.int (v3 + 1))] ⟨rfl, ⟨rfl, ⟨rfl, ⟨rfl, trivial⟩⟩⟩⟩ ?_
      exact ih (v3 + 1) (kbW (kbW (kbW μ 92 (((v2 + 2) + v3).toNatClampNeg) (μ.1 70 v3.toNatClampNeg)) 92 ((((v2 + 2) + 10) + v3).toNatClampNeg) ((kbW μ 92 (((v2 + 2) + v3).toNatClampNeg) (μ.1 70 v3.toNatClampNeg)).1 71 v3.toNatClampNeg)) 92 ((((v2 + 2) + 20) + v3).toNatClampNeg) ((kbW (kbW μ 92 (((v2 + 2) + v3).toNatClampNeg) (μ.1 70 v3.toNatClampNeg)) 92 ((((v2 + 2) + 10) + v3).toNatClampNeg) ((kbW μ 92 (((v2 + 2) + v3).toNatClampNeg) (μ.1 70 v3.toNatClampNeg)).1 71 v3.toNatClampNeg)).1 72 v3.toNatClampNeg)) h
def f_MD_pack_92 (n : Nat) (a2 : Int32) (μ : kbM) : Option (kbM) :=
  kbIf (kbIn a2 32) <|
  kbIf (kbIn (a2 + 1) 32) <|
  (lp_MD_pack_92_18 n a2 n 0 (kbW (kbW μ 92 a2.toNatClampNeg (μ.1 57 27)) 92 ((a2 + 1).toNatClampNeg) ((kbW μ 92 a2.toNatClampNeg (μ.1 57 27)).1 57 28))).bind fun x1 =>
  some x1
theorem sp_MD_pack_92 {l : Launch} (n : Nat) (a2 : Int32) (μ : kbM)  {x : kbM} (h : f_MD_pack_92 n a2 μ = some x) : kbS l MX12_pack 1 [.ref 57, .ref 92, .int a2] μ (kbQe none x) := by
  refine kb_enter 1 rfl rfl ?_
  suffices H : ∀ (Q : kbQt) (P : kbM → Prop), (∀ z : kbM, P z → Q none z) → kbG (f_MD_pack_92 n a2 μ) P → kbR l MX12_pack 1 Q 0 [some (.ref 57), some (.ref 92), some (.int a2), none] [] μ from H _ (fun z => z = x) (fun z e => by subst e; exact ⟨rfl, rfl⟩) ⟨x, h, rfl⟩
  clear h
  intro Q P hr h
  unfold f_MD_pack_92 at h
  refine r_aload_n dX12_pack_0 rfl ?_
  refine r_iload_n dX12_pack_1 rfl ?_
  refine r_aload_n dX12_pack_2 rfl ?_
  refine r_getI flX12_162 sh57 rfl dX12_pack_3 ?_
  obtain ⟨hin, h⟩ := kbG_if h
  replace hin := kbIn_of hin
  refine q_iast a2.toNatClampNeg rfl sh92 hin dX12_pack_6 ?_
  refine r_aload_n dX12_pack_7 rfl ?_
  refine r_iload_n dX12_pack_8 rfl ?_
  refine r_iconst 1 dX12_pack_9 (by decide) ?_
  refine r_iadd dX12_pack_10 ?_
  refine r_aload_n dX12_pack_11 rfl ?_
  refine r_getI flX12_305 sh57 rfl dX12_pack_12 ?_
  obtain ⟨hin, h⟩ := kbG_if h
  replace hin := kbIn_of hin
  refine q_iast ((a2 + 1).toNatClampNeg) rfl sh92 hin dX12_pack_15 ?_
  refine r_iconst 0 dX12_pack_16 (by decide) ?_
  refine r_istore_n dX12_pack_17 (Nat.le_of_ble_eq_true rfl) rfl ?_
  refine r_le [some (.ref 57), some (.ref 92), some (.int a2), some (.int 0)] ⟨rfl, ⟨rfl, ⟨rfl, ⟨rfl, trivial⟩⟩⟩⟩ ?_
  obtain ⟨x1, hx0, h⟩ := kbG_bind h
  refine lpR_MD_pack_92_18 n a2 (P := fun z => x1 = z) (hx := fun z e => ?_) n _ _ ⟨_, hx0, rfl⟩
  subst e
  exact r_vret rfl dX12_pack_75 (hr x1 (kbG_some h))
def lp_MD_be_93_73_2 (n : Nat) : Nat → Int32 → kbM → Option (kbM)
  | 0, _, _ => none
  | k + 1, v2, μ =>
    if 1280 ≤ v2 then
      some μ
    else
      kbIf (kbIn v2 1280) <|
      kbIf (kbIn v2 1280) <|
      lp_MD_be_93_73_2 n k (v2 + 1) (kbW μ 93 v2.toNatClampNeg (μ.1 73 v2.toNatClampNeg))
theorem lpR_MD_be_93_73_2 {l : Launch} (n : Nat)   {Q : kbQt} {P : kbM → Prop} (hx : ∀ z : kbM, P (z) → kbR l MX12_be 1 Q 20 [none, none, none] [] z) : ∀ (k : Nat) (v2 : Int32) (μ : kbM), kbG (lp_MD_be_93_73_2 n k v2 μ) P → kbR l MX12_be 1 Q 2 [some (.ref 93), some (.ref 73), some (.int v2)] [] μ := by
  intro k
  induction k with
  | zero => intro v2 μ h; exact absurd h kbG_none
  | succ k ih =>
    intro v2 μ h
    unfold lp_MD_be_93_73_2 at h
    refine r_iload_n dX12_be_2 rfl ?_
    refine r_aload_n dX12_be_3 rfl ?_
    refine r_alen 1280 sh93 (by decide) (by decide) dX12_be_4 ?_
    refine r_icmp_ge 20 dX12_be_5 (by decide) (fun hc => ?_) (fun hc => ?_)
    · replace h := kbG_t hc h
      refine r_le [none, none, none] trivial ?_
      exact hx μ (kbG_some h)
    · replace h := kbG_f hc h
      refine r_aload_n dX12_be_8 rfl ?_
      refine r_iload_n dX12_be_9 rfl ?_
      refine r_aload_n dX12_be_10 rfl ?_
      refine r_iload_n dX12_be_11 rfl ?_
      obtain ⟨hin, h⟩ := kbG_if h
      replace hin := kbIn_of hin
      refine q_iald v2.toNatClampNeg rfl sh73 hin dX12_be_12 ?_
      obtain ⟨hin, h⟩ := kbG_if h
      replace hin := kbIn_of hin
      refine q_iast v2.toNatClampNeg rfl sh93 hin dX12_be_13 ?_
      refine r_iinc 1 dX12_be_14 rfl (by decide) (Nat.le_of_ble_eq_true rfl) rfl ?_
      refine r_goto 2 dX12_be_17 (by decide) ?_
      refine r_le [some (.ref 93), some (.ref 73), some (.int (v2 + 1))] ⟨rfl, ⟨rfl, ⟨rfl, trivial⟩⟩⟩ ?_
      exact ih (v2 + 1) (kbW μ 93 v2.toNatClampNeg (μ.1 73 v2.toNatClampNeg)) h
def f_MD_be_93_73 (n : Nat) (μ : kbM) : Option (kbM) :=
  (lp_MD_be_93_73_2 n n 0 μ).bind fun x1 =>
  some x1
theorem sp_MD_be_93_73 {l : Launch} (n : Nat) (μ : kbM)  {x : kbM} (h : f_MD_be_93_73 n μ = some x) : kbS l MX12_be 1 [.ref 93, .ref 73] μ (kbQe none x) := by
  refine kb_enter 1 rfl rfl ?_
  suffices H : ∀ (Q : kbQt) (P : kbM → Prop), (∀ z : kbM, P z → Q none z) → kbG (f_MD_be_93_73 n μ) P → kbR l MX12_be 1 Q 0 [some (.ref 93), some (.ref 73), none] [] μ from H _ (fun z => z = x) (fun z e => by subst e; exact ⟨rfl, rfl⟩) ⟨x, h, rfl⟩
  clear h
  intro Q P hr h
  unfold f_MD_be_93_73 at h
  refine r_iconst 0 dX12_be_0 (by decide) ?_
  refine r_istore_n dX12_be_1 (Nat.le_of_ble_eq_true rfl) rfl ?_
  refine r_le [some (.ref 93), some (.ref 73), some (.int 0)] ⟨rfl, ⟨rfl, ⟨rfl, trivial⟩⟩⟩ ?_
  obtain ⟨x1, hx0, h⟩ := kbG_bind h
  refine lpR_MD_be_93_73_2 n (P := fun z => x1 = z) (hx := fun z e => ?_) n _ _ ⟨_, hx0, rfl⟩
  subst e
  exact r_vret rfl dX12_be_20 (hr x1 (kbG_some h))
def lp_MD_be_94_89_2 (n : Nat) : Nat → Int32 → kbM → Option (kbM)
  | 0, _, _ => none
  | k + 1, v2, μ =>
    if 8 ≤ v2 then
      some μ
    else
      kbIf (kbIn v2 8) <|
      kbIf (kbIn v2 8) <|
      lp_MD_be_94_89_2 n k (v2 + 1) (kbW μ 94 v2.toNatClampNeg (μ.1 89 v2.toNatClampNeg))
theorem lpR_MD_be_94_89_2 {l : Launch} (n : Nat)   {Q : kbQt} {P : kbM → Prop} (hx : ∀ z : kbM, P (z) → kbR l MX12_be 1 Q 20 [none, none, none] [] z) : ∀ (k : Nat) (v2 : Int32) (μ : kbM), kbG (lp_MD_be_94_89_2 n k v2 μ) P → kbR l MX12_be 1 Q 2 [some (.ref 94), some (.ref 89), some (.int v2)] [] μ := by
  intro k
  induction k with
  | zero => intro v2 μ h; exact absurd h kbG_none
  | succ k ih =>
    intro v2 μ h
    unfold lp_MD_be_94_89_2 at h
    refine r_iload_n dX12_be_2 rfl ?_
    refine r_aload_n dX12_be_3 rfl ?_
    refine r_alen 8 sh94 (by decide) (by decide) dX12_be_4 ?_
    refine r_icmp_ge 20 dX12_be_5 (by decide) (fun hc => ?_) (fun hc => ?_)
    · replace h := kbG_t hc h
      refine r_le [none, none, none] trivial ?_
      exact hx μ (kbG_some h)
    · replace h := kbG_f hc h
      refine r_aload_n dX12_be_8 rfl ?_
      refine r_iload_n dX12_be_9 rfl ?_
      refine r_aload_n dX12_be_10 rfl ?_
      refine r_iload_n dX12_be_11 rfl ?_
      obtain ⟨hin, h⟩ := kbG_if h
      replace hin := kbIn_of hin
      refine q_iald v2.toNatClampNeg rfl sh89 hin dX12_be_12 ?_
      obtain ⟨hin, h⟩ := kbG_if h
      replace hin := kbIn_of hin
      refine q_iast v2.toNatClampNeg rfl sh94 hin dX12_be_13 ?_
      refine r_iinc 1 dX12_be_14 rfl (by decide) (Nat.le_of_ble_eq_true rfl) rfl ?_
      refine r_goto 2 dX12_be_17 (by decide) ?_
      refine r_le [some (.ref 94), some (.ref 89), some (.int (v2 + 1))] ⟨rfl, ⟨rfl, ⟨rfl, trivial⟩⟩⟩ ?_
      exact ih (v2 + 1) (kbW μ 94 v2.toNatClampNeg (μ.1 89 v2.toNatClampNeg)) h
def f_MD_be_94_89 (n : Nat) (μ : kbM) : Option (kbM) :=
  (lp_MD_be_94_89_2 n n 0 μ).bind fun x1 =>
  some x1
theorem sp_MD_be_94_89 {l : Launch} (n : Nat) (μ : kbM)  {x : kbM} (h : f_MD_be_94_89 n μ = some x) : kbS l MX12_be 1 [.ref 94, .ref 89] μ (kbQe none x) := by
  refine kb_enter 1 rfl rfl ?_
  suffices H : ∀ (Q : kbQt) (P : kbM → Prop), (∀ z : kbM, P z → Q none z) → kbG (f_MD_be_94_89 n μ) P → kbR l MX12_be 1 Q 0 [some (.ref 94), some (.ref 89), none] [] μ from H _ (fun z => z = x) (fun z e => by subst e; exact ⟨rfl, rfl⟩) ⟨x, h, rfl⟩
  clear h
  intro Q P hr h
  unfold f_MD_be_94_89 at h
  refine r_iconst 0 dX12_be_0 (by decide) ?_
  refine r_istore_n dX12_be_1 (Nat.le_of_ble_eq_true rfl) rfl ?_
  refine r_le [some (.ref 94), some (.ref 89), some (.int 0)] ⟨rfl, ⟨rfl, ⟨rfl, trivial⟩⟩⟩ ?_
  obtain ⟨x1, hx0, h⟩ := kbG_bind h
  refine lpR_MD_be_94_89_2 n (P := fun z => x1 = z) (hx := fun z e => ?_) n _ _ ⟨_, hx0, rfl⟩
  subst e
  exact r_vret rfl dX12_be_20 (hr x1 (kbG_some h))
def lp_MD_be_95_90_2 (n : Nat) : Nat → Int32 → kbM → Option (kbM)
  | 0, _, _ => none
  | k + 1, v2, μ =>
    if 8 ≤ v2 then
      some μ
    else
      kbIf (kbIn v2 8) <|
      kbIf (kbIn v2 8) <|
      lp_MD_be_95_90_2 n k (v2 + 1) (kbW μ 95 v2.toNatClampNeg (μ.1 90 v2.toNatClampNeg))
theorem lpR_MD_be_95_90_2 {l : Launch} (n : Nat)   {Q : kbQt} {P : kbM → Prop} (hx : ∀ z : kbM, P (z) → kbR l MX12_be 1 Q 20 [none, none, none] [] z) : ∀ (k : Nat) (v2 : Int32) (μ : kbM), kbG (lp_MD_be_95_90_2 n k v2 μ) P → kbR l MX12_be 1 Q 2 [some (.ref 95), some (.ref 90), some (.int v2)] [] μ := by
  intro k
  induction k with
  | zero => intro v2 μ h; exact absurd h kbG_none
  | succ k ih =>
    intro v2 μ h
    unfold lp_MD_be_95_90_2 at h
    refine r_iload_n dX12_be_2 rfl ?_
    refine r_aload_n dX12_be_3 rfl ?_
    refine r_alen 8 sh95 (by decide) (by decide) dX12_be_4 ?_
    refine r_icmp_ge 20 dX12_be_5 (by decide) (fun hc => ?_) (fun hc => ?_)
    · replace h := kbG_t hc h
      refine r_le [none, none, none] trivial ?_
      exact hx μ (kbG_some h)
    · replace h := kbG_f hc h
      refine r_aload_n dX12_be_8 rfl ?_
      refine r_iload_n dX12_be_9 rfl ?_
      refine r_aload_n dX12_be_10 rfl ?_
      refine r_iload_n dX12_be_11 rfl ?_
      obtain ⟨hin, h⟩ := kbG_if h
      replace hin := kbIn_of hin
      refine q_iald v2.toNatClampNeg rfl sh90 hin dX12_be_12 ?_
      obtain ⟨hin, h⟩ := kbG_if h
      replace hin := kbIn_of hin
      refine q_iast v2.toNatClampNeg rfl sh95 hin dX12_be_13 ?_
      refine r_iinc 1 dX12_be_14 rfl (by decide) (Nat.le_of_ble_eq_true rfl) rfl ?_
      refine r_goto 2 dX12_be_17 (by decide) ?_
      refine r_le [some (.ref 95), some (.ref 90), some (.int (v2 + 1))] ⟨rfl, ⟨rfl, ⟨rfl, trivial⟩⟩⟩ ?_
      exact ih (v2 + 1) (kbW μ 95 v2.toNatClampNeg (μ.1 90 v2.toNatClampNeg)) h
def f_MD_be_95_90 (n : Nat) (μ : kbM) : Option (kbM) :=
  (lp_MD_be_95_90_2 n n 0 μ).bind fun x1 =>
  some x1
theorem sp_MD_be_95_90 {l : Launch} (n : Nat) (μ : kbM)  {x : kbM} (h : f_MD_be_95_90 n μ = some x) : kbS l MX12_be 1 [.ref 95, .ref 90] μ (kbQe none x) := by
  refine kb_enter 1 rfl rfl ?_
  suffices H : ∀ (Q : kbQt) (P : kbM → Prop), (∀ z : kbM, P z → Q none z) → kbG (f_MD_be_95_90 n μ) P → kbR l MX12_be 1 Q 0 [some (.ref 95), some (.ref 90), none] [] μ from H _ (fun z => z = x) (fun z e => by subst e; exact ⟨rfl, rfl⟩) ⟨x, h, rfl⟩
  clear h
  intro Q P hr h
  unfold f_MD_be_95_90 at h
  refine r_iconst 0 dX12_be_0 (by decide) ?_
  refine r_istore_n dX12_be_1 (Nat.le_of_ble_eq_true rfl) rfl ?_
  refine r_le [some (.ref 95), some (.ref 90), some (.int 0)] ⟨rfl, ⟨rfl, ⟨rfl, trivial⟩⟩⟩ ?_
  obtain ⟨x1, hx0, h⟩ := kbG_bind h
  refine lpR_MD_be_95_90_2 n (P := fun z => x1 = z) (hx := fun z e => ?_) n _ _ ⟨_, hx0, rfl⟩
  subst e
  exact r_vret rfl dX12_be_20 (hr x1 (kbG_some h))
def lp_MD_be_96_68_2 (n : Nat) : Nat → Int32 → kbM → Option (kbM)
  | 0, _, _ => none
  | k + 1, v2, μ =>
    if 3 ≤ v2 then
      some μ
    else
      kbIf (kbIn v2 3) <|
      kbIf (kbIn v2 3) <|
      lp_MD_be_96_68_2 n k (v2 + 1) (kbW μ 96 v2.toNatClampNeg (μ.1 68 v2.toNatClampNeg))
theorem lpR_MD_be_96_68_2 {l : Launch} (n : Nat)   {Q : kbQt} {P : kbM → Prop} (hx : ∀ z : kbM, P (z) → kbR l MX12_be 1 Q 20 [none, none, none] [] z) : ∀ (k : Nat) (v2 : Int32) (μ : kbM), kbG (lp_MD_be_96_68_2 n k v2 μ) P → kbR l MX12_be 1 Q 2 [some (.ref 96), some (.ref 68), some (.int v2)] [] μ := by
  intro k
  induction k with
  | zero => intro v2 μ h; exact absurd h kbG_none
  | succ k ih =>
    intro v2 μ h
    unfold lp_MD_be_96_68_2 at h
    refine r_iload_n dX12_be_2 rfl ?_
    refine r_aload_n dX12_be_3 rfl ?_
    refine r_alen 3 sh96 (by decide) (by decide) dX12_be_4 ?_
    refine r_icmp_ge 20 dX12_be_5 (by decide) (fun hc => ?_) (fun hc => ?_)
    · replace h := kbG_t hc h
      refine r_le [none, none, none] trivial ?_
      exact hx μ (kbG_some h)
    · replace h := kbG_f hc h
      refine r_aload_n dX12_be_8 rfl ?_
      refine r_iload_n dX12_be_9 rfl ?_
      refine r_aload_n dX12_be_10 rfl ?_
      refine r_iload_n dX12_be_11 rfl ?_
      obtain ⟨hin, h⟩ := kbG_if h
      replace hin := kbIn_of hin
      refine q_iald v2.toNatClampNeg rfl sh68 hin dX12_be_12 ?_
      obtain ⟨hin, h⟩ := kbG_if h
      replace hin := kbIn_of hin
      refine q_iast v2.toNatClampNeg rfl sh96 hin dX12_be_13 ?_
      refine r_iinc 1 dX12_be_14 rfl (by decide) (Nat.le_of_ble_eq_true rfl) rfl ?_
      refine r_goto 2 dX12_be_17 (by decide) ?_
      refine r_le [some (.ref 96), some (.ref 68), some (.int (v2 + 1))] ⟨rfl, ⟨rfl, ⟨rfl, trivial⟩⟩⟩ ?_
      exact ih (v2 + 1) (kbW μ 96 v2.toNatClampNeg (μ.1 68 v2.toNatClampNeg)) h
def f_MD_be_96_68 (n : Nat) (μ : kbM) : Option (kbM) :=
  (lp_MD_be_96_68_2 n n 0 μ).bind fun x1 =>
  some x1
theorem sp_MD_be_96_68 {l : Launch} (n : Nat) (μ : kbM)  {x : kbM} (h : f_MD_be_96_68 n μ = some x) : kbS l MX12_be 1 [.ref 96, .ref 68] μ (kbQe none x) := by
  refine kb_enter 1 rfl rfl ?_
  suffices H : ∀ (Q : kbQt) (P : kbM → Prop), (∀ z : kbM, P z → Q none z) → kbG (f_MD_be_96_68 n μ) P → kbR l MX12_be 1 Q 0 [some (.ref 96), some (.ref 68), none] [] μ from H _ (fun z => z = x) (fun z e => by subst e; exact ⟨rfl, rfl⟩) ⟨x, h, rfl⟩
  clear h
  intro Q P hr h
  unfold f_MD_be_96_68 at h
  refine r_iconst 0 dX12_be_0 (by decide) ?_
  refine r_istore_n dX12_be_1 (Nat.le_of_ble_eq_true rfl) rfl ?_
  refine r_le [some (.ref 96), some (.ref 68), some (.int 0)] ⟨rfl, ⟨rfl, ⟨rfl, trivial⟩⟩⟩ ?_
  obtain ⟨x1, hx0, h⟩ := kbG_bind h
  refine lpR_MD_be_96_68_2 n (P := fun z => x1 = z) (hx := fun z e => ?_) n _ _ ⟨_, hx0, rfl⟩
  subst e
  exact r_vret rfl dX12_be_20 (hr x1 (kbG_some h))
def f_MD_image (n : Nat) (μ : kbM) : Option (kbM) :=
  (f_MD_pack_92 n 0 (kbW (kbW (kbW (kbW μ 57 3 0) 57 52 1) 57 53 ((kbW (kbW μ 57 3 0) 57 52 1).1 57 29)) 57 54 ((kbW (kbW (kbW μ 57 3 0) 57 52 1) 57 53 ((kbW (kbW μ 57 3 0) 57 52 1).1 57 29)).1 57 30))).bind fun x1 =>
  (f_MD_be_93_73 n x1).bind fun x2 =>
  (f_MD_be_94_89 n x2).bind fun x3 =>
  (f_MD_be_95_90 n x3).bind fun x4 =>
  (f_MD_be_96_68 n x4).bind fun x5 =>
  some x5
theorem sp_MD_image {l : Launch} (n : Nat) (μ : kbM)  {x : kbM} (h : f_MD_image n μ = some x) : kbS l MX12_image 2 [.ref 57] μ (kbQe none x) := by
  refine kb_enter 0 rfl rfl ?_
  suffices H : ∀ (Q : kbQt) (P : kbM → Prop), (∀ z : kbM, P z → Q none z) → kbG (f_MD_image n μ) P → kbR l MX12_image 2 Q 0 [some (.ref 57)] [] μ from H _ (fun z => z = x) (fun z e => by subst e; exact ⟨rfl, rfl⟩) ⟨x, h, rfl⟩
  clear h
  intro Q P hr h
  unfold f_MD_image at h
  refine r_aload_n dX12_image_0 rfl ?_
  refine r_iconst 0 dX12_image_1 (by decide) ?_
  refine r_put flX12_159 sh57 rfl rfl rfl dX12_image_2 ?_
  refine r_aload_n dX12_image_5 rfl ?_
  refine r_iconst 1 dX12_image_6 (by decide) ?_
  refine r_put flX12_314 sh57 rfl rfl rfl dX12_image_7 ?_
  refine r_aload_n dX12_image_10 rfl ?_
  refine r_aload_n dX12_image_11 rfl ?_
  refine r_getI flX12_308 sh57 rfl dX12_image_12 ?_
  refine r_put flX12_465 sh57 rfl rfl rfl dX12_image_15 ?_
  refine r_aload_n dX12_image_18 rfl ?_
  refine r_aload_n dX12_image_19 rfl ?_
  refine r_getI flX12_311 sh57 rfl dX12_image_20 ?_
  refine r_put flX12_468 sh57 rfl rfl rfl dX12_image_23 ?_
  refine r_aload_n dX12_image_26 rfl ?_
  refine r_aload_n dX12_image_27 rfl ?_
  refine r_getR flX12_144 sh57 rfl dX12_image_28 ?_
  refine r_iconst 0 dX12_image_31 (by decide) ?_
  obtain ⟨x1, hx0, h⟩ := kbG_bind h
  refine r_invV_v cvX12_382 sh57 rfl (sp_MD_pack_92 n 0 (kbW (kbW (kbW (kbW μ 57 3 0) 57 52 1) 57 53 ((kbW (kbW μ 57 3 0) 57 52 1).1 57 29)) 57 54 ((kbW (kbW (kbW μ 57 3 0) 57 52 1) 57 53 ((kbW (kbW μ 57 3 0) 57 52 1).1 57 29)).1 57 30)) hx0) rfl rfl (Nat.le_of_ble_eq_true rfl) (Nat.le_of_ble_eq_true rfl) dX12_image_32 ?_
  refine r_aload_n dX12_image_35 rfl ?_
  refine r_getR flX12_147 sh57 rfl dX12_image_36 ?_
  refine r_aload_n dX12_image_39 rfl ?_
  refine r_getR flX12_88 sh57 rfl dX12_image_40 ?_
  obtain ⟨x2, hx0, h⟩ := kbG_bind h
  refine r_inv_v csX12_471 (sp_MD_be_93_73 n x1 hx0) rfl rfl (Nat.le_of_ble_eq_true rfl) (Nat.le_of_ble_eq_true rfl) dX12_image_43 ?_
  refine r_aload_n dX12_image_46 rfl ?_
  refine r_getR flX12_150 sh57 rfl dX12_image_47 ?_
  refine r_aload_n dX12_image_50 rfl ?_
  refine r_getR flX12_135 sh57 rfl dX12_image_51 ?_
  obtain ⟨x3, hx0, h⟩ := kbG_bind h
  refine r_inv_v csX12_471 (sp_MD_be_94_89 n x2 hx0) rfl rfl (Nat.le_of_ble_eq_true rfl) (Nat.le_of_ble_eq_true rfl) dX12_image_54 ?_
  refine r_aload_n dX12_image_57 rfl ?_
  refine r_getR flX12_153 sh57 rfl dX12_image_58 ?_
  refine r_aload_n dX12_image_61 rfl ?_
  refine r_getR flX12_138 sh57 rfl dX12_image_62 ?_
  obtain ⟨x4, hx0, h⟩ := kbG_bind h
  refine r_inv_v csX12_471 (sp_MD_be_95_90 n x3 hx0) rfl rfl (Nat.le_of_ble_eq_true rfl) (Nat.le_of_ble_eq_true rfl) dX12_image_65 ?_
  refine r_aload_n dX12_image_68 rfl ?_
  refine r_getR flX12_156 sh57 rfl dX12_image_69 ?_
  refine r_aload_n dX12_image_72 rfl ?_
  refine r_getR flX12_69 sh57 rfl dX12_image_73 ?_
  obtain ⟨x5, hx0, h⟩ := kbG_bind h
  refine r_inv_v csX12_471 (sp_MD_be_96_68 n x4 hx0) rfl rfl (Nat.le_of_ble_eq_true rfl) (Nat.le_of_ble_eq_true rfl) dX12_image_76 ?_
  exact r_vret rfl dX12_image_79 (hr x5 (kbG_some h))
def lp_MD_unpack_92_18 (n : Nat) (v2 : Int32) : Nat → Int32 → kbM → Option (kbM)
  | 0, _, _ => none
  | k + 1, v3, μ =>
    if 10 ≤ v3 then
      some μ
    else
      kbIf (kbIn ((v2 + 2) + v3) 32) <|
      kbIf (kbIn v3 10) <|
      kbIf (kbIn (((v2 + 2) + 10) + v3) 32) <|
      kbIf (kbIn v3 10) <|
      kbIf (kbIn (((v2 + 2) + 20) + v3) 32) <|
      kbIf (kbIn v3 10) <|
      lp_MD_unpack_92_18 n v2 k (v3 + 1) (kbW (kbW (kbW μ 70 v3.toNatClampNeg (μ.1 92 (((v2 + 2) + v3).toNatClampNeg))) 71 v3.toNatClampNeg ((kbW μ 70 v3.toNatClampNeg (μ.1 92 (((v2 + 2) + v3).toNatClampNeg))).1 92 ((((v2 + 2) + 10) + v3).toNatClampNeg))) 72 v3.toNatClampNeg ((kbW (kbW μ 70 v3.toNatClampNeg (μ.1 92 (((v2 + 2) + v3).toNatClampNeg))) 71 v3.toNatClampNeg ((kbW μ 70 v3.toNatClampNeg (μ.1 92 (((v2 + 2) + v3).toNatClampNeg))).1 92 ((((v2 + 2) + 10) + v3).toNatClampNeg))).1 92 ((((v2 + 2) + 20) + v3).toNatClampNeg)))
theorem lpR_MD_unpack_92_18 {l : Launch} (n : Nat) (v2 : Int32)  {Q : kbQt} {P : kbM → Prop} (hx : ∀ z : kbM, P (z) → kbR l MX12_unpack 1 Q 75 [none, none, none, none] [] z) : ∀ (k : Nat) (v3 : Int32) (μ : kbM), kbG (lp_MD_unpack_92_18 n v2 k v3 μ) P → kbR l MX12_unpack 1 Q 18 [some (.ref 57), some (.ref 92), some (.int v2), some (.int v3)] [] μ := by
  intro k
  induction k with
  | zero => intro v3 μ h; exact absurd h kbG_none
  | succ k ih =>
    intro v3 μ h
    unfold lp_MD_unpack_92_18 at h
    refine r_iload_n dX12_unpack_18 rfl ?_
    refine r_bipush 10 dX12_unpack_19 (by decide) ?_
    refine r_icmp_ge 75 dX12_unpack_21 (by decide) (fun hc => ?_) (fun hc => ?_)
    · replace h := kbG_t hc h
      refine r_le [none, none, none, none] trivial ?_
      exact hx μ (kbG_some h)
    · replace h := kbG_f hc h
      refine r_aload_n dX12_unpack_24 rfl ?_
      refine r_getR flX12_79 sh57 rfl dX12_unpack_25 ?_
      refine r_iload_n dX12_unpack_28 rfl ?_
      refine r_aload_n dX12_unpack_29 rfl ?_
      refine r_iload_n dX12_unpack_30 rfl ?_
      refine r_iconst 2 dX12_unpack_31 (by decide) ?_
      refine r_iadd dX12_unpack_32 ?_
      refine r_iload_n dX12_unpack_33 rfl ?_
      refine r_iadd dX12_unpack_34 ?_
      obtain ⟨hin, h⟩ := kbG_if h
      replace hin := kbIn_of hin
      refine q_iald (((v2 + 2) + v3).toNatClampNeg) rfl sh92 hin dX12_unpack_35 ?_
      obtain ⟨hin, h⟩ := kbG_if h
      replace hin := kbIn_of hin
      refine q_iast v3.toNatClampNeg rfl sh70 hin dX12_unpack_36 ?_
      refine r_aload_n dX12_unpack_37 rfl ?_
      refine r_getR flX12_82 sh57 rfl dX12_unpack_38 ?_
      refine r_iload_n dX12_unpack_41 rfl ?_
      refine r_aload_n dX12_unpack_42 rfl ?_
      refine r_iload_n dX12_unpack_43 rfl ?_
      refine r_iconst 2 dX12_unpack_44 (by decide) ?_
      refine r_iadd dX12_unpack_45 ?_
      refine r_bipush 10 dX12_unpack_46 (by decide) ?_
      refine r_iadd dX12_unpack_48 ?_
      refine r_iload_n dX12_unpack_49 rfl ?_
      refine r_iadd dX12_unpack_50 ?_
      obtain ⟨hin, h⟩ := kbG_if h
      replace hin := kbIn_of hin
      refine q_iald ((((v2 + 2) + 10) + v3).toNatClampNeg) rfl sh92 hin dX12_unpack_51 ?_
      obtain ⟨hin, h⟩ := kbG_if h
      replace hin := kbIn_of hin
      refine q_iast v3.toNatClampNeg rfl sh71 hin dX12_unpack_52 ?_
      refine r_aload_n dX12_unpack_53 rfl ?_
      refine r_getR flX12_85 sh57 rfl dX12_unpack_54 ?_
      refine r_iload_n dX12_unpack_57 rfl ?_
      refine r_aload_n dX12_unpack_58 rfl ?_
      refine r_iload_n dX12_unpack_59 rfl ?_
      refine r_iconst 2 dX12_unpack_60 (by decide) ?_
      refine r_iadd dX12_unpack_61 ?_
      refine r_bipush 20 dX12_unpack_62 (by decide) ?_
      refine r_iadd dX12_unpack_64 ?_
      refine r_iload_n dX12_unpack_65 rfl ?_
      refine r_iadd dX12_unpack_66 ?_
      obtain ⟨hin, h⟩ := kbG_if h
      replace hin := kbIn_of hin
      refine q_iald ((((v2 + 2) + 20) + v3).toNatClampNeg) rfl sh92 hin dX12_unpack_67 ?_
      obtain ⟨hin, h⟩ := kbG_if h
      replace hin := kbIn_of hin
      refine q_iast v3.toNatClampNeg rfl sh72 hin dX12_unpack_68 ?_
      refine r_iinc 1 dX12_unpack_69 rfl (by decide) (Nat.le_of_ble_eq_true rfl) rfl ?_
      refine r_goto 18 dX12_unpack_72 (by decide) ?_
      refine r_le [some (.ref 57), some (.ref 92), some (.int v2), some (.int (v3 + 1))] ⟨rfl, ⟨rfl, ⟨rfl, ⟨rfl, trivial⟩⟩⟩⟩ ?_
      exact ih (v3 + 1) (kbW (kbW (kbW μ 70 v3.toNatClampNeg (μ.1 92 (((v2 + 2) + v3).toNatClampNeg))) 71 v3.toNatClampNeg ((kbW μ 70 v3.toNatClampNeg (μ.1 92 (((v2 + 2) + v3).toNatClampNeg))).1 92 ((((v2 + 2) + 10) + v3).toNatClampNeg))) 72 v3.toNatClampNeg ((kbW (kbW μ 70 v3.toNatClampNeg (μ.1 92 (((v2 + 2) + v3).toNatClampNeg))) 71 v3.toNatClampNeg ((kbW μ 70 v3.toNatClampNeg (μ.1 92 (((v2 + 2) + v3).toNatClampNeg))).1 92 ((((v2 + 2) + 10) + v3).toNatClampNeg))).1 92 ((((v2 + 2) + 20) + v3).toNatClampNeg))) h
def f_MD_unpack_92 (n : Nat) (a2 : Int32) (μ : kbM) : Option (kbM) :=
  kbIf (kbIn a2 32) <|
  kbIf (kbIn (a2 + 1) 32) <|
  (lp_MD_unpack_92_18 n a2 n 0 (kbW (kbW μ 57 27 (μ.1 92 a2.toNatClampNeg)) 57 28 ((kbW μ 57 27 (μ.1 92 a2.toNatClampNeg)).1 92 ((a2 + 1).toNatClampNeg)))).bind fun x1 =>
  some x1
theorem sp_MD_unpack_92 {l : Launch} (n : Nat) (a2 : Int32) (μ : kbM)  {x : kbM} (h : f_MD_unpack_92 n a2 μ = some x) : kbS l MX12_unpack 1 [.ref 57, .ref 92, .int a2] μ (kbQe none x) := by
  refine kb_enter 1 rfl rfl ?_
  suffices H : ∀ (Q : kbQt) (P : kbM → Prop), (∀ z : kbM, P z → Q none z) → kbG (f_MD_unpack_92 n a2 μ) P → kbR l MX12_unpack 1 Q 0 [some (.ref 57), some (.ref 92), some (.int a2), none] [] μ from H _ (fun z => z = x) (fun z e => by subst e; exact ⟨rfl, rfl⟩) ⟨x, h, rfl⟩
  clear h
  intro Q P hr h
  unfold f_MD_unpack_92 at h
  refine r_aload_n dX12_unpack_0 rfl ?_
  refine r_aload_n dX12_unpack_1 rfl ?_
  refine r_iload_n dX12_unpack_2 rfl ?_
  obtain ⟨hin, h⟩ := kbG_if h
  replace hin := kbIn_of hin
  refine q_iald a2.toNatClampNeg rfl sh92 hin dX12_unpack_3 ?_
  refine r_put flX12_162 sh57 rfl rfl rfl dX12_unpack_4 ?_
  refine r_aload_n dX12_unpack_7 rfl ?_
  refine r_aload_n dX12_unpack_8 rfl ?_
  refine r_iload_n dX12_unpack_9 rfl ?_
  refine r_iconst 1 dX12_unpack_10 (by decide) ?_
  refine r_iadd dX12_unpack_11 ?_
  obtain ⟨hin, h⟩ := kbG_if h
  replace hin := kbIn_of hin
  refine q_iald ((a2 + 1).toNatClampNeg) rfl sh92 hin dX12_unpack_12 ?_
  refine r_put flX12_305 sh57 rfl rfl rfl dX12_unpack_13 ?_
  refine r_iconst 0 dX12_unpack_16 (by decide) ?_
  refine r_istore_n dX12_unpack_17 (Nat.le_of_ble_eq_true rfl) rfl ?_
  refine r_le [some (.ref 57), some (.ref 92), some (.int a2), some (.int 0)] ⟨rfl, ⟨rfl, ⟨rfl, ⟨rfl, trivial⟩⟩⟩⟩ ?_
  obtain ⟨x1, hx0, h⟩ := kbG_bind h
  refine lpR_MD_unpack_92_18 n a2 (P := fun z => x1 = z) (hx := fun z e => ?_) n _ _ ⟨_, hx0, rfl⟩
  subst e
  exact r_vret rfl dX12_unpack_75 (hr x1 (kbG_some h))
def lp_MD_be_73_93_2 (n : Nat) : Nat → Int32 → kbM → Option (kbM)
  | 0, _, _ => none
  | k + 1, v2, μ =>
    if 1280 ≤ v2 then
      some μ
    else
      kbIf (kbIn v2 1280) <|
      kbIf (kbIn v2 1280) <|
      lp_MD_be_73_93_2 n k (v2 + 1) (kbW μ 73 v2.toNatClampNeg (μ.1 93 v2.toNatClampNeg))
theorem lpR_MD_be_73_93_2 {l : Launch} (n : Nat)   {Q : kbQt} {P : kbM → Prop} (hx : ∀ z : kbM, P (z) → kbR l MX12_be 1 Q 20 [none, none, none] [] z) : ∀ (k : Nat) (v2 : Int32) (μ : kbM), kbG (lp_MD_be_73_93_2 n k v2 μ) P → kbR l MX12_be 1 Q 2 [some (.ref 73), some (.ref 93), some (.int v2)] [] μ := by
  intro k
  induction k with
  | zero => intro v2 μ h; exact absurd h kbG_none
  | succ k ih =>
    intro v2 μ h
    unfold lp_MD_be_73_93_2 at h
    refine r_iload_n dX12_be_2 rfl ?_
    refine r_aload_n dX12_be_3 rfl ?_
    refine r_alen 1280 sh73 (by decide) (by decide) dX12_be_4 ?_
    refine r_icmp_ge 20 dX12_be_5 (by decide) (fun hc => ?_) (fun hc => ?_)
    · replace h := kbG_t hc h
      refine r_le [none, none, none] trivial ?_
      exact hx μ (kbG_some h)
    · replace h := kbG_f hc h
      refine r_aload_n dX12_be_8 rfl ?_
      refine r_iload_n dX12_be_9 rfl ?_
      refine r_aload_n dX12_be_10 rfl ?_
      refine r_iload_n dX12_be_11 rfl ?_
      obtain ⟨hin, h⟩ := kbG_if h
      replace hin := kbIn_of hin
      refine q_iald v2.toNatClampNeg rfl sh93 hin dX12_be_12 ?_
      obtain ⟨hin, h⟩ := kbG_if h
      replace hin := kbIn_of hin
      refine q_iast v2.toNatClampNeg rfl sh73 hin dX12_be_13 ?_
      refine r_iinc 1 dX12_be_14 rfl (by decide) (Nat.le_of_ble_eq_true rfl) rfl ?_
      refine r_goto 2 dX12_be_17 (by decide) ?_
      refine r_le [some (.ref 73), some (.ref 93), some (.int (v2 + 1))] ⟨rfl, ⟨rfl, ⟨rfl, trivial⟩⟩⟩ ?_
      exact ih (v2 + 1) (kbW μ 73 v2.toNatClampNeg (μ.1 93 v2.toNatClampNeg)) h
def f_MD_be_73_93 (n : Nat) (μ : kbM) : Option (kbM) :=
  (lp_MD_be_73_93_2 n n 0 μ).bind fun x1 =>
  some x1
theorem sp_MD_be_73_93 {l : Launch} (n : Nat) (μ : kbM)  {x : kbM} (h : f_MD_be_73_93 n μ = some x) : kbS l MX12_be 1 [.ref 73, .ref 93] μ (kbQe none x) := by
  refine kb_enter 1 rfl rfl ?_
  suffices H : ∀ (Q : kbQt) (P : kbM → Prop), (∀ z : kbM, P z → Q none z) → kbG (f_MD_be_73_93 n μ) P → kbR l MX12_be 1 Q 0 [some (.ref 73), some (.ref 93), none] [] μ from H _ (fun z => z = x) (fun z e => by subst e; exact ⟨rfl, rfl⟩) ⟨x, h, rfl⟩
  clear h
  intro Q P hr h
  unfold f_MD_be_73_93 at h
  refine r_iconst 0 dX12_be_0 (by decide) ?_
  refine r_istore_n dX12_be_1 (Nat.le_of_ble_eq_true rfl) rfl ?_
  refine r_le [some (.ref 73), some (.ref 93), some (.int 0)] ⟨rfl, ⟨rfl, ⟨rfl, trivial⟩⟩⟩ ?_
  obtain ⟨x1, hx0, h⟩ := kbG_bind h
  refine lpR_MD_be_73_93_2 n (P := fun z => x1 = z) (hx := fun z e => ?_) n _ _ ⟨_, hx0, rfl⟩
  subst e
  exact r_vret rfl dX12_be_20 (hr x1 (kbG_some h))
def lp_MD_be_89_94_2 (n : Nat) : Nat → Int32 → kbM → Option (kbM)
  | 0, _, _ => none
  | k + 1, v2, μ =>
    if 8 ≤ v2 then
      some μ
    else
      kbIf (kbIn v2 8) <|
      kbIf (kbIn v2 8) <|
      lp_MD_be_89_94_2 n k (v2 + 1) (kbW μ 89 v2.toNatClampNeg (μ.1 94 v2.toNatClampNeg))
theorem lpR_MD_be_89_94_2 {l : Launch} (n : Nat)   {Q : kbQt} {P : kbM → Prop} (hx : ∀ z : kbM, P (z) → kbR l MX12_be 1 Q 20 [none, none, none] [] z) : ∀ (k : Nat) (v2 : Int32) (μ : kbM), kbG (lp_MD_be_89_94_2 n k v2 μ) P → kbR l MX12_be 1 Q 2 [some (.ref 89), some (.ref 94), some (.int v2)] [] μ := by
  intro k
  induction k with
  | zero => intro v2 μ h; exact absurd h kbG_none
  | succ k ih =>
    intro v2 μ h
    unfold lp_MD_be_89_94_2 at h
    refine r_iload_n dX12_be_2 rfl ?_
    refine r_aload_n dX12_be_3 rfl ?_
    refine r_alen 8 sh89 (by decide) (by decide) dX12_be_4 ?_
    refine r_icmp_ge 20 dX12_be_5 (by decide) (fun hc => ?_) (fun hc => ?_)
    · replace h := kbG_t hc h
      refine r_le [none, none, none] trivial ?_
      exact hx μ (kbG_some h)
    · replace h := kbG_f hc h
      refine r_aload_n dX12_be_8 rfl ?_
      refine r_iload_n dX12_be_9 rfl ?_
      refine r_aload_n dX12_be_10 rfl ?_
      refine r_iload_n dX12_be_11 rfl ?_
      obtain ⟨hin, h⟩ := kbG_if h
      replace hin := kbIn_of hin
      refine q_iald v2.toNatClampNeg rfl sh94 hin dX12_be_12 ?_
      obtain ⟨hin, h⟩ := kbG_if h
      replace hin := kbIn_of hin
      refine q_iast v2.toNatClampNeg rfl sh89 hin dX12_be_13 ?_
      refine r_iinc 1 dX12_be_14 rfl (by decide) (Nat.le_of_ble_eq_true rfl) rfl ?_
      refine r_goto 2 dX12_be_17 (by decide) ?_
      refine r_le [some (.ref 89), some (.ref 94), some (.int (v2 + 1))] ⟨rfl, ⟨rfl, ⟨rfl, trivial⟩⟩⟩ ?_
      exact ih (v2 + 1) (kbW μ 89 v2.toNatClampNeg (μ.1 94 v2.toNatClampNeg)) h
def f_MD_be_89_94 (n : Nat) (μ : kbM) : Option (kbM) :=
  (lp_MD_be_89_94_2 n n 0 μ).bind fun x1 =>
  some x1
theorem sp_MD_be_89_94 {l : Launch} (n : Nat) (μ : kbM)  {x : kbM} (h : f_MD_be_89_94 n μ = some x) : kbS l MX12_be 1 [.ref 89, .ref 94] μ (kbQe none x) := by
  refine kb_enter 1 rfl rfl ?_
  suffices H : ∀ (Q : kbQt) (P : kbM → Prop), (∀ z : kbM, P z → Q none z) → kbG (f_MD_be_89_94 n μ) P → kbR l MX12_be 1 Q 0 [some (.ref 89), some (.ref 94), none] [] μ from H _ (fun z => z = x) (fun z e => by subst e; exact ⟨rfl, rfl⟩) ⟨x, h, rfl⟩
  clear h
  intro Q P hr h
  unfold f_MD_be_89_94 at h
  refine r_iconst 0 dX12_be_0 (by decide) ?_
  refine r_istore_n dX12_be_1 (Nat.le_of_ble_eq_true rfl) rfl ?_
  refine r_le [some (.ref 89), some (.ref 94), some (.int 0)] ⟨rfl, ⟨rfl, ⟨rfl, trivial⟩⟩⟩ ?_
  obtain ⟨x1, hx0, h⟩ := kbG_bind h
  refine lpR_MD_be_89_94_2 n (P := fun z => x1 = z) (hx := fun z e => ?_) n _ _ ⟨_, hx0, rfl⟩
  subst e
  exact r_vret rfl dX12_be_20 (hr x1 (kbG_some h))
def lp_MD_be_90_95_2 (n : Nat) : Nat → Int32 → kbM → Option (kbM)
  | 0, _, _ => none
  | k + 1, v2, μ =>
    if 8 ≤ v2 then
      some μ
    else
      kbIf (kbIn v2 8) <|
      kbIf (kbIn v2 8) <|
      lp_MD_be_90_95_2 n k (v2 + 1) (kbW μ 90 v2.toNatClampNeg (μ.1 95 v2.toNatClampNeg))
theorem lpR_MD_be_90_95_2 {l : Launch} (n : Nat)   {Q : kbQt} {P : kbM → Prop} (hx : ∀ z : kbM, P (z) → kbR l MX12_be 1 Q 20 [none, none, none] [] z) : ∀ (k : Nat) (v2 : Int32) (μ : kbM), kbG (lp_MD_be_90_95_2 n k v2 μ) P → kbR l MX12_be 1 Q 2 [some (.ref 90), some (.ref 95), some (.int v2)] [] μ := by
  intro k
  induction k with
  | zero => intro v2 μ h; exact absurd h kbG_none
  | succ k ih =>
    intro v2 μ h
    unfold lp_MD_be_90_95_2 at h
    refine r_iload_n dX12_be_2 rfl ?_
    refine r_aload_n dX12_be_3 rfl ?_
    refine r_alen 8 sh90 (by decide) (by decide) dX12_be_4 ?_
    refine r_icmp_ge 20 dX12_be_5 (by decide) (fun hc => ?_) (fun hc => ?_)
    · replace h := kbG_t hc h
      refine r_le [none, none, none] trivial ?_
      exact hx μ (kbG_some h)
    · replace h := kbG_f hc h
      refine r_aload_n dX12_be_8 rfl ?_
      refine r_iload_n dX12_be_9 rfl ?_
      refine r_aload_n dX12_be_10 rfl ?_
      refine r_iload_n dX12_be_11 rfl ?_
      obtain ⟨hin, h⟩ := kbG_if h
      replace hin := kbIn_of hin
      refine q_iald v2.toNatClampNeg rfl sh95 hin dX12_be_12 ?_
      obtain ⟨hin, h⟩ := kbG_if h
      replace hin := kbIn_of hin
      refine q_iast v2.toNatClampNeg rfl sh90 hin dX12_be_13 ?_
      refine r_iinc 1 dX12_be_14 rfl (by decide) (Nat.le_of_ble_eq_true rfl) rfl ?_
      refine r_goto 2 dX12_be_17 (by decide) ?_
      refine r_le [some (.ref 90), some (.ref 95), some (.int (v2 + 1))] ⟨rfl, ⟨rfl, ⟨rfl, trivial⟩⟩⟩ ?_
      exact ih (v2 + 1) (kbW μ 90 v2.toNatClampNeg (μ.1 95 v2.toNatClampNeg)) h
def f_MD_be_90_95 (n : Nat) (μ : kbM) : Option (kbM) :=
  (lp_MD_be_90_95_2 n n 0 μ).bind fun x1 =>
  some x1
theorem sp_MD_be_90_95 {l : Launch} (n : Nat) (μ : kbM)  {x : kbM} (h : f_MD_be_90_95 n μ = some x) : kbS l MX12_be 1 [.ref 90, .ref 95] μ (kbQe none x) := by
  refine kb_enter 1 rfl rfl ?_
  suffices H : ∀ (Q : kbQt) (P : kbM → Prop), (∀ z : kbM, P z → Q none z) → kbG (f_MD_be_90_95 n μ) P → kbR l MX12_be 1 Q 0 [some (.ref 90), some (.ref 95), none] [] μ from H _ (fun z => z = x) (fun z e => by subst e; exact ⟨rfl, rfl⟩) ⟨x, h, rfl⟩
  clear h
  intro Q P hr h
  unfold f_MD_be_90_95 at h
  refine r_iconst 0 dX12_be_0 (by decide) ?_
  refine r_istore_n dX12_be_1 (Nat.le_of_ble_eq_true rfl) rfl ?_
  refine r_le [some (.ref 90), some (.ref 95), some (.int 0)] ⟨rfl, ⟨rfl, ⟨rfl, trivial⟩⟩⟩ ?_
  obtain ⟨x1, hx0, h⟩ := kbG_bind h
  refine lpR_MD_be_90_95_2 n (P := fun z => x1 = z) (hx := fun z e => ?_) n _ _ ⟨_, hx0, rfl⟩
  subst e
  exact r_vret rfl dX12_be_20 (hr x1 (kbG_some h))
def lp_MD_be_68_96_2 (n : Nat) : Nat → Int32 → kbM → Option (kbM)
  | 0, _, _ => none
  | k + 1, v2, μ =>
    if 3 ≤ v2 then
      some μ
    else
      kbIf (kbIn v2 3) <|
      kbIf (kbIn v2 3) <|
      lp_MD_be_68_96_2 n k (v2 + 1) (kbW μ 68 v2.toNatClampNeg (μ.1 96 v2.toNatClampNeg))
theorem lpR_MD_be_68_96_2 {l : Launch} (n : Nat)   {Q : kbQt} {P : kbM → Prop} (hx : ∀ z : kbM, P (z) → kbR l MX12_be 1 Q 20 [none, none, none] [] z) : ∀ (k : Nat) (v2 : Int32) (μ : kbM), kbG (lp_MD_be_68_96_2 n k v2 μ) P → kbR l MX12_be 1 Q 2 [some (.ref 68), some (.ref 96), some (.int v2)] [] μ := by
  intro k
  induction k with
  | zero => intro v2 μ h; exact absurd h kbG_none
  | succ k ih =>
    intro v2 μ h
    unfold lp_MD_be_68_96_2 at h
    refine r_iload_n dX12_be_2 rfl ?_
    refine r_aload_n dX12_be_3 rfl ?_
    refine r_alen 3 sh68 (by decide) (by decide) dX12_be_4 ?_
    refine r_icmp_ge 20 dX12_be_5 (by decide) (fun hc => ?_) (fun hc => ?_)
    · replace h := kbG_t hc h
      refine r_le [none, none, none] trivial ?_
      exact hx μ (kbG_some h)
    · replace h := kbG_f hc h
      refine r_aload_n dX12_be_8 rfl ?_
      refine r_iload_n dX12_be_9 rfl ?_
      refine r_aload_n dX12_be_10 rfl ?_
      refine r_iload_n dX12_be_11 rfl ?_
      obtain ⟨hin, h⟩ := kbG_if h
      replace hin := kbIn_of hin
      refine q_iald v2.toNatClampNeg rfl sh96 hin dX12_be_12 ?_
      obtain ⟨hin, h⟩ := kbG_if h
      replace hin := kbIn_of hin
      refine q_iast v2.toNatClampNeg rfl sh68 hin dX12_be_13 ?_
      refine r_iinc 1 dX12_be_14 rfl (by decide) (Nat.le_of_ble_eq_true rfl) rfl ?_
      refine r_goto 2 dX12_be_17 (by decide) ?_
      refine r_le [some (.ref 68), some (.ref 96), some (.int (v2 + 1))] ⟨rfl, ⟨rfl, ⟨rfl, trivial⟩⟩⟩ ?_
      exact ih (v2 + 1) (kbW μ 68 v2.toNatClampNeg (μ.1 96 v2.toNatClampNeg)) h
def f_MD_be_68_96 (n : Nat) (μ : kbM) : Option (kbM) :=
  (lp_MD_be_68_96_2 n n 0 μ).bind fun x1 =>
  some x1
theorem sp_MD_be_68_96 {l : Launch} (n : Nat) (μ : kbM)  {x : kbM} (h : f_MD_be_68_96 n μ = some x) : kbS l MX12_be 1 [.ref 68, .ref 96] μ (kbQe none x) := by
  refine kb_enter 1 rfl rfl ?_
  suffices H : ∀ (Q : kbQt) (P : kbM → Prop), (∀ z : kbM, P z → Q none z) → kbG (f_MD_be_68_96 n μ) P → kbR l MX12_be 1 Q 0 [some (.ref 68), some (.ref 96), none] [] μ from H _ (fun z => z = x) (fun z e => by subst e; exact ⟨rfl, rfl⟩) ⟨x, h, rfl⟩
  clear h
  intro Q P hr h
  unfold f_MD_be_68_96 at h
  refine r_iconst 0 dX12_be_0 (by decide) ?_
  refine r_istore_n dX12_be_1 (Nat.le_of_ble_eq_true rfl) rfl ?_
  refine r_le [some (.ref 68), some (.ref 96), some (.int 0)] ⟨rfl, ⟨rfl, ⟨rfl, trivial⟩⟩⟩ ?_
  obtain ⟨x1, hx0, h⟩ := kbG_bind h
  refine lpR_MD_be_68_96_2 n (P := fun z => x1 = z) (hx := fun z e => ?_) n _ _ ⟨_, hx0, rfl⟩
  subst e
  exact r_vret rfl dX12_be_20 (hr x1 (kbG_some h))
def f_MD_restore (n : Nat) (μ : kbM) : Option (Int32 × kbM) :=
  if ((kbW μ 57 3 0).1 57 52) = 0 then
    some ((0, kbW μ 57 3 0))
  else
    (f_MD_unpack_92 n 0 (kbW (kbW (kbW μ 57 3 0) 57 29 ((kbW μ 57 3 0).1 57 53)) 57 30 ((kbW (kbW μ 57 3 0) 57 29 ((kbW μ 57 3 0).1 57 53)).1 57 54))).bind fun x1 =>
    (f_MD_be_73_93 n x1).bind fun x2 =>
    (f_MD_be_89_94 n x2).bind fun x3 =>
    (f_MD_be_90_95 n x3).bind fun x4 =>
    (f_MD_be_68_96 n x4).bind fun x5 =>
    some ((1, x5))
theorem sp_MD_restore {l : Launch} (n : Nat) (μ : kbM)  {x : Int32 × kbM} (h : f_MD_restore n μ = some x) : kbS l MX12_restore 2 [.ref 57] μ (kbQe (some (.int x.1)) x.2) := by
  refine kb_enter 0 rfl rfl ?_
  suffices H : ∀ (Q : kbQt) (P : Int32 × kbM → Prop), (∀ z : Int32 × kbM, P z → Q (some (.int z.1)) z.2) → kbG (f_MD_restore n μ) P → kbR l MX12_restore 2 Q 0 [some (.ref 57)] [] μ from H _ (fun z => z = x) (fun z e => by subst e; exact ⟨rfl, rfl⟩) ⟨x, h, rfl⟩
  clear h
  intro Q P hr h
  unfold f_MD_restore at h
  refine r_aload_n dX12_restore_0 rfl ?_
  refine r_iconst 0 dX12_restore_1 (by decide) ?_
  refine r_put flX12_159 sh57 rfl rfl rfl dX12_restore_2 ?_
  refine r_aload_n dX12_restore_5 rfl ?_
  refine r_getI flX12_314 sh57 rfl dX12_restore_6 ?_
  refine r_if_ne 14 dX12_restore_9 (by decide) (fun hc => ?_) (fun hc => ?_)
  · replace h := kbG_f hc h
    refine r_aload_n dX12_restore_14 rfl ?_
    refine r_aload_n dX12_restore_15 rfl ?_
    refine r_getI flX12_465 sh57 rfl dX12_restore_16 ?_
    refine r_put flX12_308 sh57 rfl rfl rfl dX12_restore_19 ?_
    refine r_aload_n dX12_restore_22 rfl ?_
    refine r_aload_n dX12_restore_23 rfl ?_
    refine r_getI flX12_468 sh57 rfl dX12_restore_24 ?_
    refine r_put flX12_311 sh57 rfl rfl rfl dX12_restore_27 ?_
    refine r_aload_n dX12_restore_30 rfl ?_
    refine r_aload_n dX12_restore_31 rfl ?_
    refine r_getR flX12_144 sh57 rfl dX12_restore_32 ?_
    refine r_iconst 0 dX12_restore_35 (by decide) ?_
    obtain ⟨x1, hx0, h⟩ := kbG_bind h
    refine r_invV_v cvX12_399 sh57 rfl (sp_MD_unpack_92 n 0 (kbW (kbW (kbW μ 57 3 0) 57 29 ((kbW μ 57 3 0).1 57 53)) 57 30 ((kbW (kbW μ 57 3 0) 57 29 ((kbW μ 57 3 0).1 57 53)).1 57 54)) hx0) rfl rfl (Nat.le_of_ble_eq_true rfl) (Nat.le_of_ble_eq_true rfl) dX12_restore_36 ?_
    refine r_aload_n dX12_restore_39 rfl ?_
    refine r_getR flX12_88 sh57 rfl dX12_restore_40 ?_
    refine r_aload_n dX12_restore_43 rfl ?_
    refine r_getR flX12_147 sh57 rfl dX12_restore_44 ?_
    obtain ⟨x2, hx0, h⟩ := kbG_bind h
    refine r_inv_v csX12_471 (sp_MD_be_73_93 n x1 hx0) rfl rfl (Nat.le_of_ble_eq_true rfl) (Nat.le_of_ble_eq_true rfl) dX12_restore_47 ?_
    refine r_aload_n dX12_restore_50 rfl ?_
    refine r_getR flX12_135 sh57 rfl dX12_restore_51 ?_
    refine r_aload_n dX12_restore_54 rfl ?_
    refine r_getR flX12_150 sh57 rfl dX12_restore_55 ?_
    obtain ⟨x3, hx0, h⟩ := kbG_bind h
    refine r_inv_v csX12_471 (sp_MD_be_89_94 n x2 hx0) rfl rfl (Nat.le_of_ble_eq_true rfl) (Nat.le_of_ble_eq_true rfl) dX12_restore_58 ?_
    refine r_aload_n dX12_restore_61 rfl ?_
    refine r_getR flX12_138 sh57 rfl dX12_restore_62 ?_
    refine r_aload_n dX12_restore_65 rfl ?_
    refine r_getR flX12_153 sh57 rfl dX12_restore_66 ?_
    obtain ⟨x4, hx0, h⟩ := kbG_bind h
    refine r_inv_v csX12_471 (sp_MD_be_90_95 n x3 hx0) rfl rfl (Nat.le_of_ble_eq_true rfl) (Nat.le_of_ble_eq_true rfl) dX12_restore_69 ?_
    refine r_aload_n dX12_restore_72 rfl ?_
    refine r_getR flX12_69 sh57 rfl dX12_restore_73 ?_
    refine r_aload_n dX12_restore_76 rfl ?_
    refine r_getR flX12_156 sh57 rfl dX12_restore_77 ?_
    obtain ⟨x5, hx0, h⟩ := kbG_bind h
    refine r_inv_v csX12_471 (sp_MD_be_68_96 n x4 hx0) rfl rfl (Nat.le_of_ble_eq_true rfl) (Nat.le_of_ble_eq_true rfl) dX12_restore_80 ?_
    refine r_iconst 1 dX12_restore_83 (by decide) ?_
    exact r_zret rfl rfl dX12_restore_84 (hr ((1, x5)) (kbG_some h))
  · replace h := kbG_t hc h
    refine r_iconst 0 dX12_restore_12 (by decide) ?_
    exact r_zret rfl rfl dX12_restore_13 (hr ((0, kbW μ 57 3 0)) (kbG_some h))
