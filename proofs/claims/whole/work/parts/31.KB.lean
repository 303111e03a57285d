theorem dX11_feed_0 : decode cX11_feed 0 = .ok (.aload_n 0, 1) := by decide +kernel
theorem dX11_feed_1 : decode cX11_feed 1 = .ok (.getfield 10, 3) := by decide +kernel
theorem dX11_feed_4 : decode cX11_feed 4 = .ok (.getfield 87, 3) := by decide +kernel
theorem dX11_feed_7 : decode cX11_feed 7 = .ok (.bipush 20, 2) := by decide +kernel
theorem dX11_feed_9 : decode cX11_feed 9 = .ok (.iadd, 1) := by decide +kernel
theorem dX11_feed_10 : decode cX11_feed 10 = .ok (.sipush 600, 3) := by decide +kernel
theorem dX11_feed_13 : decode cX11_feed 13 = .ok (.if_icmp .le 5, 3) := by decide +kernel
theorem dX11_feed_16 : decode cX11_feed 16 = .ok (.iconst (-1), 1) := by decide +kernel
theorem dX11_feed_17 : decode cX11_feed 17 = .ok (.ireturn, 1) := by decide +kernel
theorem dX11_feed_18 : decode cX11_feed 18 = .ok (.aload_n 0, 1) := by decide +kernel
theorem dX11_feed_19 : decode cX11_feed 19 = .ok (.getfield 10, 3) := by decide +kernel
theorem dX11_feed_22 : decode cX11_feed 22 = .ok (.iload_n 1, 1) := by decide +kernel
theorem dX11_feed_23 : decode cX11_feed 23 = .ok (.invokevirtual 91, 3) := by decide +kernel
theorem dX11_feed_26 : decode cX11_feed 26 = .ok (.aload_n 0, 1) := by decide +kernel
theorem dX11_feed_27 : decode cX11_feed 27 = .ok (.getfield 10, 3) := by decide +kernel
theorem dX11_feed_30 : decode cX11_feed 30 = .ok (.iload_n 2, 1) := by decide +kernel
theorem dX11_feed_31 : decode cX11_feed 31 = .ok (.invokevirtual 91, 3) := by decide +kernel
theorem dX11_feed_34 : decode cX11_feed 34 = .ok (.aload_n 0, 1) := by decide +kernel
theorem dX11_feed_35 : decode cX11_feed 35 = .ok (.getfield 10, 3) := by decide +kernel
theorem dX11_feed_38 : decode cX11_feed 38 = .ok (.iload_n 3, 1) := by decide +kernel
theorem dX11_feed_39 : decode cX11_feed 39 = .ok (.invokevirtual 91, 3) := by decide +kernel
theorem dX11_feed_42 : decode cX11_feed 42 = .ok (.aload_n 0, 1) := by decide +kernel
theorem dX11_feed_43 : decode cX11_feed 43 = .ok (.getfield 10, 3) := by decide +kernel
theorem dX11_feed_46 : decode cX11_feed 46 = .ok (.iload 4, 2) := by decide +kernel
theorem dX11_feed_48 : decode cX11_feed 48 = .ok (.invokevirtual 91, 3) := by decide +kernel
theorem dX11_feed_51 : decode cX11_feed 51 = .ok (.aload_n 0, 1) := by decide +kernel
theorem dX11_feed_52 : decode cX11_feed 52 = .ok (.getfield 10, 3) := by decide +kernel
theorem dX11_feed_55 : decode cX11_feed 55 = .ok (.iload 5, 2) := by decide +kernel
theorem dX11_feed_57 : decode cX11_feed 57 = .ok (.invokevirtual 91, 3) := by decide +kernel
theorem dX11_feed_60 : decode cX11_feed 60 = .ok (.aload_n 0, 1) := by decide +kernel
theorem dX11_feed_61 : decode cX11_feed 61 = .ok (.getfield 10, 3) := by decide +kernel
theorem dX11_feed_64 : decode cX11_feed 64 = .ok (.getfield 87, 3) := by decide +kernel
theorem dX11_feed_67 : decode cX11_feed 67 = .ok (.ireturn, 1) := by decide +kernel
theorem dX11_fault_0 : decode cX11_fault 0 = .ok (.aload_n 0, 1) := by decide +kernel
theorem dX11_fault_1 : decode cX11_fault 1 = .ok (.getfield 10, 3) := by decide +kernel
theorem dX11_fault_4 : decode cX11_fault 4 = .ok (.getfield 132, 3) := by decide +kernel
theorem dX11_fault_7 : decode cX11_fault 7 = .ok (.ireturn, 1) := by decide +kernel
theorem dX11_refuseAct_0 : decode cX11_refuseAct 0 = .ok (.aload_n 0, 1) := by decide +kernel
theorem dX11_refuseAct_1 : decode cX11_refuseAct 1 = .ok (.getfield 19, 3) := by decide +kernel
theorem dX11_refuseAct_4 : decode cX11_refuseAct 4 = .ok (.getfield 106, 3) := by decide +kernel
theorem dX11_refuseAct_7 : decode cX11_refuseAct 7 = .ok (.iconst 1, 1) := by decide +kernel
theorem dX11_refuseAct_8 : decode cX11_refuseAct 8 = .ok (.dup2, 1) := by decide +kernel
theorem dX11_refuseAct_9 : decode cX11_refuseAct 9 = .ok (.iaload, 1) := by decide +kernel
theorem dX11_refuseAct_10 : decode cX11_refuseAct 10 = .ok (.iconst 1, 1) := by decide +kernel
theorem dX11_refuseAct_11 : decode cX11_refuseAct 11 = .ok (.iadd, 1) := by decide +kernel
theorem dX11_refuseAct_12 : decode cX11_refuseAct 12 = .ok (.iastore, 1) := by decide +kernel
theorem dX11_refuseAct_13 : decode cX11_refuseAct 13 = .ok (.iconst (-1), 1) := by decide +kernel
theorem dX11_refuseAct_14 : decode cX11_refuseAct 14 = .ok (.ireturn, 1) := by decide +kernel
theorem dX11_isPart_0 : decode cX11_isPart 0 = .ok (.iload_n 0, 1) := by decide +kernel
theorem dX11_isPart_1 : decode cX11_isPart 1 = .ok (.ifCond .lt 12, 3) := by decide +kernel
theorem dX11_isPart_4 : decode cX11_isPart 4 = .ok (.iload_n 0, 1) := by decide +kernel
theorem dX11_isPart_5 : decode cX11_isPart 5 = .ok (.iconst 3, 1) := by decide +kernel
theorem dX11_isPart_6 : decode cX11_isPart 6 = .ok (.if_icmp .ge 7, 3) := by decide +kernel
theorem dX11_isPart_9 : decode cX11_isPart 9 = .ok (.iconst 1, 1) := by decide +kernel
theorem dX11_isPart_10 : decode cX11_isPart 10 = .ok (.goto 4, 3) := by decide +kernel
theorem dX11_isPart_13 : decode cX11_isPart 13 = .ok (.iconst 0, 1) := by decide +kernel
theorem dX11_isPart_14 : decode cX11_isPart 14 = .ok (.ireturn, 1) := by decide +kernel
theorem dX11_isWorth_0 : decode cX11_isWorth 0 = .ok (.iload_n 0, 1) := by decide +kernel
theorem dX11_isWorth_1 : decode cX11_isWorth 1 = .ok (.ifCond .lt 13, 3) := by decide +kernel
theorem dX11_isWorth_4 : decode cX11_isWorth 4 = .ok (.iload_n 0, 1) := by decide +kernel
theorem dX11_isWorth_5 : decode cX11_isWorth 5 = .ok (.bipush 99, 2) := by decide +kernel
theorem dX11_isWorth_7 : decode cX11_isWorth 7 = .ok (.if_icmp .gt 7, 3) := by decide +kernel
theorem dX11_isWorth_10 : decode cX11_isWorth 10 = .ok (.iconst 1, 1) := by decide +kernel
theorem dX11_isWorth_11 : decode cX11_isWorth 11 = .ok (.goto 4, 3) := by decide +kernel
theorem dX11_isWorth_14 : decode cX11_isWorth 14 = .ok (.iconst 0, 1) := by decide +kernel
theorem dX11_isWorth_15 : decode cX11_isWorth 15 = .ok (.ireturn, 1) := by decide +kernel
theorem dX11_take_0 : decode cX11_take 0 = .ok (.aload_n 0, 1) := by decide +kernel
theorem dX11_take_1 : decode cX11_take 1 = .ok (.getfield 19, 3) := by decide +kernel
theorem dX11_take_4 : decode cX11_take 4 = .ok (.getfield 35, 3) := by decide +kernel
theorem dX11_take_7 : decode cX11_take 7 = .ok (.astore 4, 2) := by decide +kernel
theorem dX11_take_9 : decode cX11_take 9 = .ok (.aload 4, 2) := by decide +kernel
theorem dX11_take_11 : decode cX11_take 11 = .ok (.getfield 135, 3) := by decide +kernel
theorem dX11_take_14 : decode cX11_take 14 = .ok (.bipush 10, 2) := by decide +kernel
theorem dX11_take_16 : decode cX11_take 16 = .ok (.if_icmp .ge 51, 3) := by decide +kernel
theorem dX11_take_19 : decode cX11_take 19 = .ok (.iload_n 1, 1) := by decide +kernel
theorem dX11_take_20 : decode cX11_take 20 = .ok (.invokestatic 235, 3) := by decide +kernel
theorem dX11_take_23 : decode cX11_take 23 = .ok (.ifCond .eq 44, 3) := by decide +kernel
theorem dX11_take_26 : decode cX11_take 26 = .ok (.iload_n 1, 1) := by decide +kernel
theorem dX11_take_27 : decode cX11_take 27 = .ok (.ifCond .eq 40, 3) := by decide +kernel
theorem dX11_take_30 : decode cX11_take 30 = .ok (.iload_n 1, 1) := by decide +kernel
theorem dX11_take_31 : decode cX11_take 31 = .ok (.invokestatic 240, 3) := by decide +kernel
theorem dX11_take_34 : decode cX11_take 34 = .ok (.bipush 6, 2) := by decide +kernel
theorem dX11_take_36 : decode cX11_take 36 = .ok (.if_icmp .gt 31, 3) := by decide +kernel
theorem dX11_take_39 : decode cX11_take 39 = .ok (.aload 4, 2) := by decide +kernel
theorem dX11_take_41 : decode cX11_take 41 = .ok (.iload_n 1, 1) := by decide +kernel
theorem dX11_take_42 : decode cX11_take 42 = .ok (.invokevirtual 242, 3) := by decide +kernel
theorem dX11_take_45 : decode cX11_take 45 = .ok (.iconst (-1), 1) := by decide +kernel
theorem dX11_take_46 : decode cX11_take 46 = .ok (.if_icmp .ne 21, 3) := by decide +kernel
theorem dX11_take_49 : decode cX11_take 49 = .ok (.iload_n 2, 1) := by decide +kernel
theorem dX11_take_50 : decode cX11_take 50 = .ok (.invokestatic 245, 3) := by decide +kernel
theorem dX11_take_53 : decode cX11_take 53 = .ok (.ifCond .eq 14, 3) := by decide +kernel
theorem dX11_take_56 : decode cX11_take 56 = .ok (.iload_n 3, 1) := by decide +kernel
theorem dX11_take_57 : decode cX11_take 57 = .ok (.invokestatic 248, 3) := by decide +kernel
theorem dX11_take_60 : decode cX11_take 60 = .ok (.ifCond .eq 7, 3) := by decide +kernel
theorem dX11_take_63 : decode cX11_take 63 = .ok (.iconst 1, 1) := by decide +kernel
theorem dX11_take_64 : decode cX11_take 64 = .ok (.goto 4, 3) := by decide +kernel
theorem dX11_take_67 : decode cX11_take 67 = .ok (.iconst 0, 1) := by decide +kernel
theorem dX11_take_68 : decode cX11_take 68 = .ok (.istore 5, 2) := by decide +kernel
theorem dX11_take_70 : decode cX11_take 70 = .ok (.iload 5, 2) := by decide +kernel
theorem dX11_take_72 : decode cX11_take 72 = .ok (.ifCond .ne 8, 3) := by decide +kernel
theorem dX11_take_75 : decode cX11_take 75 = .ok (.aload_n 0, 1) := by decide +kernel
theorem dX11_take_76 : decode cX11_take 76 = .ok (.invokevirtual 251, 3) := by decide +kernel
theorem dX11_take_79 : decode cX11_take 79 = .ok (.ireturn, 1) := by decide +kernel
theorem dX11_take_80 : decode cX11_take 80 = .ok (.aload 4, 2) := by decide +kernel
theorem dX11_take_82 : decode cX11_take 82 = .ok (.getfield 135, 3) := by decide +kernel
theorem dX11_take_85 : decode cX11_take 85 = .ok (.istore 6, 2) := by decide +kernel
theorem dX11_take_87 : decode cX11_take 87 = .ok (.aload 4, 2) := by decide +kernel
theorem dX11_take_89 : decode cX11_take 89 = .ok (.iload 6, 2) := by decide +kernel
theorem dX11_take_91 : decode cX11_take 91 = .ok (.iload_n 1, 1) := by decide +kernel
theorem dX11_take_92 : decode cX11_take 92 = .ok (.iload_n 2, 1) := by decide +kernel
theorem dX11_take_93 : decode cX11_take 93 = .ok (.iload_n 3, 1) := by decide +kernel
theorem dX11_take_94 : decode cX11_take 94 = .ok (.invokevirtual 254, 3) := by decide +kernel
theorem dX11_take_97 : decode cX11_take 97 = .ok (.aload_n 0, 1) := by decide +kernel
theorem dX11_take_98 : decode cX11_take 98 = .ok (.getfield 19, 3) := by decide +kernel
theorem dX11_take_101 : decode cX11_take 101 = .ok (.iconst 0, 1) := by decide +kernel
theorem dX11_take_102 : decode cX11_take 102 = .ok (.iload 6, 2) := by decide +kernel
theorem dX11_take_104 : decode cX11_take 104 = .ok (.iload_n 1, 1) := by decide +kernel
theorem dX11_take_105 : decode cX11_take 105 = .ok (.iload_n 2, 1) := by decide +kernel
theorem dX11_take_106 : decode cX11_take 106 = .ok (.iload_n 3, 1) := by decide +kernel
theorem dX11_take_107 : decode cX11_take 107 = .ok (.invokevirtual 258, 3) := by decide +kernel
theorem dX11_take_110 : decode cX11_take 110 = .ok (.aload_n 0, 1) := by decide +kernel
theorem dX11_take_111 : decode cX11_take 111 = .ok (.getfield 42, 3) := by decide +kernel
theorem dX11_take_114 : decode cX11_take 114 = .ok (.invokevirtual 262, 3) := by decide +kernel
theorem dX11_take_117 : decode cX11_take 117 = .ok (.iload 6, 2) := by decide +kernel
theorem dX11_take_119 : decode cX11_take 119 = .ok (.ireturn, 1) := by decide +kernel
theorem dX11_undo_0 : decode cX11_undo 0 = .ok (.aload_n 0, 1) := by decide +kernel
theorem dX11_undo_1 : decode cX11_undo 1 = .ok (.getfield 19, 3) := by decide +kernel
theorem dX11_undo_4 : decode cX11_undo 4 = .ok (.getfield 151, 3) := by decide +kernel
theorem dX11_undo_7 : decode cX11_undo 7 = .ok (.ifCond .ne 5, 3) := by decide +kernel
theorem dX11_undo_10 : decode cX11_undo 10 = .ok (.iconst (-1), 1) := by decide +kernel
theorem dX11_undo_11 : decode cX11_undo 11 = .ok (.ireturn, 1) := by decide +kernel
theorem dX11_undo_12 : decode cX11_undo 12 = .ok (.aload_n 0, 1) := by decide +kernel
theorem dX11_undo_13 : decode cX11_undo 13 = .ok (.getfield 19, 3) := by decide +kernel
theorem dX11_undo_16 : decode cX11_undo 16 = .ok (.invokevirtual 278, 3) := by decide +kernel
theorem dX11_undo_19 : decode cX11_undo 19 = .ok (.aload_n 0, 1) := by decide +kernel
theorem dX11_undo_20 : decode cX11_undo 20 = .ok (.getfield 42, 3) := by decide +kernel
theorem dX11_undo_23 : decode cX11_undo 23 = .ok (.invokevirtual 262, 3) := by decide +kernel
theorem dX11_undo_26 : decode cX11_undo 26 = .ok (.aload_n 0, 1) := by decide +kernel
theorem dX11_undo_27 : decode cX11_undo 27 = .ok (.getfield 19, 3) := by decide +kernel
theorem dX11_undo_30 : decode cX11_undo 30 = .ok (.getfield 151, 3) := by decide +kernel
theorem dX11_undo_33 : decode cX11_undo 33 = .ok (.ireturn, 1) := by decide +kernel
theorem dX11_twoWays_0 : decode cX11_twoWays 0 = .ok (.aload_n 0, 1) := by decide +kernel
theorem dX11_twoWays_1 : decode cX11_twoWays 1 = .ok (.getfield 65, 3) := by decide +kernel
theorem dX11_twoWays_4 : decode cX11_twoWays 4 = .ok (.invokevirtual 284, 3) := by decide +kernel
theorem dX11_twoWays_7 : decode cX11_twoWays 7 = .ok (.ireturn, 1) := by decide +kernel
theorem dX11_prefixes_0 : decode cX11_prefixes 0 = .ok (.aload_n 0, 1) := by decide +kernel
theorem dX11_prefixes_1 : decode cX11_prefixes 1 = .ok (.getfield 65, 3) := by decide +kernel
theorem dX11_prefixes_4 : decode cX11_prefixes 4 = .ok (.invokevirtual 287, 3) := by decide +kernel
theorem dX11_prefixes_7 : decode cX11_prefixes 7 = .ok (.ireturn, 1) := by decide +kernel
theorem dX11_tellApart_0 : decode cX11_tellApart 0 = .ok (.aload_n 0, 1) := by decide +kernel
theorem dX11_tellApart_1 : decode cX11_tellApart 1 = .ok (.getfield 74, 3) := by decide +kernel
theorem dX11_tellApart_4 : decode cX11_tellApart 4 = .ok (.invokevirtual 290, 3) := by decide +kernel
theorem dX11_tellApart_7 : decode cX11_tellApart 7 = .ok (.ireturn, 1) := by decide +kernel
theorem dX11_which_0 : decode cX11_which 0 = .ok (.aload_n 0, 1) := by decide +kernel
theorem dX11_which_1 : decode cX11_which 1 = .ok (.getfield 74, 3) := by decide +kernel
theorem dX11_which_4 : decode cX11_which 4 = .ok (.invokevirtual 318, 3) := by decide +kernel
theorem dX11_which_7 : decode cX11_which 7 = .ok (.ireturn, 1) := by decide +kernel
theorem dX11_forget_0 : decode cX11_forget 0 = .ok (.aload_n 0, 1) := by decide +kernel
theorem dX11_forget_1 : decode cX11_forget 1 = .ok (.getfield 19, 3) := by decide +kernel
theorem dX11_forget_4 : decode cX11_forget 4 = .ok (.iconst 0, 1) := by decide +kernel
theorem dX11_forget_5 : decode cX11_forget 5 = .ok (.putfield 154, 3) := by decide +kernel
theorem dX11_forget_8 : decode cX11_forget 8 = .ok (.return_, 1) := by decide +kernel
theorem dX11_image_0 : decode cX11_image 0 = .ok (.aload_n 0, 1) := by decide +kernel
theorem dX11_image_1 : decode cX11_image 1 = .ok (.getfield 23, 3) := by decide +kernel
theorem dX11_image_4 : decode cX11_image 4 = .ok (.aload_n 0, 1) := by decide +kernel
theorem dX11_image_5 : decode cX11_image 5 = .ok (.getfield 19, 3) := by decide +kernel
theorem dX11_image_8 : decode cX11_image 8 = .ok (.invokevirtual 355, 3) := by decide +kernel
theorem dX11_image_11 : decode cX11_image 11 = .ok (.aload_n 0, 1) := by decide +kernel
theorem dX11_image_12 : decode cX11_image 12 = .ok (.iconst 1, 1) := by decide +kernel
theorem dX11_image_13 : decode cX11_image 13 = .ok (.putfield 128, 3) := by decide +kernel
theorem dX11_image_16 : decode cX11_image 16 = .ok (.return_, 1) := by decide +kernel
theorem dX11_restore_0 : decode cX11_restore 0 = .ok (.aload_n 0, 1) := by decide +kernel
theorem dX11_restore_1 : decode cX11_restore 1 = .ok (.getfield 128, 3) := by decide +kernel
theorem dX11_restore_4 : decode cX11_restore 4 = .ok (.ifCond .ne 5, 3) := by decide +kernel
theorem dX11_restore_7 : decode cX11_restore 7 = .ok (.iconst 0, 1) := by decide +kernel
theorem dX11_restore_8 : decode cX11_restore 8 = .ok (.ireturn, 1) := by decide +kernel
theorem dX11_restore_9 : decode cX11_restore 9 = .ok (.aload_n 0, 1) := by decide +kernel
theorem dX11_restore_10 : decode cX11_restore 10 = .ok (.getfield 19, 3) := by decide +kernel
theorem dX11_restore_13 : decode cX11_restore 13 = .ok (.aload_n 0, 1) := by decide +kernel
theorem dX11_restore_14 : decode cX11_restore 14 = .ok (.getfield 23, 3) := by decide +kernel
theorem dX11_restore_17 : decode cX11_restore 17 = .ok (.invokevirtual 355, 3) := by decide +kernel
theorem dX11_restore_20 : decode cX11_restore 20 = .ok (.aload_n 0, 1) := by decide +kernel
theorem dX11_restore_21 : decode cX11_restore 21 = .ok (.getfield 42, 3) := by decide +kernel
theorem dX11_restore_24 : decode cX11_restore 24 = .ok (.invokevirtual 262, 3) := by decide +kernel
theorem dX11_restore_27 : decode cX11_restore 27 = .ok (.iconst 1, 1) := by decide +kernel
theorem dX11_restore_28 : decode cX11_restore 28 = .ok (.ireturn, 1) := by decide +kernel
def f_KB_feed (a1 : Int32) (a2 : Int32) (a3 : Int32) (a4 : Int32) (a5 : Int32) (μ : kbM) : Option (Int32 × kbM) :=
  if ((μ.1 1 4) + 20) ≤ 600 then
    (f_BT_append a1 μ).bind fun x1 =>
    (f_BT_append a2 x1).bind fun x2 =>
    (f_BT_append a3 x2).bind fun x3 =>
    (f_BT_append a4 x3).bind fun x4 =>
    (f_BT_append a5 x4).bind fun x5 =>
    some ((x5.1 1 4, x5))
  else
    some (((-1), μ))
theorem sp_KB_feed {l : Launch} (a1 : Int32) (a2 : Int32) (a3 : Int32) (a4 : Int32) (a5 : Int32) (μ : kbM)  {x : Int32 × kbM} (h : f_KB_feed a1 a2 a3 a4 a5 μ = some x) : kbS l MX11_feed 2 [.ref 0, .int a1, .int a2, .int a3, .int a4, .int a5] μ (kbQe (some (.int x.1)) x.2) := by
  refine kb_enter 0 rfl rfl ?_
  suffices H : ∀ (Q : kbQt) (P : Int32 × kbM → Prop), (∀ z : Int32 × kbM, P z → Q (some (.int z.1)) z.2) → kbG (f_KB_feed a1 a2 a3 a4 a5 μ) P → kbR l MX11_feed 2 Q 0 [some (.ref 0), some (.int a1), some (.int a2), some (.int a3), some (.int a4), some (.int a5)] [] μ from H _ (fun z => z = x) (fun z e => by subst e; exact ⟨rfl, rfl⟩) ⟨x, h, rfl⟩
  clear h
  intro Q P hr h
  unfold f_KB_feed at h
  refine r_aload_n dX11_feed_0 rfl ?_
  refine r_getR flX11_10 sh0 rfl dX11_feed_1 ?_
  refine r_getI flX11_87 sh1 rfl dX11_feed_4 ?_
  refine r_bipush 20 dX11_feed_7 (by decide) ?_
  refine r_iadd dX11_feed_9 ?_
  refine r_sipush 600 dX11_feed_10 (by decide) ?_
  refine r_icmp_le 18 dX11_feed_13 (by decide) (fun hc => ?_) (fun hc => ?_)
  · replace h := kbG_t hc h
    refine r_aload_n dX11_feed_18 rfl ?_
    refine r_getR flX11_10 sh0 rfl dX11_feed_19 ?_
    refine r_iload_n dX11_feed_22 rfl ?_
    obtain ⟨x1, hx0, h⟩ := kbG_bind h
    refine r_invV_v cvX11_91 sh1 rfl (sp_BT_append a1 μ hx0) rfl rfl (Nat.le_of_ble_eq_true rfl) (Nat.le_of_ble_eq_true rfl) dX11_feed_23 ?_
    refine r_aload_n dX11_feed_26 rfl ?_
    refine r_getR flX11_10 sh0 rfl dX11_feed_27 ?_
    refine r_iload_n dX11_feed_30 rfl ?_
    obtain ⟨x2, hx0, h⟩ := kbG_bind h
    refine r_invV_v cvX11_91 sh1 rfl (sp_BT_append a2 x1 hx0) rfl rfl (Nat.le_of_ble_eq_true rfl) (Nat.le_of_ble_eq_true rfl) dX11_feed_31 ?_
    refine r_aload_n dX11_feed_34 rfl ?_
    refine r_getR flX11_10 sh0 rfl dX11_feed_35 ?_
    refine r_iload_n dX11_feed_38 rfl ?_
    obtain ⟨x3, hx0, h⟩ := kbG_bind h
    refine r_invV_v cvX11_91 sh1 rfl (sp_BT_append a3 x2 hx0) rfl rfl (Nat.le_of_ble_eq_true rfl) (Nat.le_of_ble_eq_true rfl) dX11_feed_39 ?_
    refine r_aload_n dX11_feed_42 rfl ?_
    refine r_getR flX11_10 sh0 rfl dX11_feed_43 ?_
    refine r_iload dX11_feed_46 rfl ?_
    obtain ⟨x4, hx0, h⟩ := kbG_bind h
    refine r_invV_v cvX11_91 sh1 rfl (sp_BT_append a4 x3 hx0) rfl rfl (Nat.le_of_ble_eq_true rfl) (Nat.le_of_ble_eq_true rfl) dX11_feed_48 ?_
    refine r_aload_n dX11_feed_51 rfl ?_
    refine r_getR flX11_10 sh0 rfl dX11_feed_52 ?_
    refine r_iload dX11_feed_55 rfl ?_
    obtain ⟨x5, hx0, h⟩ := kbG_bind h
    refine r_invV_v cvX11_91 sh1 rfl (sp_BT_append a5 x4 hx0) rfl rfl (Nat.le_of_ble_eq_true rfl) (Nat.le_of_ble_eq_true rfl) dX11_feed_57 ?_
    refine r_aload_n dX11_feed_60 rfl ?_
    refine r_getR flX11_10 sh0 rfl dX11_feed_61 ?_
    refine r_getI flX11_87 sh1 rfl dX11_feed_64 ?_
    exact r_iret rfl dX11_feed_67 (hr ((x5.1 1 4, x5)) (kbG_some h))
  · replace h := kbG_f hc h
    refine r_iconst (-1) dX11_feed_16 (by decide) ?_
    exact r_iret rfl dX11_feed_17 (hr (((-1), μ)) (kbG_some h))
def f_KB_fault (μ : kbM) : Option (Int32) :=
  some (μ.1 1 11)
theorem sp_KB_fault {l : Launch} (μ : kbM)  {x : Int32} (h : f_KB_fault μ = some x) : kbS l MX11_fault 1 [.ref 0] μ (kbQe (some (.int x)) μ) := by
  refine kb_enter 0 rfl rfl ?_
  suffices H : ∀ (Q : kbQt) (P : Int32 → Prop), (∀ z : Int32, P z → Q (some (.int z)) μ) → kbG (f_KB_fault μ) P → kbR l MX11_fault 1 Q 0 [some (.ref 0)] [] μ from H _ (fun z => z = x) (fun z e => by subst e; exact ⟨rfl, rfl⟩) ⟨x, h, rfl⟩
  clear h
  intro Q P hr h
  unfold f_KB_fault at h
  refine r_aload_n dX11_fault_0 rfl ?_
  refine r_getR flX11_10 sh0 rfl dX11_fault_1 ?_
  refine r_getI flX11_132 sh1 rfl dX11_fault_4 ?_
  exact r_iret rfl dX11_fault_7 (hr (μ.1 1 11) (kbG_some h))
def f_KB_refuseAct (μ : kbM) : Option (Int32 × kbM) :=
  some (((-1), kbW μ 21 1 ((μ.1 21 1) + 1)))
theorem sp_KB_refuseAct {l : Launch} (μ : kbM)  {x : Int32 × kbM} (h : f_KB_refuseAct μ = some x) : kbS l MX11_refuseAct 1 [.ref 0] μ (kbQe (some (.int x.1)) x.2) := by
  refine kb_enter 0 rfl rfl ?_
  suffices H : ∀ (Q : kbQt) (P : Int32 × kbM → Prop), (∀ z : Int32 × kbM, P z → Q (some (.int z.1)) z.2) → kbG (f_KB_refuseAct μ) P → kbR l MX11_refuseAct 1 Q 0 [some (.ref 0)] [] μ from H _ (fun z => z = x) (fun z e => by subst e; exact ⟨rfl, rfl⟩) ⟨x, h, rfl⟩
  clear h
  intro Q P hr h
  unfold f_KB_refuseAct at h
  refine r_aload_n dX11_refuseAct_0 rfl ?_
  refine r_getR flX11_19 sh0 rfl dX11_refuseAct_1 ?_
  refine r_getR flX11_106 sh12 rfl dX11_refuseAct_4 ?_
  refine r_iconst 1 dX11_refuseAct_7 (by decide) ?_
  refine r_dup2 dX11_refuseAct_8 rfl rfl ?_
  have hin : vp_in 1 3 := kbIn_of (by decide)
  refine q_iald 1 (by decide) sh21 hin dX11_refuseAct_9 ?_
  refine r_iconst 1 dX11_refuseAct_10 (by decide) ?_
  refine r_iadd dX11_refuseAct_11 ?_
  have hin : vp_in 1 3 := kbIn_of (by decide)
  refine q_iast 1 (by decide) sh21 hin dX11_refuseAct_12 ?_
  refine r_iconst (-1) dX11_refuseAct_13 (by decide) ?_
  exact r_iret rfl dX11_refuseAct_14 (hr (((-1), kbW μ 21 1 ((μ.1 21 1) + 1))) (kbG_some h))
def jn_KB_isPart_14 (w0 : Int32) : Option (Int32) :=
  kbIf (decide (w0 = 0 ∨ w0 = 1)) <|
  some w0
theorem jnR_KB_isPart_14 {l : Launch}   (w0 : Int32) (μ : kbM) {Q : kbQt} {P : Int32 → Prop} (hr : ∀ z : Int32, P z → Q (some (.int z)) μ) (h : kbG (jn_KB_isPart_14 w0) P) : kbR l MX11_isPart 1 Q 14 [none] [.int w0] μ := by
  unfold jn_KB_isPart_14 at h
  obtain ⟨hz, h⟩ := kbG_if h
  exact r_zret rfl (kb_z01 (of_decide_eq_true hz)) dX11_isPart_14 (hr w0 (kbG_some h))
def jn_KB_isPart_13  : Option (Int32) :=
  jn_KB_isPart_14 0
theorem jnR_KB_isPart_13 {l : Launch}    (μ : kbM) {Q : kbQt} {P : Int32 → Prop} (hr : ∀ z : Int32, P z → Q (some (.int z)) μ) (h : kbG (jn_KB_isPart_13 ) P) : kbR l MX11_isPart 1 Q 13 [none] [] μ := by
  unfold jn_KB_isPart_13 at h
  refine r_iconst 0 dX11_isPart_13 (by decide) ?_
  refine r_le [none] trivial ?_
  exact jnR_KB_isPart_14 0 μ (hr := hr) h
def f_KB_isPart (a0 : Int32) : Option (Int32) :=
  if a0 < 0 then
    jn_KB_isPart_13 
  else
    if 3 ≤ a0 then
      jn_KB_isPart_13 
    else
      jn_KB_isPart_14 1
theorem sp_KB_isPart {l : Launch} (a0 : Int32) (μ : kbM)  {x : Int32} (h : f_KB_isPart a0 = some x) : kbS l MX11_isPart 1 [.int a0] μ (kbQe (some (.int x)) μ) := by
  refine kb_enter 0 rfl rfl ?_
  suffices H : ∀ (Q : kbQt) (P : Int32 → Prop), (∀ z : Int32, P z → Q (some (.int z)) μ) → kbG (f_KB_isPart a0) P → kbR l MX11_isPart 1 Q 0 [some (.int a0)] [] μ from H _ (fun z => z = x) (fun z e => by subst e; exact ⟨rfl, rfl⟩) ⟨x, h, rfl⟩
  clear h
  intro Q P hr h
  unfold f_KB_isPart at h
  refine r_iload_n dX11_isPart_0 rfl ?_
  refine r_if_lt 13 dX11_isPart_1 (by decide) (fun hc => ?_) (fun hc => ?_)
  · replace h := kbG_t hc h
    refine r_le [none] trivial ?_
    exact jnR_KB_isPart_13  μ (hr := hr) h
  · replace h := kbG_f hc h
    refine r_iload_n dX11_isPart_4 rfl ?_
    refine r_iconst 3 dX11_isPart_5 (by decide) ?_
    refine r_icmp_ge 13 dX11_isPart_6 (by decide) (fun hc => ?_) (fun hc => ?_)
    · replace h := kbG_t hc h
      refine r_le [none] trivial ?_
      exact jnR_KB_isPart_13  μ (hr := hr) h
    · replace h := kbG_f hc h
      refine r_iconst 1 dX11_isPart_9 (by decide) ?_
      refine r_goto 14 dX11_isPart_10 (by decide) ?_
      refine r_le [none] trivial ?_
      exact jnR_KB_isPart_14 1 μ (hr := hr) h
def jn_KB_isWorth_15 (w0 : Int32) : Option (Int32) :=
  kbIf (decide (w0 = 0 ∨ w0 = 1)) <|
  some w0
theorem jnR_KB_isWorth_15 {l : Launch}   (w0 : Int32) (μ : kbM) {Q : kbQt} {P : Int32 → Prop} (hr : ∀ z : Int32, P z → Q (some (.int z)) μ) (h : kbG (jn_KB_isWorth_15 w0) P) : kbR l MX11_isWorth 1 Q 15 [none] [.int w0] μ := by
  unfold jn_KB_isWorth_15 at h
  obtain ⟨hz, h⟩ := kbG_if h
  exact r_zret rfl (kb_z01 (of_decide_eq_true hz)) dX11_isWorth_15 (hr w0 (kbG_some h))
def jn_KB_isWorth_14  : Option (Int32) :=
  jn_KB_isWorth_15 0
theorem jnR_KB_isWorth_14 {l : Launch}    (μ : kbM) {Q : kbQt} {P : Int32 → Prop} (hr : ∀ z : Int32, P z → Q (some (.int z)) μ) (h : kbG (jn_KB_isWorth_14 ) P) : kbR l MX11_isWorth 1 Q 14 [none] [] μ := by
  unfold jn_KB_isWorth_14 at h
  refine r_iconst 0 dX11_isWorth_14 (by decide) ?_
  refine r_le [none] trivial ?_
  exact jnR_KB_isWorth_15 0 μ (hr := hr) h
def f_KB_isWorth (a0 : Int32) : Option (Int32) :=
  if a0 < 0 then
    jn_KB_isWorth_14 
  else
    if 99 < a0 then
      jn_KB_isWorth_14 
    else
      jn_KB_isWorth_15 1
theorem sp_KB_isWorth {l : Launch} (a0 : Int32) (μ : kbM)  {x : Int32} (h : f_KB_isWorth a0 = some x) : kbS l MX11_isWorth 1 [.int a0] μ (kbQe (some (.int x)) μ) := by
  refine kb_enter 0 rfl rfl ?_
  suffices H : ∀ (Q : kbQt) (P : Int32 → Prop), (∀ z : Int32, P z → Q (some (.int z)) μ) → kbG (f_KB_isWorth a0) P → kbR l MX11_isWorth 1 Q 0 [some (.int a0)] [] μ from H _ (fun z => z = x) (fun z e => by subst e; exact ⟨rfl, rfl⟩) ⟨x, h, rfl⟩
  clear h
  intro Q P hr h
  unfold f_KB_isWorth at h
  refine r_iload_n dX11_isWorth_0 rfl ?_
  refine r_if_lt 14 dX11_isWorth_1 (by decide) (fun hc => ?_) (fun hc => ?_)
  · replace h := kbG_t hc h
    refine r_le [none] trivial ?_
    exact jnR_KB_isWorth_14  μ (hr := hr) h
  · replace h := kbG_f hc h
    refine r_iload_n dX11_isWorth_4 rfl ?_
    refine r_bipush 99 dX11_isWorth_5 (by decide) ?_
    refine r_icmp_gt 14 dX11_isWorth_7 (by decide) (fun hc => ?_) (fun hc => ?_)
    · replace h := kbG_t hc h
      refine r_le [none] trivial ?_
      exact jnR_KB_isWorth_14  μ (hr := hr) h
    · replace h := kbG_f hc h
      refine r_iconst 1 dX11_isWorth_10 (by decide) ?_
      refine r_goto 15 dX11_isWorth_11 (by decide) ?_
      refine r_le [none] trivial ?_
      exact jnR_KB_isWorth_15 1 μ (hr := hr) h
def jn_KB_take_68 (n : Nat) (v1 : Int32) (v2 : Int32) (v3 : Int32) (w0 : Int32) (μ : kbM) : Option (Int32 × kbM) :=
  if w0 = 0 then
    (f_KB_refuseAct μ).bind fun x4 =>
    some ((x4.1, x4.2))
  else
    (f_WO_insert_13 n (μ.1 13 4) v1 v2 v3 μ).bind fun x1 =>
    (f_ST_keepAct_12 0 (μ.1 13 4) v1 v2 v3 x1).bind fun x2 =>
    (f_JO_renew x2).bind fun x3 =>
    some ((μ.1 13 4, x3))
theorem jnR_KB_take_68 {l : Launch} (n : Nat)   (v1 : Int32) (v2 : Int32) (v3 : Int32) (w0 : Int32) (μ : kbM) {Q : kbQt} {P : Int32 × kbM → Prop} (hr : ∀ z : Int32 × kbM, P z → Q (some (.int z.1)) z.2) (h : kbG (jn_KB_take_68 n v1 v2 v3 w0 μ) P) : kbR l MX11_take 3 Q 68 [some (.ref 0), some (.int v1), some (.int v2), some (.int v3), some (.ref 13), none, none] [.int w0] μ := by
  unfold jn_KB_take_68 at h
  refine r_istore dX11_take_68 (Nat.le_of_ble_eq_true rfl) rfl ?_
  refine r_iload dX11_take_70 rfl ?_
  refine r_if_ne 80 dX11_take_72 (by decide) (fun hc => ?_) (fun hc => ?_)
  · replace h := kbG_f hc h
    refine r_aload dX11_take_80 rfl ?_
    refine r_getI flX11_135 sh13 rfl dX11_take_82 ?_
    refine r_istore dX11_take_85 (Nat.le_of_ble_eq_true rfl) rfl ?_
    refine r_aload dX11_take_87 rfl ?_
    refine r_iload dX11_take_89 rfl ?_
    refine r_iload_n dX11_take_91 rfl ?_
    refine r_iload_n dX11_take_92 rfl ?_
    refine r_iload_n dX11_take_93 rfl ?_
    obtain ⟨x1, hx0, h⟩ := kbG_bind h
    refine r_invV_v cvX11_254 sh13 rfl (sp_WO_insert_13 n (μ.1 13 4) v1 v2 v3 μ hx0) rfl rfl (Nat.le_of_ble_eq_true rfl) (Nat.le_of_ble_eq_true rfl) dX11_take_94 ?_
    refine r_aload_n dX11_take_97 rfl ?_
    refine r_getR flX11_19 sh0 rfl dX11_take_98 ?_
    refine r_iconst 0 dX11_take_101 (by decide) ?_
    refine r_iload dX11_take_102 rfl ?_
    refine r_iload_n dX11_take_104 rfl ?_
    refine r_iload_n dX11_take_105 rfl ?_
    refine r_iload_n dX11_take_106 rfl ?_
    obtain ⟨x2, hx0, h⟩ := kbG_bind h
    refine r_invV_v cvX11_258 sh12 rfl (sp_ST_keepAct_12 0 (μ.1 13 4) v1 v2 v3 x1 hx0) rfl rfl (Nat.le_of_ble_eq_true rfl) (Nat.le_of_ble_eq_true rfl) dX11_take_107 ?_
    refine r_aload_n dX11_take_110 rfl ?_
    refine r_getR flX11_42 sh0 rfl dX11_take_111 ?_
    obtain ⟨x3, hx0, h⟩ := kbG_bind h
    refine r_invV_v cvX11_262 sh35 rfl (sp_JO_renew x2 hx0) rfl rfl (Nat.le_of_ble_eq_true rfl) (Nat.le_of_ble_eq_true rfl) dX11_take_114 ?_
    refine r_iload dX11_take_117 rfl ?_
    exact r_iret rfl dX11_take_119 (hr ((μ.1 13 4, x3)) (kbG_some h))
  · replace h := kbG_t hc h
    refine r_aload_n dX11_take_75 rfl ?_
    obtain ⟨x4, hx0, h⟩ := kbG_bind h
    refine r_invV_i cvX11_251 sh0 rfl (sp_KB_refuseAct μ hx0) rfl rfl (Nat.le_of_ble_eq_true rfl) (Nat.le_of_ble_eq_true rfl) dX11_take_76 ?_
    exact r_iret rfl dX11_take_79 (hr ((x4.1, x4.2)) (kbG_some h))
def jn_KB_take_67 (n : Nat) (v1 : Int32) (v2 : Int32) (v3 : Int32) (μ : kbM) : Option (Int32 × kbM) :=
  jn_KB_take_68 n v1 v2 v3 0 μ
theorem jnR_KB_take_67 {l : Launch} (n : Nat)   (v1 : Int32) (v2 : Int32) (v3 : Int32) (μ : kbM) {Q : kbQt} {P : Int32 × kbM → Prop} (hr : ∀ z : Int32 × kbM, P z → Q (some (.int z.1)) z.2) (h : kbG (jn_KB_take_67 n v1 v2 v3 μ) P) : kbR l MX11_take 3 Q 67 [some (.ref 0), some (.int v1), some (.int v2), some (.int v3), some (.ref 13), none, none] [] μ := by
  unfold jn_KB_take_67 at h
  refine r_iconst 0 dX11_take_67 (by decide) ?_
  refine r_le [some (.ref 0), some (.int v1), some (.int v2), some (.int v3), some (.ref 13), none, none] ⟨rfl, ⟨rfl, ⟨rfl, ⟨rfl, ⟨rfl, trivial⟩⟩⟩⟩⟩ ?_
  exact jnR_KB_take_68 n v1 v2 v3 0 μ (hr := hr) h
def f_KB_take (n : Nat) (a1 : Int32) (a2 : Int32) (a3 : Int32) (μ : kbM) : Option (Int32 × kbM) :=
  if 10 ≤ (μ.1 13 4) then
    jn_KB_take_67 n a1 a2 a3 μ
  else
    (f_RO_isRow n a1).bind fun x5 =>
    if x5 = 0 then
      jn_KB_take_67 n a1 a2 a3 μ
    else
      if a1 = 0 then
        jn_KB_take_67 n a1 a2 a3 μ
      else
        (f_RO_size n a1).bind fun x6 =>
        if 6 < x6 then
          jn_KB_take_67 n a1 a2 a3 μ
        else
          (f_WO_find_13 n a1 μ).bind fun x7 =>
          if x7 = (-1) then
            (f_KB_isPart a2).bind fun x8 =>
            if x8 = 0 then
              jn_KB_take_67 n a1 a2 a3 μ
            else
              (f_KB_isWorth a3).bind fun x9 =>
              if x9 = 0 then
                jn_KB_take_67 n a1 a2 a3 μ
              else
                jn_KB_take_68 n a1 a2 a3 1 μ
          else
            jn_KB_take_67 n a1 a2 a3 μ
theorem sp_KB_take {l : Launch} (n : Nat) (a1 : Int32) (a2 : Int32) (a3 : Int32) (μ : kbM)  {x : Int32 × kbM} (h : f_KB_take n a1 a2 a3 μ = some x) : kbS l MX11_take 3 [.ref 0, .int a1, .int a2, .int a3] μ (kbQe (some (.int x.1)) x.2) := by
  refine kb_enter 3 rfl rfl ?_
  suffices H : ∀ (Q : kbQt) (P : Int32 × kbM → Prop), (∀ z : Int32 × kbM, P z → Q (some (.int z.1)) z.2) → kbG (f_KB_take n a1 a2 a3 μ) P → kbR l MX11_take 3 Q 0 [some (.ref 0), some (.int a1), some (.int a2), some (.int a3), none, none, none] [] μ from H _ (fun z => z = x) (fun z e => by subst e; exact ⟨rfl, rfl⟩) ⟨x, h, rfl⟩
  clear h
  intro Q P hr h
  unfold f_KB_take at h
  refine r_aload_n dX11_take_0 rfl ?_
  refine r_getR flX11_19 sh0 rfl dX11_take_1 ?_
  refine r_getR flX11_35 sh12 rfl dX11_take_4 ?_
  refine r_astore dX11_take_7 (Nat.le_of_ble_eq_true rfl) rfl ?_
  refine r_aload dX11_take_9 rfl ?_
  refine r_getI flX11_135 sh13 rfl dX11_take_11 ?_
  refine r_bipush 10 dX11_take_14 (by decide) ?_
  refine r_icmp_ge 67 dX11_take_16 (by decide) (fun hc => ?_) (fun hc => ?_)
  · replace h := kbG_t hc h
    refine r_le [some (.ref 0), some (.int a1), some (.int a2), some (.int a3), some (.ref 13), none, none] ⟨rfl, ⟨rfl, ⟨rfl, ⟨rfl, ⟨rfl, trivial⟩⟩⟩⟩⟩ ?_
    exact jnR_KB_take_67 n a1 a2 a3 μ (hr := hr) h
  · replace h := kbG_f hc h
    refine r_iload_n dX11_take_19 rfl ?_
    obtain ⟨x5, hx0, h⟩ := kbG_bind h
    refine r_inv_i csX11_235 (sp_RO_isRow n a1 μ hx0) rfl rfl (Nat.le_of_ble_eq_true rfl) (Nat.le_of_ble_eq_true rfl) dX11_take_20 ?_
    refine r_if_eq 67 dX11_take_23 (by decide) (fun hc => ?_) (fun hc => ?_)
    · replace h := kbG_t hc h
      refine r_le [some (.ref 0), some (.int a1), some (.int a2), some (.int a3), some (.ref 13), none, none] ⟨rfl, ⟨rfl, ⟨rfl, ⟨rfl, ⟨rfl, trivial⟩⟩⟩⟩⟩ ?_
      exact jnR_KB_take_67 n a1 a2 a3 μ (hr := hr) h
    · replace h := kbG_f hc h
      refine r_iload_n dX11_take_26 rfl ?_
      refine r_if_eq 67 dX11_take_27 (by decide) (fun hc => ?_) (fun hc => ?_)
      · replace h := kbG_t hc h
        refine r_le [some (.ref 0), some (.int a1), some (.int a2), some (.int a3), some (.ref 13), none, none] ⟨rfl, ⟨rfl, ⟨rfl, ⟨rfl, ⟨rfl, trivial⟩⟩⟩⟩⟩ ?_
        exact jnR_KB_take_67 n a1 a2 a3 μ (hr := hr) h
      · replace h := kbG_f hc h
        refine r_iload_n dX11_take_30 rfl ?_
        obtain ⟨x6, hx0, h⟩ := kbG_bind h
        refine r_inv_i csX11_240 (sp_RO_size n a1 μ hx0) rfl rfl (Nat.le_of_ble_eq_true rfl) (Nat.le_of_ble_eq_true rfl) dX11_take_31 ?_
        refine r_bipush 6 dX11_take_34 (by decide) ?_
        refine r_icmp_gt 67 dX11_take_36 (by decide) (fun hc => ?_) (fun hc => ?_)
        · replace h := kbG_t hc h
          refine r_le [some (.ref 0), some (.int a1), some (.int a2), some (.int a3), some (.ref 13), none, none] ⟨rfl, ⟨rfl, ⟨rfl, ⟨rfl, ⟨rfl, trivial⟩⟩⟩⟩⟩ ?_
          exact jnR_KB_take_67 n a1 a2 a3 μ (hr := hr) h
        · replace h := kbG_f hc h
          refine r_aload dX11_take_39 rfl ?_
          refine r_iload_n dX11_take_41 rfl ?_
          obtain ⟨x7, hx0, h⟩ := kbG_bind h
          refine r_invV_i cvX11_242 sh13 rfl (sp_WO_find_13 n a1 μ hx0) rfl rfl (Nat.le_of_ble_eq_true rfl) (Nat.le_of_ble_eq_true rfl) dX11_take_42 ?_
          refine r_iconst (-1) dX11_take_45 (by decide) ?_
          refine r_icmp_ne 67 dX11_take_46 (by decide) (fun hc => ?_) (fun hc => ?_)
          · replace h := kbG_f hc h
            refine r_le [some (.ref 0), some (.int a1), some (.int a2), some (.int a3), some (.ref 13), none, none] ⟨rfl, ⟨rfl, ⟨rfl, ⟨rfl, ⟨rfl, trivial⟩⟩⟩⟩⟩ ?_
            exact jnR_KB_take_67 n a1 a2 a3 μ (hr := hr) h
          · replace h := kbG_t hc h
            refine r_iload_n dX11_take_49 rfl ?_
            obtain ⟨x8, hx0, h⟩ := kbG_bind h
            refine r_inv_i csX11_245 (sp_KB_isPart a2 μ hx0) rfl rfl (Nat.le_of_ble_eq_true rfl) (Nat.le_of_ble_eq_true rfl) dX11_take_50 ?_
            refine r_if_eq 67 dX11_take_53 (by decide) (fun hc => ?_) (fun hc => ?_)
            · replace h := kbG_t hc h
              refine r_le [some (.ref 0), some (.int a1), some (.int a2), some (.int a3), some (.ref 13), none, none] ⟨rfl, ⟨rfl, ⟨rfl, ⟨rfl, ⟨rfl, trivial⟩⟩⟩⟩⟩ ?_
              exact jnR_KB_take_67 n a1 a2 a3 μ (hr := hr) h
            · replace h := kbG_f hc h
              refine r_iload_n dX11_take_56 rfl ?_
              obtain ⟨x9, hx0, h⟩ := kbG_bind h
              refine r_inv_i csX11_248 (sp_KB_isWorth a3 μ hx0) rfl rfl (Nat.le_of_ble_eq_true rfl) (Nat.le_of_ble_eq_true rfl) dX11_take_57 ?_
              refine r_if_eq 67 dX11_take_60 (by decide) (fun hc => ?_) (fun hc => ?_)
              · replace h := kbG_t hc h
                refine r_le [some (.ref 0), some (.int a1), some (.int a2), some (.int a3), some (.ref 13), none, none] ⟨rfl, ⟨rfl, ⟨rfl, ⟨rfl, ⟨rfl, trivial⟩⟩⟩⟩⟩ ?_
                exact jnR_KB_take_67 n a1 a2 a3 μ (hr := hr) h
              · replace h := kbG_f hc h
                refine r_iconst 1 dX11_take_63 (by decide) ?_
                refine r_goto 68 dX11_take_64 (by decide) ?_
                refine r_le [some (.ref 0), some (.int a1), some (.int a2), some (.int a3), some (.ref 13), none, none] ⟨rfl, ⟨rfl, ⟨rfl, ⟨rfl, ⟨rfl, trivial⟩⟩⟩⟩⟩ ?_
                exact jnR_KB_take_68 n a1 a2 a3 1 μ (hr := hr) h
def f_KB_undo (n : Nat) (μ : kbM) : Option (Int32 × kbM) :=
  if (μ.1 12 5) = 0 then
    some (((-1), μ))
  else
    (f_ST_undoLast_12 n μ).bind fun x1 =>
    (f_JO_renew x1).bind fun x2 =>
    some ((x2.1 12 5, x2))
theorem sp_KB_undo {l : Launch} (n : Nat) (μ : kbM)  {x : Int32 × kbM} (h : f_KB_undo n μ = some x) : kbS l MX11_undo 4 [.ref 0] μ (kbQe (some (.int x.1)) x.2) := by
  refine kb_enter 0 rfl rfl ?_
  suffices H : ∀ (Q : kbQt) (P : Int32 × kbM → Prop), (∀ z : Int32 × kbM, P z → Q (some (.int z.1)) z.2) → kbG (f_KB_undo n μ) P → kbR l MX11_undo 4 Q 0 [some (.ref 0)] [] μ from H _ (fun z => z = x) (fun z e => by subst e; exact ⟨rfl, rfl⟩) ⟨x, h, rfl⟩
  clear h
  intro Q P hr h
  unfold f_KB_undo at h
  refine r_aload_n dX11_undo_0 rfl ?_
  refine r_getR flX11_19 sh0 rfl dX11_undo_1 ?_
  refine r_getI flX11_151 sh12 rfl dX11_undo_4 ?_
  refine r_if_ne 12 dX11_undo_7 (by decide) (fun hc => ?_) (fun hc => ?_)
  · replace h := kbG_f hc h
    refine r_aload_n dX11_undo_12 rfl ?_
    refine r_getR flX11_19 sh0 rfl dX11_undo_13 ?_
    obtain ⟨x1, hx0, h⟩ := kbG_bind h
    refine r_invV_v cvX11_278 sh12 rfl (sp_ST_undoLast_12 n μ hx0) rfl rfl (Nat.le_of_ble_eq_true rfl) (Nat.le_of_ble_eq_true rfl) dX11_undo_16 ?_
    refine r_aload_n dX11_undo_19 rfl ?_
    refine r_getR flX11_42 sh0 rfl dX11_undo_20 ?_
    obtain ⟨x2, hx0, h⟩ := kbG_bind h
    refine r_invV_v cvX11_262 sh35 rfl (sp_JO_renew x1 hx0) rfl rfl (Nat.le_of_ble_eq_true rfl) (Nat.le_of_ble_eq_true rfl) dX11_undo_23 ?_
    refine r_aload_n dX11_undo_26 rfl ?_
    refine r_getR flX11_19 sh0 rfl dX11_undo_27 ?_
    refine r_getI flX11_151 sh12 rfl dX11_undo_30 ?_
    exact r_iret rfl dX11_undo_33 (hr ((x2.1 12 5, x2)) (kbG_some h))
  · replace h := kbG_t hc h
    refine r_iconst (-1) dX11_undo_10 (by decide) ?_
    exact r_iret rfl dX11_undo_11 (hr (((-1), μ)) (kbG_some h))
def f_KB_twoWays (n : Nat) (μ : kbM) : Option (Int32 × kbM) :=
  (f_CO_shortestAmbiguous n μ).bind fun x1 =>
  some ((x1.1, x1.2))
theorem sp_KB_twoWays {l : Launch} (n : Nat) (μ : kbM)  {x : Int32 × kbM} (h : f_KB_twoWays n μ = some x) : kbS l MX11_twoWays 5 [.ref 0] μ (kbQe (some (.int x.1)) x.2) := by
  refine kb_enter 0 rfl rfl ?_
  suffices H : ∀ (Q : kbQt) (P : Int32 × kbM → Prop), (∀ z : Int32 × kbM, P z → Q (some (.int z.1)) z.2) → kbG (f_KB_twoWays n μ) P → kbR l MX11_twoWays 5 Q 0 [some (.ref 0)] [] μ from H _ (fun z => z = x) (fun z e => by subst e; exact ⟨rfl, rfl⟩) ⟨x, h, rfl⟩
  clear h
  intro Q P hr h
  unfold f_KB_twoWays at h
  refine r_aload_n dX11_twoWays_0 rfl ?_
  refine r_getR flX11_65 sh0 rfl dX11_twoWays_1 ?_
  obtain ⟨x1, hx0, h⟩ := kbG_bind h
  refine r_invV_i cvX11_284 sh48 rfl (sp_CO_shortestAmbiguous n μ hx0) rfl rfl (Nat.le_of_ble_eq_true rfl) (Nat.le_of_ble_eq_true rfl) dX11_twoWays_4 ?_
  exact r_iret rfl dX11_twoWays_7 (hr ((x1.1, x1.2)) (kbG_some h))
def f_KB_prefixes (n : Nat) (μ : kbM) : Option (Int32) :=
  (f_CO_prefixCouples n μ).bind fun x1 =>
  some x1
theorem sp_KB_prefixes {l : Launch} (n : Nat) (μ : kbM)  {x : Int32} (h : f_KB_prefixes n μ = some x) : kbS l MX11_prefixes 4 [.ref 0] μ (kbQe (some (.int x)) μ) := by
  refine kb_enter 0 rfl rfl ?_
  suffices H : ∀ (Q : kbQt) (P : Int32 → Prop), (∀ z : Int32, P z → Q (some (.int z)) μ) → kbG (f_KB_prefixes n μ) P → kbR l MX11_prefixes 4 Q 0 [some (.ref 0)] [] μ from H _ (fun z => z = x) (fun z e => by subst e; exact ⟨rfl, rfl⟩) ⟨x, h, rfl⟩
  clear h
  intro Q P hr h
  unfold f_KB_prefixes at h
  refine r_aload_n dX11_prefixes_0 rfl ?_
  refine r_getR flX11_65 sh0 rfl dX11_prefixes_1 ?_
  obtain ⟨x1, hx0, h⟩ := kbG_bind h
  refine r_invV_i cvX11_287 sh48 rfl (sp_CO_prefixCouples n μ hx0) rfl rfl (Nat.le_of_ble_eq_true rfl) (Nat.le_of_ble_eq_true rfl) dX11_prefixes_4 ?_
  exact r_iret rfl dX11_prefixes_7 (hr x1 (kbG_some h))
def f_KB_tellApart (n : Nat) (μ : kbM) : Option (Int32 × kbM) :=
  (f_HO_fewestDoors n μ).bind fun x1 =>
  some ((x1.1, x1.2))
theorem sp_KB_tellApart {l : Launch} (n : Nat) (μ : kbM)  {x : Int32 × kbM} (h : f_KB_tellApart n μ = some x) : kbS l MX11_tellApart 7 [.ref 0] μ (kbQe (some (.int x.1)) x.2) := by
  refine kb_enter 0 rfl rfl ?_
  suffices H : ∀ (Q : kbQt) (P : Int32 × kbM → Prop), (∀ z : Int32 × kbM, P z → Q (some (.int z.1)) z.2) → kbG (f_KB_tellApart n μ) P → kbR l MX11_tellApart 7 Q 0 [some (.ref 0)] [] μ from H _ (fun z => z = x) (fun z e => by subst e; exact ⟨rfl, rfl⟩) ⟨x, h, rfl⟩
  clear h
  intro Q P hr h
  unfold f_KB_tellApart at h
  refine r_aload_n dX11_tellApart_0 rfl ?_
  refine r_getR flX11_74 sh0 rfl dX11_tellApart_1 ?_
  obtain ⟨x1, hx0, h⟩ := kbG_bind h
  refine r_invV_i cvX11_290 sh51 rfl (sp_HO_fewestDoors n μ hx0) rfl rfl (Nat.le_of_ble_eq_true rfl) (Nat.le_of_ble_eq_true rfl) dX11_tellApart_4 ?_
  exact r_iret rfl dX11_tellApart_7 (hr ((x1.1, x1.2)) (kbG_some h))
def f_KB_which (n : Nat) (μ : kbM) : Option (Int32) :=
  (f_HO_wordsHeard n μ).bind fun x1 =>
  some x1
theorem sp_KB_which {l : Launch} (n : Nat) (μ : kbM)  {x : Int32} (h : f_KB_which n μ = some x) : kbS l MX11_which 6 [.ref 0] μ (kbQe (some (.int x)) μ) := by
  refine kb_enter 0 rfl rfl ?_
  suffices H : ∀ (Q : kbQt) (P : Int32 → Prop), (∀ z : Int32, P z → Q (some (.int z)) μ) → kbG (f_KB_which n μ) P → kbR l MX11_which 6 Q 0 [some (.ref 0)] [] μ from H _ (fun z => z = x) (fun z e => by subst e; exact ⟨rfl, rfl⟩) ⟨x, h, rfl⟩
  clear h
  intro Q P hr h
  unfold f_KB_which at h
  refine r_aload_n dX11_which_0 rfl ?_
  refine r_getR flX11_74 sh0 rfl dX11_which_1 ?_
  obtain ⟨x1, hx0, h⟩ := kbG_bind h
  refine r_invV_i cvX11_318 sh51 rfl (sp_HO_wordsHeard n μ hx0) rfl rfl (Nat.le_of_ble_eq_true rfl) (Nat.le_of_ble_eq_true rfl) dX11_which_4 ?_
  exact r_iret rfl dX11_which_7 (hr x1 (kbG_some h))
def f_KB_forget (μ : kbM) : Option (kbM) :=
  some (kbW μ 12 6 0)
theorem sp_KB_forget {l : Launch} (μ : kbM)  {x : kbM} (h : f_KB_forget μ = some x) : kbS l MX11_forget 1 [.ref 0] μ (kbQe none x) := by
  refine kb_enter 0 rfl rfl ?_
  suffices H : ∀ (Q : kbQt) (P : kbM → Prop), (∀ z : kbM, P z → Q none z) → kbG (f_KB_forget μ) P → kbR l MX11_forget 1 Q 0 [some (.ref 0)] [] μ from H _ (fun z => z = x) (fun z e => by subst e; exact ⟨rfl, rfl⟩) ⟨x, h, rfl⟩
  clear h
  intro Q P hr h
  unfold f_KB_forget at h
  refine r_aload_n dX11_forget_0 rfl ?_
  refine r_getR flX11_19 sh0 rfl dX11_forget_1 ?_
  refine r_iconst 0 dX11_forget_4 (by decide) ?_
  refine r_put flX11_154 sh12 rfl rfl rfl dX11_forget_5 ?_
  exact r_vret rfl dX11_forget_8 (hr (kbW μ 12 6 0) (kbG_some h))
def f_KB_image (μ : kbM) : Option (kbM) :=
  (f_ST_copyFrom_22_12 μ).bind fun x1 =>
  some (kbW x1 0 10 1)
theorem sp_KB_image {l : Launch} (μ : kbM)  {x : kbM} (h : f_KB_image μ = some x) : kbS l MX11_image 3 [.ref 0] μ (kbQe none x) := by
  refine kb_enter 0 rfl rfl ?_
  suffices H : ∀ (Q : kbQt) (P : kbM → Prop), (∀ z : kbM, P z → Q none z) → kbG (f_KB_image μ) P → kbR l MX11_image 3 Q 0 [some (.ref 0)] [] μ from H _ (fun z => z = x) (fun z e => by subst e; exact ⟨rfl, rfl⟩) ⟨x, h, rfl⟩
  clear h
  intro Q P hr h
  unfold f_KB_image at h
  refine r_aload_n dX11_image_0 rfl ?_
  refine r_getR flX11_23 sh0 rfl dX11_image_1 ?_
  refine r_aload_n dX11_image_4 rfl ?_
  refine r_getR flX11_19 sh0 rfl dX11_image_5 ?_
  obtain ⟨x1, hx0, h⟩ := kbG_bind h
  refine r_invV_v cvX11_355 sh22 rfl (sp_ST_copyFrom_22_12 μ hx0) rfl rfl (Nat.le_of_ble_eq_true rfl) (Nat.le_of_ble_eq_true rfl) dX11_image_8 ?_
  refine r_aload_n dX11_image_11 rfl ?_
  refine r_iconst 1 dX11_image_12 (by decide) ?_
  refine r_put flX11_128 sh0 rfl rfl rfl dX11_image_13 ?_
  exact r_vret rfl dX11_image_16 (hr (kbW x1 0 10 1) (kbG_some h))
def f_KB_restore (μ : kbM) : Option (Int32 × kbM) :=
  if (μ.1 0 10) = 0 then
    some ((0, μ))
  else
    (f_ST_copyFrom_12_22 μ).bind fun x1 =>
    (f_JO_renew x1).bind fun x2 =>
    some ((1, x2))
theorem sp_KB_restore {l : Launch} (μ : kbM)  {x : Int32 × kbM} (h : f_KB_restore μ = some x) : kbS l MX11_restore 3 [.ref 0] μ (kbQe (some (.int x.1)) x.2) := by
  refine kb_enter 0 rfl rfl ?_
  suffices H : ∀ (Q : kbQt) (P : Int32 × kbM → Prop), (∀ z : Int32 × kbM, P z → Q (some (.int z.1)) z.2) → kbG (f_KB_restore μ) P → kbR l MX11_restore 3 Q 0 [some (.ref 0)] [] μ from H _ (fun z => z = x) (fun z e => by subst e; exact ⟨rfl, rfl⟩) ⟨x, h, rfl⟩
  clear h
  intro Q P hr h
  unfold f_KB_restore at h
  refine r_aload_n dX11_restore_0 rfl ?_
  refine r_getI flX11_128 sh0 rfl dX11_restore_1 ?_
  refine r_if_ne 9 dX11_restore_4 (by decide) (fun hc => ?_) (fun hc => ?_)
  · replace h := kbG_f hc h
    refine r_aload_n dX11_restore_9 rfl ?_
    refine r_getR flX11_19 sh0 rfl dX11_restore_10 ?_
    refine r_aload_n dX11_restore_13 rfl ?_
    refine r_getR flX11_23 sh0 rfl dX11_restore_14 ?_
    obtain ⟨x1, hx0, h⟩ := kbG_bind h
    refine r_invV_v cvX11_355 sh12 rfl (sp_ST_copyFrom_12_22 μ hx0) rfl rfl (Nat.le_of_ble_eq_true rfl) (Nat.le_of_ble_eq_true rfl) dX11_restore_17 ?_
    refine r_aload_n dX11_restore_20 rfl ?_
    refine r_getR flX11_42 sh0 rfl dX11_restore_21 ?_
    obtain ⟨x2, hx0, h⟩ := kbG_bind h
    refine r_invV_v cvX11_262 sh35 rfl (sp_JO_renew x1 hx0) rfl rfl (Nat.le_of_ble_eq_true rfl) (Nat.le_of_ble_eq_true rfl) dX11_restore_24 ?_
    refine r_iconst 1 dX11_restore_27 (by decide) ?_
    exact r_zret rfl rfl dX11_restore_28 (hr ((1, x2)) (kbG_some h))
  · replace h := kbG_t hc h
    refine r_iconst 0 dX11_restore_7 (by decide) ?_
    exact r_zret rfl rfl dX11_restore_8 (hr ((0, μ)) (kbG_some h))
