/-! 09f: the code, instruction by instruction -/
theorem dX8_forgets_0 : decode cX8_forgets 0 = .ok (.aload_n 0, 1) := by decide +kernel
theorem dX8_forgets_1 : decode cX8_forgets 1 = .ok (.iload_n 1, 1) := by decide +kernel
theorem dX8_forgets_2 : decode cX8_forgets 2 = .ok (.bipush 7, 2) := by decide +kernel
theorem dX8_forgets_4 : decode cX8_forgets 4 = .ok (.iconst 1, 1) := by decide +kernel
theorem dX8_forgets_5 : decode cX8_forgets 5 = .ok (.invokevirtual 63, 3) := by decide +kernel
theorem dX8_forgets_8 : decode cX8_forgets 8 = .ok (.aload_n 0, 1) := by decide +kernel
theorem dX8_forgets_9 : decode cX8_forgets 9 = .ok (.iload_n 1, 1) := by decide +kernel
theorem dX8_forgets_10 : decode cX8_forgets 10 = .ok (.bipush 64, 2) := by decide +kernel
theorem dX8_forgets_12 : decode cX8_forgets 12 = .ok (.iconst 0, 1) := by decide +kernel
theorem dX8_forgets_13 : decode cX8_forgets 13 = .ok (.invokevirtual 63, 3) := by decide +kernel
theorem dX8_forgets_16 : decode cX8_forgets 16 = .ok (.iconst 0, 1) := by decide +kernel
theorem dX8_forgets_17 : decode cX8_forgets 17 = .ok (.istore_n 2, 1) := by decide +kernel
theorem dX8_forgets_18 : decode cX8_forgets 18 = .ok (.iconst 0, 1) := by decide +kernel
theorem dX8_forgets_19 : decode cX8_forgets 19 = .ok (.istore_n 3, 1) := by decide +kernel
theorem dX8_forgets_20 : decode cX8_forgets 20 = .ok (.iload_n 3, 1) := by decide +kernel
theorem dX8_forgets_21 : decode cX8_forgets 21 = .ok (.aload_n 0, 1) := by decide +kernel
theorem dX8_forgets_22 : decode cX8_forgets 22 = .ok (.getfield 9, 3) := by decide +kernel
theorem dX8_forgets_25 : decode cX8_forgets 25 = .ok (.sipush 931, 3) := by decide +kernel
theorem dX8_forgets_28 : decode cX8_forgets 28 = .ok (.iaload, 1) := by decide +kernel
theorem dX8_forgets_29 : decode cX8_forgets 29 = .ok (.if_icmp .ge 73, 3) := by decide +kernel
def k129_0 : List (Nat × XI) := [(0, x_aload 0 1), (1, x_iload 1 2), (2, x_push (7) 4), (4, x_push (1) 5), (5, x_inv 172 8 3 8), (8, x_aload 0 9), (9, x_iload 1 10), (10, x_push (64) 12), (12, x_push (0) 13), (13, x_inv 172 8 3 16), (16, x_push (0) 17), (17, x_istore 2 18), (18, x_push (0) 19), (19, x_istore 3 20), (20, x_iload 3 21), (21, x_aload 0 22), (22, x_getR 8 0 25), (25, x_push (931) 28), (28, x_iald 29), (29, x_icge 102 32)]
theorem o129_0 (scr : Nat × (Nat → Int32)) : ∀ q ∈ k129_0, XSnd xm scr Y129 q.1 q.2 := xcons (s_aload_n rfl dX8_forgets_0) (xcons (s_iload_n rfl dX8_forgets_1) (xcons (s_bipush dX8_forgets_2 rfl) (xcons (s_iconst dX8_forgets_4 rfl) (xcons (s_inv (mid := 172) xC8 cal_172 xw_472 xw_473 xw_474 dX8_forgets_5) (xcons (s_aload_n rfl dX8_forgets_8) (xcons (s_iload_n rfl dX8_forgets_9) (xcons (s_bipush dX8_forgets_10 rfl) (xcons (s_iconst dX8_forgets_12 rfl) (xcons (s_inv (mid := 172) xC8 cal_172 xw_472 xw_473 xw_474 dX8_forgets_13) (xcons (s_iconst dX8_forgets_16 rfl) (xcons (s_istore_n rfl dX8_forgets_17 (by decide)) (xcons (s_iconst dX8_forgets_18 rfl) (xcons (s_istore_n rfl dX8_forgets_19 (by decide)) (xcons (s_iload_n rfl dX8_forgets_20) (xcons (s_aload_n rfl dX8_forgets_21) (xcons (s_getR (f := 0) xC8 (by decide) xw_470 rfl dX8_forgets_22) (xcons (s_sipush dX8_forgets_25 rfl) (xcons (s_iald dX8_forgets_28) (xcons (s_icge dX8_forgets_29 rfl) (xnil))))))))))))))))))))
theorem dX8_forgets_32 : decode cX8_forgets 32 = .ok (.aload_n 0, 1) := by decide +kernel
theorem dX8_forgets_33 : decode cX8_forgets 33 = .ok (.getfield 9, 3) := by decide +kernel
theorem dX8_forgets_36 : decode cX8_forgets 36 = .ok (.sipush 932, 3) := by decide +kernel
theorem dX8_forgets_39 : decode cX8_forgets 39 = .ok (.iconst 3, 1) := by decide +kernel
theorem dX8_forgets_40 : decode cX8_forgets 40 = .ok (.iload_n 3, 1) := by decide +kernel
theorem dX8_forgets_41 : decode cX8_forgets 41 = .ok (.imul, 1) := by decide +kernel
theorem dX8_forgets_42 : decode cX8_forgets 42 = .ok (.iadd, 1) := by decide +kernel
theorem dX8_forgets_43 : decode cX8_forgets 43 = .ok (.iaload, 1) := by decide +kernel
theorem dX8_forgets_44 : decode cX8_forgets 44 = .ok (.iload_n 1, 1) := by decide +kernel
theorem dX8_forgets_45 : decode cX8_forgets 45 = .ok (.if_icmp .eq 51, 3) := by decide +kernel
theorem dX8_forgets_48 : decode cX8_forgets 48 = .ok (.iconst 0, 1) := by decide +kernel
theorem dX8_forgets_49 : decode cX8_forgets 49 = .ok (.istore 4, 2) := by decide +kernel
theorem dX8_forgets_51 : decode cX8_forgets 51 = .ok (.iload 4, 2) := by decide +kernel
theorem dX8_forgets_53 : decode cX8_forgets 53 = .ok (.iconst 3, 1) := by decide +kernel
theorem dX8_forgets_54 : decode cX8_forgets 54 = .ok (.if_icmp .ge 39, 3) := by decide +kernel
theorem dX8_forgets_57 : decode cX8_forgets 57 = .ok (.aload_n 0, 1) := by decide +kernel
theorem dX8_forgets_58 : decode cX8_forgets 58 = .ok (.getfield 9, 3) := by decide +kernel
theorem dX8_forgets_61 : decode cX8_forgets 61 = .ok (.sipush 932, 3) := by decide +kernel
theorem dX8_forgets_64 : decode cX8_forgets 64 = .ok (.iconst 3, 1) := by decide +kernel
theorem dX8_forgets_65 : decode cX8_forgets 65 = .ok (.iload_n 2, 1) := by decide +kernel
def k129_1 : List (Nat × XI) := [(32, x_aload 0 33), (33, x_getR 8 0 36), (36, x_push (932) 39), (39, x_push (3) 40), (40, x_iload 3 41), (41, x_imul 42), (42, x_iadd 43), (43, x_iald 44), (44, x_iload 1 45), (45, x_iceq 96 48), (48, x_push (0) 49), (49, x_istore 4 51), (51, x_iload 4 53), (53, x_push (3) 54), (54, x_icge 93 57), (57, x_aload 0 58), (58, x_getR 8 0 61), (61, x_push (932) 64), (64, x_push (3) 65), (65, x_iload 2 66)]
theorem o129_1 (scr : Nat × (Nat → Int32)) : ∀ q ∈ k129_1, XSnd xm scr Y129 q.1 q.2 := xcons (s_aload_n rfl dX8_forgets_32) (xcons (s_getR (f := 0) xC8 (by decide) xw_470 rfl dX8_forgets_33) (xcons (s_sipush dX8_forgets_36 rfl) (xcons (s_iconst dX8_forgets_39 rfl) (xcons (s_iload_n rfl dX8_forgets_40) (xcons (s_imul dX8_forgets_41) (xcons (s_iadd dX8_forgets_42) (xcons (s_iald dX8_forgets_43) (xcons (s_iload_n rfl dX8_forgets_44) (xcons (s_iceq dX8_forgets_45 rfl) (xcons (s_iconst dX8_forgets_48 rfl) (xcons (s_istore dX8_forgets_49 (by decide)) (xcons (s_iload dX8_forgets_51) (xcons (s_iconst dX8_forgets_53 rfl) (xcons (s_icge dX8_forgets_54 rfl) (xcons (s_aload_n rfl dX8_forgets_57) (xcons (s_getR (f := 0) xC8 (by decide) xw_470 rfl dX8_forgets_58) (xcons (s_sipush dX8_forgets_61 rfl) (xcons (s_iconst dX8_forgets_64 rfl) (xcons (s_iload_n rfl dX8_forgets_65) (xnil))))))))))))))))))))
theorem dX8_forgets_66 : decode cX8_forgets 66 = .ok (.imul, 1) := by decide +kernel
theorem dX8_forgets_67 : decode cX8_forgets 67 = .ok (.iadd, 1) := by decide +kernel
theorem dX8_forgets_68 : decode cX8_forgets 68 = .ok (.iload 4, 2) := by decide +kernel
theorem dX8_forgets_70 : decode cX8_forgets 70 = .ok (.iadd, 1) := by decide +kernel
theorem dX8_forgets_71 : decode cX8_forgets 71 = .ok (.aload_n 0, 1) := by decide +kernel
theorem dX8_forgets_72 : decode cX8_forgets 72 = .ok (.getfield 9, 3) := by decide +kernel
theorem dX8_forgets_75 : decode cX8_forgets 75 = .ok (.sipush 932, 3) := by decide +kernel
theorem dX8_forgets_78 : decode cX8_forgets 78 = .ok (.iconst 3, 1) := by decide +kernel
theorem dX8_forgets_79 : decode cX8_forgets 79 = .ok (.iload_n 3, 1) := by decide +kernel
theorem dX8_forgets_80 : decode cX8_forgets 80 = .ok (.imul, 1) := by decide +kernel
theorem dX8_forgets_81 : decode cX8_forgets 81 = .ok (.iadd, 1) := by decide +kernel
theorem dX8_forgets_82 : decode cX8_forgets 82 = .ok (.iload 4, 2) := by decide +kernel
theorem dX8_forgets_84 : decode cX8_forgets 84 = .ok (.iadd, 1) := by decide +kernel
theorem dX8_forgets_85 : decode cX8_forgets 85 = .ok (.iaload, 1) := by decide +kernel
theorem dX8_forgets_86 : decode cX8_forgets 86 = .ok (.iastore, 1) := by decide +kernel
theorem dX8_forgets_87 : decode cX8_forgets 87 = .ok (.iinc 4 1, 3) := by decide +kernel
theorem dX8_forgets_90 : decode cX8_forgets 90 = .ok (.goto (-39), 3) := by decide +kernel
theorem dX8_forgets_93 : decode cX8_forgets 93 = .ok (.iinc 2 1, 3) := by decide +kernel
theorem dX8_forgets_96 : decode cX8_forgets 96 = .ok (.iinc 3 1, 3) := by decide +kernel
theorem dX8_forgets_99 : decode cX8_forgets 99 = .ok (.goto (-79), 3) := by decide +kernel
def k129_2 : List (Nat × XI) := [(66, x_imul 67), (67, x_iadd 68), (68, x_iload 4 70), (70, x_iadd 71), (71, x_aload 0 72), (72, x_getR 8 0 75), (75, x_push (932) 78), (78, x_push (3) 79), (79, x_iload 3 80), (80, x_imul 81), (81, x_iadd 82), (82, x_iload 4 84), (84, x_iadd 85), (85, x_iald 86), (86, x_iast 87), (87, x_iinc 4 (1) 90), (90, x_goto 51), (93, x_iinc 2 (1) 96), (96, x_iinc 3 (1) 99), (99, x_goto 20)]
theorem o129_2 (scr : Nat × (Nat → Int32)) : ∀ q ∈ k129_2, XSnd xm scr Y129 q.1 q.2 := xcons (s_imul dX8_forgets_66) (xcons (s_iadd dX8_forgets_67) (xcons (s_iload dX8_forgets_68) (xcons (s_iadd dX8_forgets_70) (xcons (s_aload_n rfl dX8_forgets_71) (xcons (s_getR (f := 0) xC8 (by decide) xw_470 rfl dX8_forgets_72) (xcons (s_sipush dX8_forgets_75 rfl) (xcons (s_iconst dX8_forgets_78 rfl) (xcons (s_iload_n rfl dX8_forgets_79) (xcons (s_imul dX8_forgets_80) (xcons (s_iadd dX8_forgets_81) (xcons (s_iload dX8_forgets_82) (xcons (s_iadd dX8_forgets_84) (xcons (s_iald dX8_forgets_85) (xcons (s_iast dX8_forgets_86) (xcons (s_iinc dX8_forgets_87 rfl (by decide)) (xcons (s_goto dX8_forgets_90 rfl) (xcons (s_iinc dX8_forgets_93 rfl (by decide)) (xcons (s_iinc dX8_forgets_96 rfl (by decide)) (xcons (s_goto dX8_forgets_99 rfl) (xnil))))))))))))))))))))
theorem dX8_forgets_102 : decode cX8_forgets 102 = .ok (.aload_n 0, 1) := by decide +kernel
theorem dX8_forgets_103 : decode cX8_forgets 103 = .ok (.getfield 9, 3) := by decide +kernel
theorem dX8_forgets_106 : decode cX8_forgets 106 = .ok (.sipush 931, 3) := by decide +kernel
theorem dX8_forgets_109 : decode cX8_forgets 109 = .ok (.iload_n 2, 1) := by decide +kernel
theorem dX8_forgets_110 : decode cX8_forgets 110 = .ok (.iastore, 1) := by decide +kernel
theorem dX8_forgets_111 : decode cX8_forgets 111 = .ok (.return_, 1) := by decide +kernel
def k129_3 : List (Nat × XI) := [(102, x_aload 0 103), (103, x_getR 8 0 106), (106, x_push (931) 109), (109, x_iload 2 110), (110, x_iast 111), (111, x_ret)]
theorem o129_3 (scr : Nat × (Nat → Int32)) : ∀ q ∈ k129_3, XSnd xm scr Y129 q.1 q.2 := xcons (s_aload_n rfl dX8_forgets_102) (xcons (s_getR (f := 0) xC8 (by decide) xw_470 rfl dX8_forgets_103) (xcons (s_sipush dX8_forgets_106 rfl) (xcons (s_iload_n rfl dX8_forgets_109) (xcons (s_iast dX8_forgets_110) (xcons (s_ret dX8_forgets_111 rfl) (xnil))))))
def k129 (pc : Nat) : XI := if pc < 66 then if pc < 32 then xlk k129_0 pc else xlk k129_1 pc else if pc < 102 then xlk k129_2 pc else xlk k129_3 pc
theorem o129 (scr : Nat × (Nat → Int32)) (pc : Nat) : XSnd xm scr Y129 pc (k129 pc) := by
  unfold k129
  exact xite (xite (xlk_ok (o129_0 scr) pc) (xlk_ok (o129_1 scr) pc)) (xite (xlk_ok (o129_2 scr) pc) (xlk_ok (o129_3 scr) pc))
theorem dX8_hasStep_0 : decode cX8_hasStep 0 = .ok (.aload_n 0, 1) := by decide +kernel
theorem dX8_hasStep_1 : decode cX8_hasStep 1 = .ok (.invokevirtual 135, 3) := by decide +kernel
theorem dX8_hasStep_4 : decode cX8_hasStep 4 = .ok (.ifCond .ge 14, 3) := by decide +kernel
theorem dX8_hasStep_7 : decode cX8_hasStep 7 = .ok (.aload_n 0, 1) := by decide +kernel
theorem dX8_hasStep_8 : decode cX8_hasStep 8 = .ok (.getfield 9, 3) := by decide +kernel
theorem dX8_hasStep_11 : decode cX8_hasStep 11 = .ok (.sipush 931, 3) := by decide +kernel
theorem dX8_hasStep_14 : decode cX8_hasStep 14 = .ok (.iaload, 1) := by decide +kernel
theorem dX8_hasStep_15 : decode cX8_hasStep 15 = .ok (.ifCond .le 7, 3) := by decide +kernel
theorem dX8_hasStep_18 : decode cX8_hasStep 18 = .ok (.iconst 1, 1) := by decide +kernel
theorem dX8_hasStep_19 : decode cX8_hasStep 19 = .ok (.goto 4, 3) := by decide +kernel
theorem dX8_hasStep_22 : decode cX8_hasStep 22 = .ok (.iconst 0, 1) := by decide +kernel
theorem dX8_hasStep_23 : decode cX8_hasStep 23 = .ok (.ireturn, 1) := by decide +kernel
def k130_0 : List (Nat × XI) := [(0, x_aload 0 1), (1, x_inv 153 8 0 4), (4, x_ifge 18 7), (7, x_aload 0 8), (8, x_getR 8 0 11), (11, x_push (931) 14), (14, x_iald 15), (15, x_ifle 22 18), (18, x_push (1) 19), (19, x_goto 23), (22, x_push (0) 23), (23, x_zret)]
theorem o130_0 (scr : Nat × (Nat → Int32)) : ∀ q ∈ k130_0, XSnd xm scr Y130 q.1 q.2 := xcons (s_aload_n rfl dX8_hasStep_0) (xcons (s_inv (mid := 153) xC8 cal_153 xw_587 xw_588 xw_589 dX8_hasStep_1) (xcons (s_ifge dX8_hasStep_4 rfl) (xcons (s_aload_n rfl dX8_hasStep_7) (xcons (s_getR (f := 0) xC8 (by decide) xw_470 rfl dX8_hasStep_8) (xcons (s_sipush dX8_hasStep_11 rfl) (xcons (s_iald dX8_hasStep_14) (xcons (s_ifle dX8_hasStep_15 rfl) (xcons (s_iconst dX8_hasStep_18 rfl) (xcons (s_goto dX8_hasStep_19 rfl) (xcons (s_iconst dX8_hasStep_22 rfl) (xcons (s_zret dX8_hasStep_23 rfl) (xnil))))))))))))
def k130 (pc : Nat) : XI := xlk k130_0 pc
theorem o130 (scr : Nat × (Nat → Int32)) (pc : Nat) : XSnd xm scr Y130 pc (k130 pc) := by
  unfold k130
  exact xlk_ok (o130_0 scr) pc
theorem dX8_hold_0 : decode cX8_hold 0 = .ok (.aload_n 0, 1) := by decide +kernel
theorem dX8_hold_1 : decode cX8_hold 1 = .ok (.iload_n 1, 1) := by decide +kernel
theorem dX8_hold_2 : decode cX8_hold 2 = .ok (.invokevirtual 242, 3) := by decide +kernel
theorem dX8_hold_5 : decode cX8_hold 5 = .ok (.ifCond .eq 16, 3) := by decide +kernel
theorem dX8_hold_8 : decode cX8_hold 8 = .ok (.iload_n 2, 1) := by decide +kernel
theorem dX8_hold_9 : decode cX8_hold 9 = .ok (.iconst (-1), 1) := by decide +kernel
theorem dX8_hold_10 : decode cX8_hold 10 = .ok (.if_icmp .eq 13, 3) := by decide +kernel
theorem dX8_hold_13 : decode cX8_hold 13 = .ok (.aload_n 0, 1) := by decide +kernel
theorem dX8_hold_14 : decode cX8_hold 14 = .ok (.iload_n 2, 1) := by decide +kernel
theorem dX8_hold_15 : decode cX8_hold 15 = .ok (.invokevirtual 167, 3) := by decide +kernel
theorem dX8_hold_18 : decode cX8_hold 18 = .ok (.ifCond .ne 5, 3) := by decide +kernel
theorem dX8_hold_21 : decode cX8_hold 21 = .ok (.iconst (-1), 1) := by decide +kernel
theorem dX8_hold_22 : decode cX8_hold 22 = .ok (.ireturn, 1) := by decide +kernel
theorem dX8_hold_23 : decode cX8_hold 23 = .ok (.aload_n 0, 1) := by decide +kernel
theorem dX8_hold_24 : decode cX8_hold 24 = .ok (.getfield 28, 3) := by decide +kernel
theorem dX8_hold_27 : decode cX8_hold 27 = .ok (.iload_n 1, 1) := by decide +kernel
theorem dX8_hold_28 : decode cX8_hold 28 = .ok (.iload_n 2, 1) := by decide +kernel
theorem dX8_hold_29 : decode cX8_hold 29 = .ok (.iconst (-1), 1) := by decide +kernel
theorem dX8_hold_30 : decode cX8_hold 30 = .ok (.if_icmp .ne 7, 3) := by decide +kernel
theorem dX8_hold_33 : decode cX8_hold 33 = .ok (.iconst 0, 1) := by decide +kernel
def k131_0 : List (Nat × XI) := [(0, x_aload 0 1), (1, x_iload 1 2), (2, x_inv 139 8 1 5), (5, x_ifeq 21 8), (8, x_iload 2 9), (9, x_push (-1) 10), (10, x_iceq 23 13), (13, x_aload 0 14), (14, x_iload 2 15), (15, x_inv 136 8 1 18), (18, x_ifne 23 21), (21, x_push (-1) 22), (22, x_iret), (23, x_aload 0 24), (24, x_getR 8 12 27), (27, x_iload 1 28), (28, x_iload 2 29), (29, x_push (-1) 30), (30, x_icne 37 33), (33, x_push (0) 34)]
theorem o131_0 (scr : Nat × (Nat → Int32)) : ∀ q ∈ k131_0, XSnd xm scr Y131 q.1 q.2 := xcons (s_aload_n rfl dX8_hold_0) (xcons (s_iload_n rfl dX8_hold_1) (xcons (s_inv (mid := 139) xC8 cal_139 xw_591 xw_592 xw_593 dX8_hold_2) (xcons (s_ifeq dX8_hold_5 rfl) (xcons (s_iload_n rfl dX8_hold_8) (xcons (s_iconst dX8_hold_9 rfl) (xcons (s_iceq dX8_hold_10 rfl) (xcons (s_aload_n rfl dX8_hold_13) (xcons (s_iload_n rfl dX8_hold_14) (xcons (s_inv (mid := 136) xC8 cal_136 xw_483 xw_484 xw_485 dX8_hold_15) (xcons (s_ifne dX8_hold_18 rfl) (xcons (s_iconst dX8_hold_21 rfl) (xcons (s_iret dX8_hold_22 rfl) (xcons (s_aload_n rfl dX8_hold_23) (xcons (s_getR (f := 12) xC8 (by decide) xw_480 rfl dX8_hold_24) (xcons (s_iload_n rfl dX8_hold_27) (xcons (s_iload_n rfl dX8_hold_28) (xcons (s_iconst dX8_hold_29 rfl) (xcons (s_icne dX8_hold_30 rfl) (xcons (s_iconst dX8_hold_33 rfl) (xnil))))))))))))))))))))
theorem dX8_hold_34 : decode cX8_hold 34 = .ok (.goto 4, 3) := by decide +kernel
theorem dX8_hold_37 : decode cX8_hold 37 = .ok (.iconst 1, 1) := by decide +kernel
theorem dX8_hold_38 : decode cX8_hold 38 = .ok (.iastore, 1) := by decide +kernel
theorem dX8_hold_39 : decode cX8_hold 39 = .ok (.aload_n 0, 1) := by decide +kernel
theorem dX8_hold_40 : decode cX8_hold 40 = .ok (.getfield 31, 3) := by decide +kernel
theorem dX8_hold_43 : decode cX8_hold 43 = .ok (.iload_n 1, 1) := by decide +kernel
theorem dX8_hold_44 : decode cX8_hold 44 = .ok (.iload_n 2, 1) := by decide +kernel
theorem dX8_hold_45 : decode cX8_hold 45 = .ok (.iastore, 1) := by decide +kernel
theorem dX8_hold_46 : decode cX8_hold 46 = .ok (.iconst 1, 1) := by decide +kernel
theorem dX8_hold_47 : decode cX8_hold 47 = .ok (.ireturn, 1) := by decide +kernel
def k131_1 : List (Nat × XI) := [(34, x_goto 38), (37, x_push (1) 38), (38, x_iast 39), (39, x_aload 0 40), (40, x_getR 8 13 43), (43, x_iload 1 44), (44, x_iload 2 45), (45, x_iast 46), (46, x_push (1) 47), (47, x_iret)]
theorem o131_1 (scr : Nat × (Nat → Int32)) : ∀ q ∈ k131_1, XSnd xm scr Y131 q.1 q.2 := xcons (s_goto dX8_hold_34 rfl) (xcons (s_iconst dX8_hold_37 rfl) (xcons (s_iast dX8_hold_38) (xcons (s_aload_n rfl dX8_hold_39) (xcons (s_getR (f := 13) xC8 (by decide) xw_481 rfl dX8_hold_40) (xcons (s_iload_n rfl dX8_hold_43) (xcons (s_iload_n rfl dX8_hold_44) (xcons (s_iast dX8_hold_45) (xcons (s_iconst dX8_hold_46 rfl) (xcons (s_iret dX8_hold_47 rfl) (xnil))))))))))
def k131 (pc : Nat) : XI := if pc < 34 then xlk k131_0 pc else xlk k131_1 pc
theorem o131 (scr : Nat × (Nat → Int32)) (pc : Nat) : XSnd xm scr Y131 pc (k131 pc) := by
  unfold k131
  exact xite (xlk_ok (o131_0 scr) pc) (xlk_ok (o131_1 scr) pc)
theorem dX8_holds_0 : decode cX8_holds 0 = .ok (.iload_n 3, 1) := by decide +kernel
theorem dX8_holds_1 : decode cX8_holds 1 = .ok (.iconst 2, 1) := by decide +kernel
theorem dX8_holds_2 : decode cX8_holds 2 = .ok (.irem, 1) := by decide +kernel
theorem dX8_holds_3 : decode cX8_holds 3 = .ok (.ifCond .ne 11, 3) := by decide +kernel
theorem dX8_holds_6 : decode cX8_holds 6 = .ok (.aload_n 0, 1) := by decide +kernel
theorem dX8_holds_7 : decode cX8_holds 7 = .ok (.iload_n 1, 1) := by decide +kernel
theorem dX8_holds_8 : decode cX8_holds 8 = .ok (.invokevirtual 87, 3) := by decide +kernel
theorem dX8_holds_11 : decode cX8_holds 11 = .ok (.goto 72, 3) := by decide +kernel
theorem dX8_holds_14 : decode cX8_holds 14 = .ok (.aload_n 0, 1) := by decide +kernel
theorem dX8_holds_15 : decode cX8_holds 15 = .ok (.iload_n 1, 1) := by decide +kernel
theorem dX8_holds_16 : decode cX8_holds 16 = .ok (.bipush 38, 2) := by decide +kernel
theorem dX8_holds_18 : decode cX8_holds 18 = .ok (.invokevirtual 55, 3) := by decide +kernel
theorem dX8_holds_21 : decode cX8_holds 21 = .ok (.bipush 6, 2) := by decide +kernel
theorem dX8_holds_23 : decode cX8_holds 23 = .ok (.if_icmp .ne 12, 3) := by decide +kernel
theorem dX8_holds_26 : decode cX8_holds 26 = .ok (.aload_n 0, 1) := by decide +kernel
theorem dX8_holds_27 : decode cX8_holds 27 = .ok (.iload_n 1, 1) := by decide +kernel
theorem dX8_holds_28 : decode cX8_holds 28 = .ok (.iconst 3, 1) := by decide +kernel
theorem dX8_holds_29 : decode cX8_holds 29 = .ok (.invokevirtual 111, 3) := by decide +kernel
theorem dX8_holds_32 : decode cX8_holds 32 = .ok (.goto 51, 3) := by decide +kernel
theorem dX8_holds_35 : decode cX8_holds 35 = .ok (.aload_n 0, 1) := by decide +kernel
def k132_0 : List (Nat × XI) := [(0, x_iload 3 1), (1, x_push (2) 2), (2, x_irem 3), (3, x_ifne 14 6), (6, x_aload 0 7), (7, x_iload 1 8), (8, x_inv 115 8 1 11), (11, x_goto 83), (14, x_aload 0 15), (15, x_iload 1 16), (16, x_push (38) 18), (18, x_inv 108 8 2 21), (21, x_push (6) 23), (23, x_icne 35 26), (26, x_aload 0 27), (27, x_iload 1 28), (28, x_push (3) 29), (29, x_inv 125 8 2 32), (32, x_goto 83), (35, x_aload 0 36)]
theorem o132_0 (scr : Nat × (Nat → Int32)) : ∀ q ∈ k132_0, XSnd xm scr Y132 q.1 q.2 := xcons (s_iload_n rfl dX8_holds_0) (xcons (s_iconst dX8_holds_1 rfl) (xcons (s_irem dX8_holds_2) (xcons (s_ifne dX8_holds_3 rfl) (xcons (s_aload_n rfl dX8_holds_6) (xcons (s_iload_n rfl dX8_holds_7) (xcons (s_inv (mid := 115) xC8 cal_115 xw_595 xw_596 xw_597 dX8_holds_8) (xcons (s_goto dX8_holds_11 rfl) (xcons (s_aload_n rfl dX8_holds_14) (xcons (s_iload_n rfl dX8_holds_15) (xcons (s_bipush dX8_holds_16 rfl) (xcons (s_inv (mid := 108) xC8 cal_108 xw_508 xw_509 xw_510 dX8_holds_18) (xcons (s_bipush dX8_holds_21 rfl) (xcons (s_icne dX8_holds_23 rfl) (xcons (s_aload_n rfl dX8_holds_26) (xcons (s_iload_n rfl dX8_holds_27) (xcons (s_iconst dX8_holds_28 rfl) (xcons (s_inv (mid := 125) xC8 cal_125 xw_501 xw_502 xw_503 dX8_holds_29) (xcons (s_goto dX8_holds_32 rfl) (xcons (s_aload_n rfl dX8_holds_35) (xnil))))))))))))))))))))
theorem dX8_holds_36 : decode cX8_holds 36 = .ok (.iload_n 1, 1) := by decide +kernel
theorem dX8_holds_37 : decode cX8_holds 37 = .ok (.bipush 38, 2) := by decide +kernel
theorem dX8_holds_39 : decode cX8_holds 39 = .ok (.invokevirtual 55, 3) := by decide +kernel
theorem dX8_holds_42 : decode cX8_holds 42 = .ok (.istore 4, 2) := by decide +kernel
theorem dX8_holds_44 : decode cX8_holds 44 = .ok (.aload_n 0, 1) := by decide +kernel
theorem dX8_holds_45 : decode cX8_holds 45 = .ok (.iload_n 1, 1) := by decide +kernel
theorem dX8_holds_46 : decode cX8_holds 46 = .ok (.bipush 39, 2) := by decide +kernel
theorem dX8_holds_48 : decode cX8_holds 48 = .ok (.iconst 2, 1) := by decide +kernel
theorem dX8_holds_49 : decode cX8_holds 49 = .ok (.iload 4, 2) := by decide +kernel
theorem dX8_holds_51 : decode cX8_holds 51 = .ok (.imul, 1) := by decide +kernel
theorem dX8_holds_52 : decode cX8_holds 52 = .ok (.iadd, 1) := by decide +kernel
theorem dX8_holds_53 : decode cX8_holds 53 = .ok (.iload_n 2, 1) := by decide +kernel
theorem dX8_holds_54 : decode cX8_holds 54 = .ok (.invokevirtual 63, 3) := by decide +kernel
theorem dX8_holds_57 : decode cX8_holds 57 = .ok (.aload_n 0, 1) := by decide +kernel
theorem dX8_holds_58 : decode cX8_holds 58 = .ok (.iload_n 1, 1) := by decide +kernel
theorem dX8_holds_59 : decode cX8_holds 59 = .ok (.bipush 39, 2) := by decide +kernel
theorem dX8_holds_61 : decode cX8_holds 61 = .ok (.iconst 2, 1) := by decide +kernel
theorem dX8_holds_62 : decode cX8_holds 62 = .ok (.iload 4, 2) := by decide +kernel
theorem dX8_holds_64 : decode cX8_holds 64 = .ok (.imul, 1) := by decide +kernel
theorem dX8_holds_65 : decode cX8_holds 65 = .ok (.iadd, 1) := by decide +kernel
def k132_1 : List (Nat × XI) := [(36, x_iload 1 37), (37, x_push (38) 39), (39, x_inv 108 8 2 42), (42, x_istore 4 44), (44, x_aload 0 45), (45, x_iload 1 46), (46, x_push (39) 48), (48, x_push (2) 49), (49, x_iload 4 51), (51, x_imul 52), (52, x_iadd 53), (53, x_iload 2 54), (54, x_inv 172 8 3 57), (57, x_aload 0 58), (58, x_iload 1 59), (59, x_push (39) 61), (61, x_push (2) 62), (62, x_iload 4 64), (64, x_imul 65), (65, x_iadd 66)]
theorem o132_1 (scr : Nat × (Nat → Int32)) : ∀ q ∈ k132_1, XSnd xm scr Y132 q.1 q.2 := xcons (s_iload_n rfl dX8_holds_36) (xcons (s_bipush dX8_holds_37 rfl) (xcons (s_inv (mid := 108) xC8 cal_108 xw_508 xw_509 xw_510 dX8_holds_39) (xcons (s_istore dX8_holds_42 (by decide)) (xcons (s_aload_n rfl dX8_holds_44) (xcons (s_iload_n rfl dX8_holds_45) (xcons (s_bipush dX8_holds_46 rfl) (xcons (s_iconst dX8_holds_48 rfl) (xcons (s_iload dX8_holds_49) (xcons (s_imul dX8_holds_51) (xcons (s_iadd dX8_holds_52) (xcons (s_iload_n rfl dX8_holds_53) (xcons (s_inv (mid := 172) xC8 cal_172 xw_472 xw_473 xw_474 dX8_holds_54) (xcons (s_aload_n rfl dX8_holds_57) (xcons (s_iload_n rfl dX8_holds_58) (xcons (s_bipush dX8_holds_59 rfl) (xcons (s_iconst dX8_holds_61 rfl) (xcons (s_iload dX8_holds_62) (xcons (s_imul dX8_holds_64) (xcons (s_iadd dX8_holds_65) (xnil))))))))))))))))))))
theorem dX8_holds_66 : decode cX8_holds 66 = .ok (.iconst 1, 1) := by decide +kernel
theorem dX8_holds_67 : decode cX8_holds 67 = .ok (.iadd, 1) := by decide +kernel
theorem dX8_holds_68 : decode cX8_holds 68 = .ok (.iload_n 3, 1) := by decide +kernel
theorem dX8_holds_69 : decode cX8_holds 69 = .ok (.invokevirtual 63, 3) := by decide +kernel
theorem dX8_holds_72 : decode cX8_holds 72 = .ok (.aload_n 0, 1) := by decide +kernel
theorem dX8_holds_73 : decode cX8_holds 73 = .ok (.iload_n 1, 1) := by decide +kernel
theorem dX8_holds_74 : decode cX8_holds 74 = .ok (.bipush 38, 2) := by decide +kernel
theorem dX8_holds_76 : decode cX8_holds 76 = .ok (.iload 4, 2) := by decide +kernel
theorem dX8_holds_78 : decode cX8_holds 78 = .ok (.iconst 1, 1) := by decide +kernel
theorem dX8_holds_79 : decode cX8_holds 79 = .ok (.iadd, 1) := by decide +kernel
theorem dX8_holds_80 : decode cX8_holds 80 = .ok (.invokevirtual 63, 3) := by decide +kernel
theorem dX8_holds_83 : decode cX8_holds 83 = .ok (.return_, 1) := by decide +kernel
def k132_2 : List (Nat × XI) := [(66, x_push (1) 67), (67, x_iadd 68), (68, x_iload 3 69), (69, x_inv 172 8 3 72), (72, x_aload 0 73), (73, x_iload 1 74), (74, x_push (38) 76), (76, x_iload 4 78), (78, x_push (1) 79), (79, x_iadd 80), (80, x_inv 172 8 3 83), (83, x_ret)]
theorem o132_2 (scr : Nat × (Nat → Int32)) : ∀ q ∈ k132_2, XSnd xm scr Y132 q.1 q.2 := xcons (s_iconst dX8_holds_66 rfl) (xcons (s_iadd dX8_holds_67) (xcons (s_iload_n rfl dX8_holds_68) (xcons (s_inv (mid := 172) xC8 cal_172 xw_472 xw_473 xw_474 dX8_holds_69) (xcons (s_aload_n rfl dX8_holds_72) (xcons (s_iload_n rfl dX8_holds_73) (xcons (s_bipush dX8_holds_74 rfl) (xcons (s_iload dX8_holds_76) (xcons (s_iconst dX8_holds_78 rfl) (xcons (s_iadd dX8_holds_79) (xcons (s_inv (mid := 172) xC8 cal_172 xw_472 xw_473 xw_474 dX8_holds_80) (xcons (s_ret dX8_holds_83 rfl) (xnil))))))))))))
def k132 (pc : Nat) : XI := if pc < 36 then xlk k132_0 pc else if pc < 66 then xlk k132_1 pc else xlk k132_2 pc
theorem o132 (scr : Nat × (Nat → Int32)) (pc : Nat) : XSnd xm scr Y132 pc (k132 pc) := by
  unfold k132
  exact xite (xlk_ok (o132_0 scr) pc) (xite (xlk_ok (o132_1 scr) pc) (xlk_ok (o132_2 scr) pc))
theorem dX8_image_0 : decode cX8_image 0 = .ok (.aload_n 0, 1) := by decide +kernel
theorem dX8_image_1 : decode cX8_image 1 = .ok (.getfield 9, 3) := by decide +kernel
theorem dX8_image_4 : decode cX8_image 4 = .ok (.aload_n 0, 1) := by decide +kernel
theorem dX8_image_5 : decode cX8_image 5 = .ok (.getfield 19, 3) := by decide +kernel
theorem dX8_image_8 : decode cX8_image 8 = .ok (.invokestatic 200, 3) := by decide +kernel
theorem dX8_image_11 : decode cX8_image 11 = .ok (.aload_n 0, 1) := by decide +kernel
theorem dX8_image_12 : decode cX8_image 12 = .ok (.iconst 1, 1) := by decide +kernel
theorem dX8_image_13 : decode cX8_image 13 = .ok (.putfield 248, 3) := by decide +kernel
theorem dX8_image_16 : decode cX8_image 16 = .ok (.aload_n 0, 1) := by decide +kernel
theorem dX8_image_17 : decode cX8_image 17 = .ok (.getfield 9, 3) := by decide +kernel
theorem dX8_image_20 : decode cX8_image 20 = .ok (.sipush 924, 3) := by decide +kernel
theorem dX8_image_23 : decode cX8_image 23 = .ok (.iaload, 1) := by decide +kernel
theorem dX8_image_24 : decode cX8_image 24 = .ok (.ireturn, 1) := by decide +kernel
def k133_0 : List (Nat × XI) := [(0, x_aload 0 1), (1, x_getR 8 0 4), (4, x_aload 0 5), (5, x_getR 8 3 8), (8, x_invS 179 2 11), (11, x_aload 0 12), (12, x_push (1) 13), (13, x_putZ 8 4 16), (16, x_aload 0 17), (17, x_getR 8 0 20), (20, x_push (924) 23), (23, x_iald 24), (24, x_iret)]
theorem o133_0 (scr : Nat × (Nat → Int32)) : ∀ q ∈ k133_0, XSnd xm scr Y133 q.1 q.2 := xcons (s_aload_n rfl dX8_image_0) (xcons (s_getR (f := 0) xC8 (by decide) xw_470 rfl dX8_image_1) (xcons (s_aload_n rfl dX8_image_4) (xcons (s_getR (f := 3) xC8 (by decide) xw_476 rfl dX8_image_5) (xcons (s_invS (mid := 179) cal_179 xw_478 xw_479 dX8_image_8) (xcons (s_aload_n rfl dX8_image_11) (xcons (s_iconst dX8_image_12 rfl) (xcons (s_putZ (f := 4) xC8 (by decide) xw_475 rfl (Or.inl rfl) dX8_image_13) (xcons (s_aload_n rfl dX8_image_16) (xcons (s_getR (f := 0) xC8 (by decide) xw_470 rfl dX8_image_17) (xcons (s_sipush dX8_image_20 rfl) (xcons (s_iald dX8_image_23) (xcons (s_iret dX8_image_24 rfl) (xnil)))))))))))))
def k133 (pc : Nat) : XI := xlk k133_0 pc
theorem o133 (scr : Nat × (Nat → Int32)) (pc : Nat) : XSnd xm scr Y133 pc (k133 pc) := by
  unfold k133
  exact xlk_ok (o133_0 scr) pc
theorem dX8_in_0 : decode cX8_in 0 = .ok (.iload_n 0, 1) := by decide +kernel
theorem dX8_in_1 : decode cX8_in 1 = .ok (.iload_n 1, 1) := by decide +kernel
theorem dX8_in_2 : decode cX8_in 2 = .ok (.if_icmp .lt 12, 3) := by decide +kernel
theorem dX8_in_5 : decode cX8_in 5 = .ok (.iload_n 0, 1) := by decide +kernel
theorem dX8_in_6 : decode cX8_in 6 = .ok (.iload_n 2, 1) := by decide +kernel
theorem dX8_in_7 : decode cX8_in 7 = .ok (.if_icmp .gt 7, 3) := by decide +kernel
theorem dX8_in_10 : decode cX8_in 10 = .ok (.iconst 1, 1) := by decide +kernel
theorem dX8_in_11 : decode cX8_in 11 = .ok (.goto 4, 3) := by decide +kernel
theorem dX8_in_14 : decode cX8_in 14 = .ok (.iconst 0, 1) := by decide +kernel
theorem dX8_in_15 : decode cX8_in 15 = .ok (.ireturn, 1) := by decide +kernel
def k134_0 : List (Nat × XI) := [(0, x_iload 0 1), (1, x_iload 1 2), (2, x_iclt 14 5), (5, x_iload 0 6), (6, x_iload 2 7), (7, x_icgt 14 10), (10, x_push (1) 11), (11, x_goto 15), (14, x_push (0) 15), (15, x_zret)]
theorem o134_0 (scr : Nat × (Nat → Int32)) : ∀ q ∈ k134_0, XSnd xm scr Y134 q.1 q.2 := xcons (s_iload_n rfl dX8_in_0) (xcons (s_iload_n rfl dX8_in_1) (xcons (s_iclt dX8_in_2 rfl) (xcons (s_iload_n rfl dX8_in_5) (xcons (s_iload_n rfl dX8_in_6) (xcons (s_icgt dX8_in_7 rfl) (xcons (s_iconst dX8_in_10 rfl) (xcons (s_goto dX8_in_11 rfl) (xcons (s_iconst dX8_in_14 rfl) (xcons (s_zret dX8_in_15 rfl) (xnil))))))))))
def k134 (pc : Nat) : XI := xlk k134_0 pc
theorem o134 (scr : Nat × (Nat → Int32)) (pc : Nat) : XSnd xm scr Y134 pc (k134 pc) := by
  unfold k134
  exact xlk_ok (o134_0 scr) pc
theorem dX8_init_0 : decode cX8_init 0 = .ok (.aload_n 0, 1) := by decide +kernel
theorem dX8_init_1 : decode cX8_init 1 = .ok (.invokespecial 3, 3) := by decide +kernel
theorem dX8_init_4 : decode cX8_init 4 = .ok (.aload_n 0, 1) := by decide +kernel
theorem dX8_init_5 : decode cX8_init 5 = .ok (.sipush 1018, 3) := by decide +kernel
theorem dX8_init_8 : decode cX8_init 8 = .ok (.newarray .int, 2) := by decide +kernel
theorem dX8_init_10 : decode cX8_init 10 = .ok (.putfield 9, 3) := by decide +kernel
theorem dX8_init_13 : decode cX8_init 13 = .ok (.aload_n 0, 1) := by decide +kernel
theorem dX8_init_14 : decode cX8_init 14 = .ok (.sipush 1018, 3) := by decide +kernel
theorem dX8_init_17 : decode cX8_init 17 = .ok (.newarray .int, 2) := by decide +kernel
theorem dX8_init_19 : decode cX8_init 19 = .ok (.putfield 13, 3) := by decide +kernel
theorem dX8_init_22 : decode cX8_init 22 = .ok (.aload_n 0, 1) := by decide +kernel
theorem dX8_init_23 : decode cX8_init 23 = .ok (.sipush 1018, 3) := by decide +kernel
theorem dX8_init_26 : decode cX8_init 26 = .ok (.newarray .int, 2) := by decide +kernel
theorem dX8_init_28 : decode cX8_init 28 = .ok (.putfield 16, 3) := by decide +kernel
theorem dX8_init_31 : decode cX8_init 31 = .ok (.aload_n 0, 1) := by decide +kernel
theorem dX8_init_32 : decode cX8_init 32 = .ok (.sipush 1018, 3) := by decide +kernel
theorem dX8_init_35 : decode cX8_init 35 = .ok (.newarray .int, 2) := by decide +kernel
theorem dX8_init_37 : decode cX8_init 37 = .ok (.putfield 19, 3) := by decide +kernel
theorem dX8_init_40 : decode cX8_init 40 = .ok (.aload_n 0, 1) := by decide +kernel
theorem dX8_init_41 : decode cX8_init 41 = .ok (.bipush 26, 2) := by decide +kernel
def k135_0 : List (Nat × XI) := [(0, x_aload 0 1), (1, x_obj 4), (4, x_aload 0 5), (5, x_push (1018) 8), (8, x_newI 10), (10, x_putR 8 0 13), (13, x_aload 0 14), (14, x_push (1018) 17), (17, x_newI 19), (19, x_putR 8 1 22), (22, x_aload 0 23), (23, x_push (1018) 26), (26, x_newI 28), (28, x_putR 8 2 31), (31, x_aload 0 32), (32, x_push (1018) 35), (35, x_newI 37), (37, x_putR 8 3 40), (40, x_aload 0 41), (41, x_push (26) 43)]
theorem o135_0 (scr : Nat × (Nat → Int32)) : ∀ q ∈ k135_0, XSnd xm scr Y135 q.1 q.2 := xcons (s_aload_n rfl dX8_init_0) (xcons (s_obj xw_598 xw_30 xw_31 dX8_init_1) (xcons (s_aload_n rfl dX8_init_4) (xcons (s_sipush dX8_init_5 rfl) (xcons (s_newI xw_64 dX8_init_8) (xcons (s_putR (f := 0) xC8 (by decide) xw_470 rfl (Or.inr ⟨rfl, rfl, rfl⟩) dX8_init_10) (xcons (s_aload_n rfl dX8_init_13) (xcons (s_sipush dX8_init_14 rfl) (xcons (s_newI xw_64 dX8_init_17) (xcons (s_putR (f := 1) xC8 (by decide) xw_494 rfl (Or.inr ⟨rfl, rfl, rfl⟩) dX8_init_19) (xcons (s_aload_n rfl dX8_init_22) (xcons (s_sipush dX8_init_23 rfl) (xcons (s_newI xw_64 dX8_init_26) (xcons (s_putR (f := 2) xC8 (by decide) xw_599 rfl (Or.inr ⟨rfl, rfl, rfl⟩) dX8_init_28) (xcons (s_aload_n rfl dX8_init_31) (xcons (s_sipush dX8_init_32 rfl) (xcons (s_newI xw_64 dX8_init_35) (xcons (s_putR (f := 3) xC8 (by decide) xw_476 rfl (Or.inr ⟨rfl, rfl, rfl⟩) dX8_init_37) (xcons (s_aload_n rfl dX8_init_40) (xcons (s_bipush dX8_init_41 rfl) (xnil))))))))))))))))))))
theorem dX8_init_43 : decode cX8_init 43 = .ok (.newarray .int, 2) := by decide +kernel
theorem dX8_init_45 : decode cX8_init 45 = .ok (.putfield 22, 3) := by decide +kernel
theorem dX8_init_48 : decode cX8_init 48 = .ok (.aload_n 0, 1) := by decide +kernel
theorem dX8_init_49 : decode cX8_init 49 = .ok (.bipush 120, 2) := by decide +kernel
theorem dX8_init_51 : decode cX8_init 51 = .ok (.newarray .int, 2) := by decide +kernel
theorem dX8_init_53 : decode cX8_init 53 = .ok (.putfield 25, 3) := by decide +kernel
theorem dX8_init_56 : decode cX8_init 56 = .ok (.aload_n 0, 1) := by decide +kernel
theorem dX8_init_57 : decode cX8_init 57 = .ok (.bipush 6, 2) := by decide +kernel
theorem dX8_init_59 : decode cX8_init 59 = .ok (.newarray .int, 2) := by decide +kernel
theorem dX8_init_61 : decode cX8_init 61 = .ok (.putfield 28, 3) := by decide +kernel
theorem dX8_init_64 : decode cX8_init 64 = .ok (.aload_n 0, 1) := by decide +kernel
theorem dX8_init_65 : decode cX8_init 65 = .ok (.bipush 6, 2) := by decide +kernel
theorem dX8_init_67 : decode cX8_init 67 = .ok (.newarray .int, 2) := by decide +kernel
theorem dX8_init_69 : decode cX8_init 69 = .ok (.putfield 31, 3) := by decide +kernel
theorem dX8_init_72 : decode cX8_init 72 = .ok (.aload_n 0, 1) := by decide +kernel
theorem dX8_init_73 : decode cX8_init 73 = .ok (.bipush 6, 2) := by decide +kernel
theorem dX8_init_75 : decode cX8_init 75 = .ok (.newarray .int, 2) := by decide +kernel
theorem dX8_init_77 : decode cX8_init 77 = .ok (.putfield 34, 3) := by decide +kernel
theorem dX8_init_80 : decode cX8_init 80 = .ok (.aload_n 0, 1) := by decide +kernel
theorem dX8_init_81 : decode cX8_init 81 = .ok (.bipush 6, 2) := by decide +kernel
def k135_1 : List (Nat × XI) := [(43, x_newI 45), (45, x_putR 8 8 48), (48, x_aload 0 49), (49, x_push (120) 51), (51, x_newI 53), (53, x_putR 8 10 56), (56, x_aload 0 57), (57, x_push (6) 59), (59, x_newI 61), (61, x_putR 8 12 64), (64, x_aload 0 65), (65, x_push (6) 67), (67, x_newI 69), (69, x_putR 8 13 72), (72, x_aload 0 73), (73, x_push (6) 75), (75, x_newI 77), (77, x_putR 8 14 80), (80, x_aload 0 81), (81, x_push (6) 83)]
theorem o135_1 (scr : Nat × (Nat → Int32)) : ∀ q ∈ k135_1, XSnd xm scr Y135 q.1 q.2 := xcons (s_newI xw_64 dX8_init_43) (xcons (s_putR (f := 8) xC8 (by decide) xw_564 rfl (Or.inr ⟨rfl, rfl, rfl⟩) dX8_init_45) (xcons (s_aload_n rfl dX8_init_48) (xcons (s_bipush dX8_init_49 rfl) (xcons (s_newI xw_64 dX8_init_51) (xcons (s_putR (f := 10) xC8 (by decide) xw_577 rfl (Or.inr ⟨rfl, rfl, rfl⟩) dX8_init_53) (xcons (s_aload_n rfl dX8_init_56) (xcons (s_bipush dX8_init_57 rfl) (xcons (s_newI xw_64 dX8_init_59) (xcons (s_putR (f := 12) xC8 (by decide) xw_480 rfl (Or.inr ⟨rfl, rfl, rfl⟩) dX8_init_61) (xcons (s_aload_n rfl dX8_init_64) (xcons (s_bipush dX8_init_65 rfl) (xcons (s_newI xw_64 dX8_init_67) (xcons (s_putR (f := 13) xC8 (by decide) xw_481 rfl (Or.inr ⟨rfl, rfl, rfl⟩) dX8_init_69) (xcons (s_aload_n rfl dX8_init_72) (xcons (s_bipush dX8_init_73 rfl) (xcons (s_newI xw_64 dX8_init_75) (xcons (s_putR (f := 14) xC8 (by decide) xw_600 rfl (Or.inr ⟨rfl, rfl, rfl⟩) dX8_init_77) (xcons (s_aload_n rfl dX8_init_80) (xcons (s_bipush dX8_init_81 rfl) (xnil))))))))))))))))))))
theorem dX8_init_83 : decode cX8_init 83 = .ok (.bipush 60, 2) := by decide +kernel
theorem dX8_init_85 : decode cX8_init 85 = .ok (.multianewarray 37 2, 4) := by decide +kernel
theorem dX8_init_89 : decode cX8_init 89 = .ok (.putfield 39, 3) := by decide +kernel
theorem dX8_init_92 : decode cX8_init 92 = .ok (.aload_n 0, 1) := by decide +kernel
theorem dX8_init_93 : decode cX8_init 93 = .ok (.bipush 12, 2) := by decide +kernel
theorem dX8_init_95 : decode cX8_init 95 = .ok (.newarray .int, 2) := by decide +kernel
theorem dX8_init_97 : decode cX8_init 97 = .ok (.putfield 42, 3) := by decide +kernel
theorem dX8_init_100 : decode cX8_init 100 = .ok (.aload_n 0, 1) := by decide +kernel
theorem dX8_init_101 : decode cX8_init 101 = .ok (.bipush 12, 2) := by decide +kernel
theorem dX8_init_103 : decode cX8_init 103 = .ok (.newarray .int, 2) := by decide +kernel
theorem dX8_init_105 : decode cX8_init 105 = .ok (.putfield 45, 3) := by decide +kernel
theorem dX8_init_108 : decode cX8_init 108 = .ok (.aload_n 0, 1) := by decide +kernel
theorem dX8_init_109 : decode cX8_init 109 = .ok (.iconst 5, 1) := by decide +kernel
theorem dX8_init_110 : decode cX8_init 110 = .ok (.newarray .int, 2) := by decide +kernel
theorem dX8_init_112 : decode cX8_init 112 = .ok (.putfield 48, 3) := by decide +kernel
theorem dX8_init_115 : decode cX8_init 115 = .ok (.aload_n 0, 1) := by decide +kernel
theorem dX8_init_116 : decode cX8_init 116 = .ok (.getfield 9, 3) := by decide +kernel
theorem dX8_init_119 : decode cX8_init 119 = .ok (.sipush 928, 3) := by decide +kernel
theorem dX8_init_122 : decode cX8_init 122 = .ok (.iconst (-1), 1) := by decide +kernel
theorem dX8_init_123 : decode cX8_init 123 = .ok (.iastore, 1) := by decide +kernel
def k135_2 : List (Nat × XI) := [(83, x_push (60) 85), (85, x_mna 89), (89, x_putR 8 15 92), (92, x_aload 0 93), (93, x_push (12) 95), (95, x_newI 97), (97, x_putR 8 16 100), (100, x_aload 0 101), (101, x_push (12) 103), (103, x_newI 105), (105, x_putR 8 17 108), (108, x_aload 0 109), (109, x_push (5) 110), (110, x_newI 112), (112, x_putR 8 21 115), (115, x_aload 0 116), (116, x_getR 8 0 119), (119, x_push (928) 122), (122, x_push (-1) 123), (123, x_iast 124)]
theorem o135_2 (scr : Nat × (Nat → Int32)) : ∀ q ∈ k135_2, XSnd xm scr Y135 q.1 q.2 := xcons (s_bipush dX8_init_83 rfl) (xcons (s_mna xw_601 xw_64 dX8_init_85) (xcons (s_putR (f := 15) xC8 (by decide) xw_602 rfl (Or.inr ⟨rfl, rfl, rfl⟩) dX8_init_89) (xcons (s_aload_n rfl dX8_init_92) (xcons (s_bipush dX8_init_93 rfl) (xcons (s_newI xw_64 dX8_init_95) (xcons (s_putR (f := 16) xC8 (by decide) xw_603 rfl (Or.inr ⟨rfl, rfl, rfl⟩) dX8_init_97) (xcons (s_aload_n rfl dX8_init_100) (xcons (s_bipush dX8_init_101 rfl) (xcons (s_newI xw_64 dX8_init_103) (xcons (s_putR (f := 17) xC8 (by decide) xw_604 rfl (Or.inr ⟨rfl, rfl, rfl⟩) dX8_init_105) (xcons (s_aload_n rfl dX8_init_108) (xcons (s_iconst dX8_init_109 rfl) (xcons (s_newI xw_64 dX8_init_110) (xcons (s_putR (f := 21) xC8 (by decide) xw_547 rfl (Or.inr ⟨rfl, rfl, rfl⟩) dX8_init_112) (xcons (s_aload_n rfl dX8_init_115) (xcons (s_getR (f := 0) xC8 (by decide) xw_470 rfl dX8_init_116) (xcons (s_sipush dX8_init_119 rfl) (xcons (s_iconst dX8_init_122 rfl) (xcons (s_iast dX8_init_123) (xnil))))))))))))))))))))
theorem dX8_init_124 : decode cX8_init 124 = .ok (.aload_n 0, 1) := by decide +kernel
theorem dX8_init_125 : decode cX8_init 125 = .ok (.getfield 9, 3) := by decide +kernel
theorem dX8_init_128 : decode cX8_init 128 = .ok (.sipush 929, 3) := by decide +kernel
theorem dX8_init_131 : decode cX8_init 131 = .ok (.iconst 1, 1) := by decide +kernel
theorem dX8_init_132 : decode cX8_init 132 = .ok (.iastore, 1) := by decide +kernel
theorem dX8_init_133 : decode cX8_init 133 = .ok (.return_, 1) := by decide +kernel
def k135_3 : List (Nat × XI) := [(124, x_aload 0 125), (125, x_getR 8 0 128), (128, x_push (929) 131), (131, x_push (1) 132), (132, x_iast 133), (133, x_ret)]
theorem o135_3 (scr : Nat × (Nat → Int32)) : ∀ q ∈ k135_3, XSnd xm scr Y135 q.1 q.2 := xcons (s_aload_n rfl dX8_init_124) (xcons (s_getR (f := 0) xC8 (by decide) xw_470 rfl dX8_init_125) (xcons (s_sipush dX8_init_128 rfl) (xcons (s_iconst dX8_init_131 rfl) (xcons (s_iast dX8_init_132) (xcons (s_ret dX8_init_133 rfl) (xnil))))))
def k135 (pc : Nat) : XI := if pc < 83 then if pc < 43 then xlk k135_0 pc else xlk k135_1 pc else if pc < 124 then xlk k135_2 pc else xlk k135_3 pc
theorem o135 (scr : Nat × (Nat → Int32)) (pc : Nat) : XSnd xm scr Y135 pc (k135 pc) := by
  unfold k135
  exact xite (xite (xlk_ok (o135_0 scr) pc) (xlk_ok (o135_1 scr) pc)) (xite (xlk_ok (o135_2 scr) pc) (xlk_ok (o135_3 scr) pc))
theorem dX8_isActor_0 : decode cX8_isActor 0 = .ok (.iload_n 1, 1) := by decide +kernel
theorem dX8_isActor_1 : decode cX8_isActor 1 = .ok (.iconst 0, 1) := by decide +kernel
theorem dX8_isActor_2 : decode cX8_isActor 2 = .ok (.aload_n 0, 1) := by decide +kernel
theorem dX8_isActor_3 : decode cX8_isActor 3 = .ok (.getfield 9, 3) := by decide +kernel
theorem dX8_isActor_6 : decode cX8_isActor 6 = .ok (.sipush 924, 3) := by decide +kernel
theorem dX8_isActor_9 : decode cX8_isActor 9 = .ok (.iaload, 1) := by decide +kernel
theorem dX8_isActor_10 : decode cX8_isActor 10 = .ok (.iconst 1, 1) := by decide +kernel
theorem dX8_isActor_11 : decode cX8_isActor 11 = .ok (.isub, 1) := by decide +kernel
theorem dX8_isActor_12 : decode cX8_isActor 12 = .ok (.invokestatic 51, 3) := by decide +kernel
theorem dX8_isActor_15 : decode cX8_isActor 15 = .ok (.ireturn, 1) := by decide +kernel
def k136_0 : List (Nat × XI) := [(0, x_iload 1 1), (1, x_push (0) 2), (2, x_aload 0 3), (3, x_getR 8 0 6), (6, x_push (924) 9), (9, x_iald 10), (10, x_push (1) 11), (11, x_isub 12), (12, x_invS 134 3 15), (15, x_zret)]
theorem o136_0 (scr : Nat × (Nat → Int32)) : ∀ q ∈ k136_0, XSnd xm scr Y136 q.1 q.2 := xcons (s_iload_n rfl dX8_isActor_0) (xcons (s_iconst dX8_isActor_1 rfl) (xcons (s_aload_n rfl dX8_isActor_2) (xcons (s_getR (f := 0) xC8 (by decide) xw_470 rfl dX8_isActor_3) (xcons (s_sipush dX8_isActor_6 rfl) (xcons (s_iald dX8_isActor_9) (xcons (s_iconst dX8_isActor_10 rfl) (xcons (s_isub dX8_isActor_11) (xcons (s_invS (mid := 134) cal_134 xw_487 xw_488 dX8_isActor_12) (xcons (s_zret dX8_isActor_15 rfl) (xnil))))))))))
def k136 (pc : Nat) : XI := xlk k136_0 pc
theorem o136 (scr : Nat × (Nat → Int32)) (pc : Nat) : XSnd xm scr Y136 pc (k136 pc) := by
  unfold k136
  exact xlk_ok (o136_0 scr) pc
theorem dX8_isEnd_0 : decode cX8_isEnd 0 = .ok (.aload_n 0, 1) := by decide +kernel
theorem dX8_isEnd_1 : decode cX8_isEnd 1 = .ok (.aload_n 0, 1) := by decide +kernel
theorem dX8_isEnd_2 : decode cX8_isEnd 2 = .ok (.getfield 9, 3) := by decide +kernel
theorem dX8_isEnd_5 : decode cX8_isEnd 5 = .ok (.sipush 924, 3) := by decide +kernel
theorem dX8_isEnd_8 : decode cX8_isEnd 8 = .ok (.iaload, 1) := by decide +kernel
theorem dX8_isEnd_9 : decode cX8_isEnd 9 = .ok (.ifCond .le 15, 3) := by decide +kernel
theorem dX8_isEnd_12 : decode cX8_isEnd 12 = .ok (.aload_n 0, 1) := by decide +kernel
theorem dX8_isEnd_13 : decode cX8_isEnd 13 = .ok (.iconst 0, 1) := by decide +kernel
theorem dX8_isEnd_14 : decode cX8_isEnd 14 = .ok (.invokevirtual 59, 3) := by decide +kernel
theorem dX8_isEnd_17 : decode cX8_isEnd 17 = .ok (.ifCond .ne 7, 3) := by decide +kernel
theorem dX8_isEnd_20 : decode cX8_isEnd 20 = .ok (.iconst 2, 1) := by decide +kernel
theorem dX8_isEnd_21 : decode cX8_isEnd 21 = .ok (.goto 15, 3) := by decide +kernel
theorem dX8_isEnd_24 : decode cX8_isEnd 24 = .ok (.aload_n 0, 1) := by decide +kernel
theorem dX8_isEnd_25 : decode cX8_isEnd 25 = .ok (.invokevirtual 154, 3) := by decide +kernel
theorem dX8_isEnd_28 : decode cX8_isEnd 28 = .ok (.ifCond .ne 7, 3) := by decide +kernel
theorem dX8_isEnd_31 : decode cX8_isEnd 31 = .ok (.iconst 1, 1) := by decide +kernel
theorem dX8_isEnd_32 : decode cX8_isEnd 32 = .ok (.goto 4, 3) := by decide +kernel
theorem dX8_isEnd_35 : decode cX8_isEnd 35 = .ok (.iconst 0, 1) := by decide +kernel
theorem dX8_isEnd_36 : decode cX8_isEnd 36 = .ok (.putfield 158, 3) := by decide +kernel
theorem dX8_isEnd_39 : decode cX8_isEnd 39 = .ok (.aload_n 0, 1) := by decide +kernel
def k137_0 : List (Nat × XI) := [(0, x_aload 0 1), (1, x_aload 0 2), (2, x_getR 8 0 5), (5, x_push (924) 8), (8, x_iald 9), (9, x_ifle 24 12), (12, x_aload 0 13), (13, x_push (0) 14), (14, x_inv 140 8 1 17), (17, x_ifne 24 20), (20, x_push (2) 21), (21, x_goto 36), (24, x_aload 0 25), (25, x_inv 130 8 0 28), (28, x_ifne 35 31), (31, x_push (1) 32), (32, x_goto 36), (35, x_push (0) 36), (36, x_putI 8 18 39), (39, x_aload 0 40)]
theorem o137_0 (scr : Nat × (Nat → Int32)) : ∀ q ∈ k137_0, XSnd xm scr Y137 q.1 q.2 := xcons (s_aload_n rfl dX8_isEnd_0) (xcons (s_aload_n rfl dX8_isEnd_1) (xcons (s_getR (f := 0) xC8 (by decide) xw_470 rfl dX8_isEnd_2) (xcons (s_sipush dX8_isEnd_5 rfl) (xcons (s_iald dX8_isEnd_8) (xcons (s_ifle dX8_isEnd_9 rfl) (xcons (s_aload_n rfl dX8_isEnd_12) (xcons (s_iconst dX8_isEnd_13 rfl) (xcons (s_inv (mid := 140) xC8 cal_140 xw_490 xw_491 xw_492 dX8_isEnd_14) (xcons (s_ifne dX8_isEnd_17 rfl) (xcons (s_iconst dX8_isEnd_20 rfl) (xcons (s_goto dX8_isEnd_21 rfl) (xcons (s_aload_n rfl dX8_isEnd_24) (xcons (s_inv (mid := 130) xC8 cal_130 xw_606 xw_607 xw_608 dX8_isEnd_25) (xcons (s_ifne dX8_isEnd_28 rfl) (xcons (s_iconst dX8_isEnd_31 rfl) (xcons (s_goto dX8_isEnd_32 rfl) (xcons (s_iconst dX8_isEnd_35 rfl) (xcons (s_putI (f := 18) xC8 (by decide) xw_561 rfl (Or.inl rfl) dX8_isEnd_36) (xcons (s_aload_n rfl dX8_isEnd_39) (xnil))))))))))))))))))))
theorem dX8_isEnd_40 : decode cX8_isEnd 40 = .ok (.getfield 158, 3) := by decide +kernel
theorem dX8_isEnd_43 : decode cX8_isEnd 43 = .ok (.ifCond .gt 8, 3) := by decide +kernel
theorem dX8_isEnd_46 : decode cX8_isEnd 46 = .ok (.iload_n 1, 1) := by decide +kernel
theorem dX8_isEnd_47 : decode cX8_isEnd 47 = .ok (.iload_n 2, 1) := by decide +kernel
theorem dX8_isEnd_48 : decode cX8_isEnd 48 = .ok (.if_icmp .ne 7, 3) := by decide +kernel
theorem dX8_isEnd_51 : decode cX8_isEnd 51 = .ok (.iconst 1, 1) := by decide +kernel
theorem dX8_isEnd_52 : decode cX8_isEnd 52 = .ok (.goto 4, 3) := by decide +kernel
theorem dX8_isEnd_55 : decode cX8_isEnd 55 = .ok (.iconst 0, 1) := by decide +kernel
theorem dX8_isEnd_56 : decode cX8_isEnd 56 = .ok (.ireturn, 1) := by decide +kernel
def k137_1 : List (Nat × XI) := [(40, x_getI 8 18 43), (43, x_ifgt 51 46), (46, x_iload 1 47), (47, x_iload 2 48), (48, x_icne 55 51), (51, x_push (1) 52), (52, x_goto 56), (55, x_push (0) 56), (56, x_zret)]
theorem o137_1 (scr : Nat × (Nat → Int32)) : ∀ q ∈ k137_1, XSnd xm scr Y137 q.1 q.2 := xcons (s_getI (f := 18) xC8 (by decide) xw_561 rfl dX8_isEnd_40) (xcons (s_ifgt dX8_isEnd_43 rfl) (xcons (s_iload_n rfl dX8_isEnd_46) (xcons (s_iload_n rfl dX8_isEnd_47) (xcons (s_icne dX8_isEnd_48 rfl) (xcons (s_iconst dX8_isEnd_51 rfl) (xcons (s_goto dX8_isEnd_52 rfl) (xcons (s_iconst dX8_isEnd_55 rfl) (xcons (s_zret dX8_isEnd_56 rfl) (xnil)))))))))
def k137 (pc : Nat) : XI := if pc < 40 then xlk k137_0 pc else xlk k137_1 pc
theorem o137 (scr : Nat × (Nat → Int32)) (pc : Nat) : XSnd xm scr Y137 pc (k137 pc) := by
  unfold k137
  exact xite (xlk_ok (o137_0 scr) pc) (xlk_ok (o137_1 scr) pc)
theorem dX8_isForm_0 : decode cX8_isForm 0 = .ok (.aload_n 0, 1) := by decide +kernel
theorem dX8_isForm_1 : decode cX8_isForm 1 = .ok (.iconst 0, 1) := by decide +kernel
theorem dX8_isForm_2 : decode cX8_isForm 2 = .ok (.putfield 213, 3) := by decide +kernel
theorem dX8_isForm_5 : decode cX8_isForm 5 = .ok (.aload_n 0, 1) := by decide +kernel
theorem dX8_isForm_6 : decode cX8_isForm 6 = .ok (.iconst (-1), 1) := by decide +kernel
theorem dX8_isForm_7 : decode cX8_isForm 7 = .ok (.putfield 210, 3) := by decide +kernel
theorem dX8_isForm_10 : decode cX8_isForm 10 = .ok (.aload_n 0, 1) := by decide +kernel
theorem dX8_isForm_11 : decode cX8_isForm 11 = .ok (.invokevirtual 226, 3) := by decide +kernel
theorem dX8_isForm_14 : decode cX8_isForm 14 = .ok (.pop, 1) := by decide +kernel
theorem dX8_isForm_15 : decode cX8_isForm 15 = .ok (.aload_n 0, 1) := by decide +kernel
theorem dX8_isForm_16 : decode cX8_isForm 16 = .ok (.getfield 210, 3) := by decide +kernel
theorem dX8_isForm_19 : decode cX8_isForm 19 = .ok (.ifCond .ge 31, 3) := by decide +kernel
theorem dX8_isForm_22 : decode cX8_isForm 22 = .ok (.aload_n 0, 1) := by decide +kernel
theorem dX8_isForm_23 : decode cX8_isForm 23 = .ok (.getfield 213, 3) := by decide +kernel
theorem dX8_isForm_26 : decode cX8_isForm 26 = .ok (.aload_n 0, 1) := by decide +kernel
theorem dX8_isForm_27 : decode cX8_isForm 27 = .ok (.getfield 207, 3) := by decide +kernel
theorem dX8_isForm_30 : decode cX8_isForm 30 = .ok (.if_icmp .ge 20, 3) := by decide +kernel
theorem dX8_isForm_33 : decode cX8_isForm 33 = .ok (.aload_n 0, 1) := by decide +kernel
theorem dX8_isForm_34 : decode cX8_isForm 34 = .ok (.bipush 59, 2) := by decide +kernel
theorem dX8_isForm_36 : decode cX8_isForm 36 = .ok (.bipush 59, 2) := by decide +kernel
def k138_0 : List (Nat × XI) := [(0, x_aload 0 1), (1, x_push (0) 2), (2, x_putI 8 19 5), (5, x_aload 0 6), (6, x_push (-1) 7), (7, x_putI 8 20 10), (10, x_aload 0 11), (11, x_inv 146 8 0 14), (14, x_pop 15), (15, x_aload 0 16), (16, x_getI 8 20 19), (19, x_ifge 50 22), (22, x_aload 0 23), (23, x_getI 8 19 26), (26, x_aload 0 27), (27, x_getI 8 11 30), (30, x_icge 50 33), (33, x_aload 0 34), (34, x_push (59) 36), (36, x_push (59) 38)]
theorem o138_0 (scr : Nat × (Nat → Int32)) : ∀ q ∈ k138_0, XSnd xm scr Y138 q.1 q.2 := xcons (s_aload_n rfl dX8_isForm_0) (xcons (s_iconst dX8_isForm_1 rfl) (xcons (s_putI (f := 19) xC8 (by decide) xw_609 rfl (Or.inl rfl) dX8_isForm_2) (xcons (s_aload_n rfl dX8_isForm_5) (xcons (s_iconst dX8_isForm_6 rfl) (xcons (s_putI (f := 20) xC8 (by decide) xw_610 rfl (Or.inl rfl) dX8_isForm_7) (xcons (s_aload_n rfl dX8_isForm_10) (xcons (s_inv (mid := 146) xC8 cal_146 xw_612 xw_613 xw_614 dX8_isForm_11) (xcons (s_pop dX8_isForm_14) (xcons (s_aload_n rfl dX8_isForm_15) (xcons (s_getI (f := 20) xC8 (by decide) xw_610 rfl dX8_isForm_16) (xcons (s_ifge dX8_isForm_19 rfl) (xcons (s_aload_n rfl dX8_isForm_22) (xcons (s_getI (f := 19) xC8 (by decide) xw_609 rfl dX8_isForm_23) (xcons (s_aload_n rfl dX8_isForm_26) (xcons (s_getI (f := 11) xC8 (by decide) xw_514 rfl dX8_isForm_27) (xcons (s_icge dX8_isForm_30 rfl) (xcons (s_aload_n rfl dX8_isForm_33) (xcons (s_bipush dX8_isForm_34 rfl) (xcons (s_bipush dX8_isForm_36 rfl) (xnil))))))))))))))))))))
theorem dX8_isForm_38 : decode cX8_isForm 38 = .ok (.invokevirtual 219, 3) := by decide +kernel
theorem dX8_isForm_41 : decode cX8_isForm 41 = .ok (.pop, 1) := by decide +kernel
theorem dX8_isForm_42 : decode cX8_isForm 42 = .ok (.aload_n 0, 1) := by decide +kernel
theorem dX8_isForm_43 : decode cX8_isForm 43 = .ok (.invokevirtual 226, 3) := by decide +kernel
theorem dX8_isForm_46 : decode cX8_isForm 46 = .ok (.pop, 1) := by decide +kernel
theorem dX8_isForm_47 : decode cX8_isForm 47 = .ok (.goto (-32), 3) := by decide +kernel
theorem dX8_isForm_50 : decode cX8_isForm 50 = .ok (.aload_n 0, 1) := by decide +kernel
theorem dX8_isForm_51 : decode cX8_isForm 51 = .ok (.getfield 210, 3) := by decide +kernel
theorem dX8_isForm_54 : decode cX8_isForm 54 = .ok (.ifCond .ge 7, 3) := by decide +kernel
theorem dX8_isForm_57 : decode cX8_isForm 57 = .ok (.iconst 1, 1) := by decide +kernel
theorem dX8_isForm_58 : decode cX8_isForm 58 = .ok (.goto 4, 3) := by decide +kernel
theorem dX8_isForm_61 : decode cX8_isForm 61 = .ok (.iconst 0, 1) := by decide +kernel
theorem dX8_isForm_62 : decode cX8_isForm 62 = .ok (.ireturn, 1) := by decide +kernel
def k138_1 : List (Nat × XI) := [(38, x_inv 152 8 2 41), (41, x_pop 42), (42, x_aload 0 43), (43, x_inv 146 8 0 46), (46, x_pop 47), (47, x_goto 15), (50, x_aload 0 51), (51, x_getI 8 20 54), (54, x_ifge 61 57), (57, x_push (1) 58), (58, x_goto 62), (61, x_push (0) 62), (62, x_zret)]
theorem o138_1 (scr : Nat × (Nat → Int32)) : ∀ q ∈ k138_1, XSnd xm scr Y138 q.1 q.2 := xcons (s_inv (mid := 152) xC8 cal_152 xw_616 xw_617 xw_618 dX8_isForm_38) (xcons (s_pop dX8_isForm_41) (xcons (s_aload_n rfl dX8_isForm_42) (xcons (s_inv (mid := 146) xC8 cal_146 xw_612 xw_613 xw_614 dX8_isForm_43) (xcons (s_pop dX8_isForm_46) (xcons (s_goto dX8_isForm_47 rfl) (xcons (s_aload_n rfl dX8_isForm_50) (xcons (s_getI (f := 20) xC8 (by decide) xw_610 rfl dX8_isForm_51) (xcons (s_ifge dX8_isForm_54 rfl) (xcons (s_iconst dX8_isForm_57 rfl) (xcons (s_goto dX8_isForm_58 rfl) (xcons (s_iconst dX8_isForm_61 rfl) (xcons (s_zret dX8_isForm_62 rfl) (xnil)))))))))))))
def k138 (pc : Nat) : XI := if pc < 38 then xlk k138_0 pc else xlk k138_1 pc
theorem o138 (scr : Nat × (Nat → Int32)) (pc : Nat) : XSnd xm scr Y138 pc (k138 pc) := by
  unfold k138
  exact xite (xlk_ok (o138_0 scr) pc) (xlk_ok (o138_1 scr) pc)
theorem dX8_isHandle_0 : decode cX8_isHandle 0 = .ok (.iload_n 1, 1) := by decide +kernel
theorem dX8_isHandle_1 : decode cX8_isHandle 1 = .ok (.iconst 0, 1) := by decide +kernel
theorem dX8_isHandle_2 : decode cX8_isHandle 2 = .ok (.iconst 5, 1) := by decide +kernel
theorem dX8_isHandle_3 : decode cX8_isHandle 3 = .ok (.invokestatic 51, 3) := by decide +kernel
theorem dX8_isHandle_6 : decode cX8_isHandle 6 = .ok (.ireturn, 1) := by decide +kernel
def k139_0 : List (Nat × XI) := [(0, x_iload 1 1), (1, x_push (0) 2), (2, x_push (5) 3), (3, x_invS 134 3 6), (6, x_zret)]
theorem o139_0 (scr : Nat × (Nat → Int32)) : ∀ q ∈ k139_0, XSnd xm scr Y139 q.1 q.2 := xcons (s_iload_n rfl dX8_isHandle_0) (xcons (s_iconst dX8_isHandle_1 rfl) (xcons (s_iconst dX8_isHandle_2 rfl) (xcons (s_invS (mid := 134) cal_134 xw_487 xw_488 dX8_isHandle_3) (xcons (s_zret dX8_isHandle_6 rfl) (xnil)))))
def k139 (pc : Nat) : XI := xlk k139_0 pc
theorem o139 (scr : Nat × (Nat → Int32)) (pc : Nat) : XSnd xm scr Y139 pc (k139 pc) := by
  unfold k139
  exact xlk_ok (o139_0 scr) pc
theorem dX8_isLive_0 : decode cX8_isLive 0 = .ok (.aload_n 0, 1) := by decide +kernel
theorem dX8_isLive_1 : decode cX8_isLive 1 = .ok (.iload_n 1, 1) := by decide +kernel
theorem dX8_isLive_2 : decode cX8_isLive 2 = .ok (.iconst 5, 1) := by decide +kernel
theorem dX8_isLive_3 : decode cX8_isLive 3 = .ok (.invokevirtual 55, 3) := by decide +kernel
theorem dX8_isLive_6 : decode cX8_isLive 6 = .ok (.iconst 1, 1) := by decide +kernel
theorem dX8_isLive_7 : decode cX8_isLive 7 = .ok (.if_icmp .ne 7, 3) := by decide +kernel
theorem dX8_isLive_10 : decode cX8_isLive 10 = .ok (.iconst 1, 1) := by decide +kernel
theorem dX8_isLive_11 : decode cX8_isLive 11 = .ok (.goto 4, 3) := by decide +kernel
theorem dX8_isLive_14 : decode cX8_isLive 14 = .ok (.iconst 0, 1) := by decide +kernel
theorem dX8_isLive_15 : decode cX8_isLive 15 = .ok (.ireturn, 1) := by decide +kernel
def k140_0 : List (Nat × XI) := [(0, x_aload 0 1), (1, x_iload 1 2), (2, x_push (5) 3), (3, x_inv 108 8 2 6), (6, x_push (1) 7), (7, x_icne 14 10), (10, x_push (1) 11), (11, x_goto 15), (14, x_push (0) 15), (15, x_zret)]
theorem o140_0 (scr : Nat × (Nat → Int32)) : ∀ q ∈ k140_0, XSnd xm scr Y140 q.1 q.2 := xcons (s_aload_n rfl dX8_isLive_0) (xcons (s_iload_n rfl dX8_isLive_1) (xcons (s_iconst dX8_isLive_2 rfl) (xcons (s_inv (mid := 108) xC8 cal_108 xw_508 xw_509 xw_510 dX8_isLive_3) (xcons (s_iconst dX8_isLive_6 rfl) (xcons (s_icne dX8_isLive_7 rfl) (xcons (s_iconst dX8_isLive_10 rfl) (xcons (s_goto dX8_isLive_11 rfl) (xcons (s_iconst dX8_isLive_14 rfl) (xcons (s_zret dX8_isLive_15 rfl) (xnil))))))))))
def k140 (pc : Nat) : XI := xlk k140_0 pc
theorem o140 (scr : Nat × (Nat → Int32)) (pc : Nat) : XSnd xm scr Y140 pc (k140 pc) := by
  unfold k140
  exact xlk_ok (o140_0 scr) pc
theorem dX8_isLiveChild_0 : decode cX8_isLiveChild 0 = .ok (.aload_n 0, 1) := by decide +kernel
theorem dX8_isLiveChild_1 : decode cX8_isLiveChild 1 = .ok (.iload_n 1, 1) := by decide +kernel
theorem dX8_isLiveChild_2 : decode cX8_isLiveChild 2 = .ok (.iconst 0, 1) := by decide +kernel
theorem dX8_isLiveChild_3 : decode cX8_isLiveChild 3 = .ok (.invokevirtual 55, 3) := by decide +kernel
theorem dX8_isLiveChild_6 : decode cX8_isLiveChild 6 = .ok (.iload_n 2, 1) := by decide +kernel
theorem dX8_isLiveChild_7 : decode cX8_isLiveChild 7 = .ok (.if_icmp .ne 15, 3) := by decide +kernel
theorem dX8_isLiveChild_10 : decode cX8_isLiveChild 10 = .ok (.aload_n 0, 1) := by decide +kernel
theorem dX8_isLiveChild_11 : decode cX8_isLiveChild 11 = .ok (.iload_n 1, 1) := by decide +kernel
theorem dX8_isLiveChild_12 : decode cX8_isLiveChild 12 = .ok (.invokevirtual 59, 3) := by decide +kernel
theorem dX8_isLiveChild_15 : decode cX8_isLiveChild 15 = .ok (.ifCond .eq 7, 3) := by decide +kernel
theorem dX8_isLiveChild_18 : decode cX8_isLiveChild 18 = .ok (.iconst 1, 1) := by decide +kernel
theorem dX8_isLiveChild_19 : decode cX8_isLiveChild 19 = .ok (.goto 4, 3) := by decide +kernel
theorem dX8_isLiveChild_22 : decode cX8_isLiveChild 22 = .ok (.iconst 0, 1) := by decide +kernel
theorem dX8_isLiveChild_23 : decode cX8_isLiveChild 23 = .ok (.ireturn, 1) := by decide +kernel
def k141_0 : List (Nat × XI) := [(0, x_aload 0 1), (1, x_iload 1 2), (2, x_push (0) 3), (3, x_inv 108 8 2 6), (6, x_iload 2 7), (7, x_icne 22 10), (10, x_aload 0 11), (11, x_iload 1 12), (12, x_inv 140 8 1 15), (15, x_ifeq 22 18), (18, x_push (1) 19), (19, x_goto 23), (22, x_push (0) 23), (23, x_zret)]
theorem o141_0 (scr : Nat × (Nat → Int32)) : ∀ q ∈ k141_0, XSnd xm scr Y141 q.1 q.2 := xcons (s_aload_n rfl dX8_isLiveChild_0) (xcons (s_iload_n rfl dX8_isLiveChild_1) (xcons (s_iconst dX8_isLiveChild_2 rfl) (xcons (s_inv (mid := 108) xC8 cal_108 xw_508 xw_509 xw_510 dX8_isLiveChild_3) (xcons (s_iload_n rfl dX8_isLiveChild_6) (xcons (s_icne dX8_isLiveChild_7 rfl) (xcons (s_aload_n rfl dX8_isLiveChild_10) (xcons (s_iload_n rfl dX8_isLiveChild_11) (xcons (s_inv (mid := 140) xC8 cal_140 xw_490 xw_491 xw_492 dX8_isLiveChild_12) (xcons (s_ifeq dX8_isLiveChild_15 rfl) (xcons (s_iconst dX8_isLiveChild_18 rfl) (xcons (s_goto dX8_isLiveChild_19 rfl) (xcons (s_iconst dX8_isLiveChild_22 rfl) (xcons (s_zret dX8_isLiveChild_23 rfl) (xnil))))))))))))))
def k141 (pc : Nat) : XI := xlk k141_0 pc
theorem o141 (scr : Nat × (Nat → Int32)) (pc : Nat) : XSnd xm scr Y141 pc (k141 pc) := by
  unfold k141
  exact xlk_ok (o141_0 scr) pc
theorem dX8_isNext_0 : decode cX8_isNext 0 = .ok (.aload_n 0, 1) := by decide +kernel
theorem dX8_isNext_1 : decode cX8_isNext 1 = .ok (.iload_n 1, 1) := by decide +kernel
theorem dX8_isNext_2 : decode cX8_isNext 2 = .ok (.iconst 0, 1) := by decide +kernel
theorem dX8_isNext_3 : decode cX8_isNext 3 = .ok (.invokevirtual 55, 3) := by decide +kernel
theorem dX8_isNext_6 : decode cX8_isNext 6 = .ok (.iload_n 2, 1) := by decide +kernel
theorem dX8_isNext_7 : decode cX8_isNext 7 = .ok (.if_icmp .eq 13, 3) := by decide +kernel
theorem dX8_isNext_10 : decode cX8_isNext 10 = .ok (.aload_n 0, 1) := by decide +kernel
theorem dX8_isNext_11 : decode cX8_isNext 11 = .ok (.iload_n 2, 1) := by decide +kernel
theorem dX8_isNext_12 : decode cX8_isNext 12 = .ok (.iconst 0, 1) := by decide +kernel
theorem dX8_isNext_13 : decode cX8_isNext 13 = .ok (.invokevirtual 55, 3) := by decide +kernel
theorem dX8_isNext_16 : decode cX8_isNext 16 = .ok (.iload_n 1, 1) := by decide +kernel
theorem dX8_isNext_17 : decode cX8_isNext 17 = .ok (.if_icmp .ne 7, 3) := by decide +kernel
theorem dX8_isNext_20 : decode cX8_isNext 20 = .ok (.iconst 1, 1) := by decide +kernel
theorem dX8_isNext_21 : decode cX8_isNext 21 = .ok (.goto 4, 3) := by decide +kernel
theorem dX8_isNext_24 : decode cX8_isNext 24 = .ok (.iconst 0, 1) := by decide +kernel
theorem dX8_isNext_25 : decode cX8_isNext 25 = .ok (.ireturn, 1) := by decide +kernel
def k142_0 : List (Nat × XI) := [(0, x_aload 0 1), (1, x_iload 1 2), (2, x_push (0) 3), (3, x_inv 108 8 2 6), (6, x_iload 2 7), (7, x_iceq 20 10), (10, x_aload 0 11), (11, x_iload 2 12), (12, x_push (0) 13), (13, x_inv 108 8 2 16), (16, x_iload 1 17), (17, x_icne 24 20), (20, x_push (1) 21), (21, x_goto 25), (24, x_push (0) 25), (25, x_zret)]
theorem o142_0 (scr : Nat × (Nat → Int32)) : ∀ q ∈ k142_0, XSnd xm scr Y142 q.1 q.2 := xcons (s_aload_n rfl dX8_isNext_0) (xcons (s_iload_n rfl dX8_isNext_1) (xcons (s_iconst dX8_isNext_2 rfl) (xcons (s_inv (mid := 108) xC8 cal_108 xw_508 xw_509 xw_510 dX8_isNext_3) (xcons (s_iload_n rfl dX8_isNext_6) (xcons (s_iceq dX8_isNext_7 rfl) (xcons (s_aload_n rfl dX8_isNext_10) (xcons (s_iload_n rfl dX8_isNext_11) (xcons (s_iconst dX8_isNext_12 rfl) (xcons (s_inv (mid := 108) xC8 cal_108 xw_508 xw_509 xw_510 dX8_isNext_13) (xcons (s_iload_n rfl dX8_isNext_16) (xcons (s_icne dX8_isNext_17 rfl) (xcons (s_iconst dX8_isNext_20 rfl) (xcons (s_goto dX8_isNext_21 rfl) (xcons (s_iconst dX8_isNext_24 rfl) (xcons (s_zret dX8_isNext_25 rfl) (xnil))))))))))))))))
def k142 (pc : Nat) : XI := xlk k142_0 pc
theorem o142 (scr : Nat × (Nat → Int32)) (pc : Nat) : XSnd xm scr Y142 pc (k142 pc) := by
  unfold k142
  exact xlk_ok (o142_0 scr) pc
theorem dX8_isNumber_0 : decode cX8_isNumber 0 = .ok (.iload_n 0, 1) := by decide +kernel
theorem dX8_isNumber_1 : decode cX8_isNumber 1 = .ok (.bipush (-99), 2) := by decide +kernel
theorem dX8_isNumber_3 : decode cX8_isNumber 3 = .ok (.bipush 99, 2) := by decide +kernel
theorem dX8_isNumber_5 : decode cX8_isNumber 5 = .ok (.invokestatic 51, 3) := by decide +kernel
theorem dX8_isNumber_8 : decode cX8_isNumber 8 = .ok (.ireturn, 1) := by decide +kernel
def k143_0 : List (Nat × XI) := [(0, x_iload 0 1), (1, x_push (-99) 3), (3, x_push (99) 5), (5, x_invS 134 3 8), (8, x_zret)]
theorem o143_0 (scr : Nat × (Nat → Int32)) : ∀ q ∈ k143_0, XSnd xm scr Y143 q.1 q.2 := xcons (s_iload_n rfl dX8_isNumber_0) (xcons (s_bipush dX8_isNumber_1 rfl) (xcons (s_bipush dX8_isNumber_3 rfl) (xcons (s_invS (mid := 134) cal_134 xw_487 xw_488 dX8_isNumber_5) (xcons (s_zret dX8_isNumber_8 rfl) (xnil)))))
def k143 (pc : Nat) : XI := xlk k143_0 pc
theorem o143 (scr : Nat × (Nat → Int32)) (pc : Nat) : XSnd xm scr Y143 pc (k143 pc) := by
  unfold k143
  exact xlk_ok (o143_0 scr) pc
theorem dX8_isOverBudget_0 : decode cX8_isOverBudget 0 = .ok (.aload_n 0, 1) := by decide +kernel
theorem dX8_isOverBudget_1 : decode cX8_isOverBudget 1 = .ok (.iload_n 1, 1) := by decide +kernel
theorem dX8_isOverBudget_2 : decode cX8_isOverBudget 2 = .ok (.iconst 1, 1) := by decide +kernel
theorem dX8_isOverBudget_3 : decode cX8_isOverBudget 3 = .ok (.invokevirtual 94, 3) := by decide +kernel
theorem dX8_isOverBudget_6 : decode cX8_isOverBudget 6 = .ok (.istore_n 2, 1) := by decide +kernel
theorem dX8_isOverBudget_7 : decode cX8_isOverBudget 7 = .ok (.aload_n 0, 1) := by decide +kernel
theorem dX8_isOverBudget_8 : decode cX8_isOverBudget 8 = .ok (.iload_n 1, 1) := by decide +kernel
theorem dX8_isOverBudget_9 : decode cX8_isOverBudget 9 = .ok (.bipush 65, 2) := by decide +kernel
theorem dX8_isOverBudget_11 : decode cX8_isOverBudget 11 = .ok (.iload_n 2, 1) := by decide +kernel
theorem dX8_isOverBudget_12 : decode cX8_isOverBudget 12 = .ok (.iadd, 1) := by decide +kernel
theorem dX8_isOverBudget_13 : decode cX8_isOverBudget 13 = .ok (.aload_n 0, 1) := by decide +kernel
theorem dX8_isOverBudget_14 : decode cX8_isOverBudget 14 = .ok (.getfield 9, 3) := by decide +kernel
theorem dX8_isOverBudget_17 : decode cX8_isOverBudget 17 = .ok (.sipush 925, 3) := by decide +kernel
theorem dX8_isOverBudget_20 : decode cX8_isOverBudget 20 = .ok (.iaload, 1) := by decide +kernel
theorem dX8_isOverBudget_21 : decode cX8_isOverBudget 21 = .ok (.invokevirtual 63, 3) := by decide +kernel
theorem dX8_isOverBudget_24 : decode cX8_isOverBudget 24 = .ok (.aload_n 0, 1) := by decide +kernel
theorem dX8_isOverBudget_25 : decode cX8_isOverBudget 25 = .ok (.iload_n 1, 1) := by decide +kernel
theorem dX8_isOverBudget_26 : decode cX8_isOverBudget 26 = .ok (.bipush 64, 2) := by decide +kernel
theorem dX8_isOverBudget_28 : decode cX8_isOverBudget 28 = .ok (.iload_n 2, 1) := by decide +kernel
theorem dX8_isOverBudget_29 : decode cX8_isOverBudget 29 = .ok (.iconst 1, 1) := by decide +kernel
def k144_0 : List (Nat × XI) := [(0, x_aload 0 1), (1, x_iload 1 2), (2, x_push (1) 3), (3, x_inv 154 8 2 6), (6, x_istore 2 7), (7, x_aload 0 8), (8, x_iload 1 9), (9, x_push (65) 11), (11, x_iload 2 12), (12, x_iadd 13), (13, x_aload 0 14), (14, x_getR 8 0 17), (17, x_push (925) 20), (20, x_iald 21), (21, x_inv 172 8 3 24), (24, x_aload 0 25), (25, x_iload 1 26), (26, x_push (64) 28), (28, x_iload 2 29), (29, x_push (1) 30)]
theorem o144_0 (scr : Nat × (Nat → Int32)) : ∀ q ∈ k144_0, XSnd xm scr Y144 q.1 q.2 := xcons (s_aload_n rfl dX8_isOverBudget_0) (xcons (s_iload_n rfl dX8_isOverBudget_1) (xcons (s_iconst dX8_isOverBudget_2 rfl) (xcons (s_inv (mid := 154) xC8 cal_154 xw_620 xw_621 xw_622 dX8_isOverBudget_3) (xcons (s_istore_n rfl dX8_isOverBudget_6 (by decide)) (xcons (s_aload_n rfl dX8_isOverBudget_7) (xcons (s_iload_n rfl dX8_isOverBudget_8) (xcons (s_bipush dX8_isOverBudget_9 rfl) (xcons (s_iload_n rfl dX8_isOverBudget_11) (xcons (s_iadd dX8_isOverBudget_12) (xcons (s_aload_n rfl dX8_isOverBudget_13) (xcons (s_getR (f := 0) xC8 (by decide) xw_470 rfl dX8_isOverBudget_14) (xcons (s_sipush dX8_isOverBudget_17 rfl) (xcons (s_iald dX8_isOverBudget_20) (xcons (s_inv (mid := 172) xC8 cal_172 xw_472 xw_473 xw_474 dX8_isOverBudget_21) (xcons (s_aload_n rfl dX8_isOverBudget_24) (xcons (s_iload_n rfl dX8_isOverBudget_25) (xcons (s_bipush dX8_isOverBudget_26 rfl) (xcons (s_iload_n rfl dX8_isOverBudget_28) (xcons (s_iconst dX8_isOverBudget_29 rfl) (xnil))))))))))))))))))))
theorem dX8_isOverBudget_30 : decode cX8_isOverBudget 30 = .ok (.iadd, 1) := by decide +kernel
theorem dX8_isOverBudget_31 : decode cX8_isOverBudget 31 = .ok (.invokevirtual 63, 3) := by decide +kernel
theorem dX8_isOverBudget_34 : decode cX8_isOverBudget 34 = .ok (.iload_n 2, 1) := by decide +kernel
theorem dX8_isOverBudget_35 : decode cX8_isOverBudget 35 = .ok (.iconst 1, 1) := by decide +kernel
theorem dX8_isOverBudget_36 : decode cX8_isOverBudget 36 = .ok (.iadd, 1) := by decide +kernel
theorem dX8_isOverBudget_37 : decode cX8_isOverBudget 37 = .ok (.aload_n 0, 1) := by decide +kernel
theorem dX8_isOverBudget_38 : decode cX8_isOverBudget 38 = .ok (.iload_n 1, 1) := by decide +kernel
theorem dX8_isOverBudget_39 : decode cX8_isOverBudget 39 = .ok (.iconst 3, 1) := by decide +kernel
theorem dX8_isOverBudget_40 : decode cX8_isOverBudget 40 = .ok (.invokevirtual 55, 3) := by decide +kernel
theorem dX8_isOverBudget_43 : decode cX8_isOverBudget 43 = .ok (.if_icmp .le 7, 3) := by decide +kernel
theorem dX8_isOverBudget_46 : decode cX8_isOverBudget 46 = .ok (.iconst 1, 1) := by decide +kernel
theorem dX8_isOverBudget_47 : decode cX8_isOverBudget 47 = .ok (.goto 4, 3) := by decide +kernel
theorem dX8_isOverBudget_50 : decode cX8_isOverBudget 50 = .ok (.iconst 0, 1) := by decide +kernel
theorem dX8_isOverBudget_51 : decode cX8_isOverBudget 51 = .ok (.ireturn, 1) := by decide +kernel
def k144_1 : List (Nat × XI) := [(30, x_iadd 31), (31, x_inv 172 8 3 34), (34, x_iload 2 35), (35, x_push (1) 36), (36, x_iadd 37), (37, x_aload 0 38), (38, x_iload 1 39), (39, x_push (3) 40), (40, x_inv 108 8 2 43), (43, x_icle 50 46), (46, x_push (1) 47), (47, x_goto 51), (50, x_push (0) 51), (51, x_zret)]
theorem o144_1 (scr : Nat × (Nat → Int32)) : ∀ q ∈ k144_1, XSnd xm scr Y144 q.1 q.2 := xcons (s_iadd dX8_isOverBudget_30) (xcons (s_inv (mid := 172) xC8 cal_172 xw_472 xw_473 xw_474 dX8_isOverBudget_31) (xcons (s_iload_n rfl dX8_isOverBudget_34) (xcons (s_iconst dX8_isOverBudget_35 rfl) (xcons (s_iadd dX8_isOverBudget_36) (xcons (s_aload_n rfl dX8_isOverBudget_37) (xcons (s_iload_n rfl dX8_isOverBudget_38) (xcons (s_iconst dX8_isOverBudget_39 rfl) (xcons (s_inv (mid := 108) xC8 cal_108 xw_508 xw_509 xw_510 dX8_isOverBudget_40) (xcons (s_icle dX8_isOverBudget_43 rfl) (xcons (s_iconst dX8_isOverBudget_46 rfl) (xcons (s_goto dX8_isOverBudget_47 rfl) (xcons (s_iconst dX8_isOverBudget_50 rfl) (xcons (s_zret dX8_isOverBudget_51 rfl) (xnil))))))))))))))
def k144 (pc : Nat) : XI := if pc < 30 then xlk k144_0 pc else xlk k144_1 pc
theorem o144 (scr : Nat × (Nat → Int32)) (pc : Nat) : XSnd xm scr Y144 pc (k144 pc) := by
  unfold k144
  exact xite (xlk_ok (o144_0 scr) pc) (xlk_ok (o144_1 scr) pc)
theorem dX8_isRule_0 : decode cX8_isRule 0 = .ok (.iload_n 0, 1) := by decide +kernel
theorem dX8_isRule_1 : decode cX8_isRule 1 = .ok (.iconst 0, 1) := by decide +kernel
theorem dX8_isRule_2 : decode cX8_isRule 2 = .ok (.sipush 2999, 3) := by decide +kernel
theorem dX8_isRule_5 : decode cX8_isRule 5 = .ok (.invokestatic 51, 3) := by decide +kernel
theorem dX8_isRule_8 : decode cX8_isRule 8 = .ok (.ifCond .eq 20, 3) := by decide +kernel
theorem dX8_isRule_11 : decode cX8_isRule 11 = .ok (.iload_n 0, 1) := by decide +kernel
theorem dX8_isRule_12 : decode cX8_isRule 12 = .ok (.bipush 100, 2) := by decide +kernel
theorem dX8_isRule_14 : decode cX8_isRule 14 = .ok (.irem, 1) := by decide +kernel
theorem dX8_isRule_15 : decode cX8_isRule 15 = .ok (.iconst 1, 1) := by decide +kernel
theorem dX8_isRule_16 : decode cX8_isRule 16 = .ok (.bipush 50, 2) := by decide +kernel
theorem dX8_isRule_18 : decode cX8_isRule 18 = .ok (.invokestatic 51, 3) := by decide +kernel
theorem dX8_isRule_21 : decode cX8_isRule 21 = .ok (.ifCond .eq 7, 3) := by decide +kernel
theorem dX8_isRule_24 : decode cX8_isRule 24 = .ok (.iconst 1, 1) := by decide +kernel
theorem dX8_isRule_25 : decode cX8_isRule 25 = .ok (.goto 4, 3) := by decide +kernel
theorem dX8_isRule_28 : decode cX8_isRule 28 = .ok (.iconst 0, 1) := by decide +kernel
theorem dX8_isRule_29 : decode cX8_isRule 29 = .ok (.ireturn, 1) := by decide +kernel
def k145_0 : List (Nat × XI) := [(0, x_iload 0 1), (1, x_push (0) 2), (2, x_push (2999) 5), (5, x_invS 134 3 8), (8, x_ifeq 28 11), (11, x_iload 0 12), (12, x_push (100) 14), (14, x_irem 15), (15, x_push (1) 16), (16, x_push (50) 18), (18, x_invS 134 3 21), (21, x_ifeq 28 24), (24, x_push (1) 25), (25, x_goto 29), (28, x_push (0) 29), (29, x_zret)]
theorem o145_0 (scr : Nat × (Nat → Int32)) : ∀ q ∈ k145_0, XSnd xm scr Y145 q.1 q.2 := xcons (s_iload_n rfl dX8_isRule_0) (xcons (s_iconst dX8_isRule_1 rfl) (xcons (s_sipush dX8_isRule_2 rfl) (xcons (s_invS (mid := 134) cal_134 xw_487 xw_488 dX8_isRule_5) (xcons (s_ifeq dX8_isRule_8 rfl) (xcons (s_iload_n rfl dX8_isRule_11) (xcons (s_bipush dX8_isRule_12 rfl) (xcons (s_irem dX8_isRule_14) (xcons (s_iconst dX8_isRule_15 rfl) (xcons (s_bipush dX8_isRule_16 rfl) (xcons (s_invS (mid := 134) cal_134 xw_487 xw_488 dX8_isRule_18) (xcons (s_ifeq dX8_isRule_21 rfl) (xcons (s_iconst dX8_isRule_24 rfl) (xcons (s_goto dX8_isRule_25 rfl) (xcons (s_iconst dX8_isRule_28 rfl) (xcons (s_zret dX8_isRule_29 rfl) (xnil))))))))))))))))
def k145 (pc : Nat) : XI := xlk k145_0 pc
theorem o145 (scr : Nat × (Nat → Int32)) (pc : Nat) : XSnd xm scr Y145 pc (k145 pc) := by
  unfold k145
  exact xlk_ok (o145_0 scr) pc
theorem dX8_line_0 : decode cX8_line 0 = .ok (.aload_n 0, 1) := by decide +kernel
theorem dX8_line_1 : decode cX8_line 1 = .ok (.bipush 109, 2) := by decide +kernel
theorem dX8_line_3 : decode cX8_line 3 = .ok (.bipush 109, 2) := by decide +kernel
theorem dX8_line_5 : decode cX8_line 5 = .ok (.invokevirtual 216, 3) := by decide +kernel
theorem dX8_line_8 : decode cX8_line 8 = .ok (.ifCond .ne 14, 3) := by decide +kernel
theorem dX8_line_11 : decode cX8_line 11 = .ok (.aload_n 0, 1) := by decide +kernel
theorem dX8_line_12 : decode cX8_line 12 = .ok (.bipush 115, 2) := by decide +kernel
theorem dX8_line_14 : decode cX8_line 14 = .ok (.bipush 115, 2) := by decide +kernel
theorem dX8_line_16 : decode cX8_line 16 = .ok (.invokevirtual 216, 3) := by decide +kernel
theorem dX8_line_19 : decode cX8_line 19 = .ok (.ifCond .eq 22, 3) := by decide +kernel
theorem dX8_line_22 : decode cX8_line 22 = .ok (.aload_n 0, 1) := by decide +kernel
theorem dX8_line_23 : decode cX8_line 23 = .ok (.getfield 25, 3) := by decide +kernel
theorem dX8_line_26 : decode cX8_line 26 = .ok (.aload_n 0, 1) := by decide +kernel
theorem dX8_line_27 : decode cX8_line 27 = .ok (.dup, 1) := by decide +kernel
theorem dX8_line_28 : decode cX8_line 28 = .ok (.getfield 213, 3) := by decide +kernel
theorem dX8_line_31 : decode cX8_line 31 = .ok (.dup_x1, 1) := by decide +kernel
theorem dX8_line_32 : decode cX8_line 32 = .ok (.iconst 1, 1) := by decide +kernel
theorem dX8_line_33 : decode cX8_line 33 = .ok (.iadd, 1) := by decide +kernel
theorem dX8_line_34 : decode cX8_line 34 = .ok (.putfield 213, 3) := by decide +kernel
theorem dX8_line_37 : decode cX8_line 37 = .ok (.iaload, 1) := by decide +kernel
def k146_0 : List (Nat × XI) := [(0, x_aload 0 1), (1, x_push (109) 3), (3, x_push (109) 5), (5, x_inv 169 8 2 8), (8, x_ifne 22 11), (11, x_aload 0 12), (12, x_push (115) 14), (14, x_push (115) 16), (16, x_inv 169 8 2 19), (19, x_ifeq 41 22), (22, x_aload 0 23), (23, x_getR 8 10 26), (26, x_aload 0 27), (27, x_dup 28), (28, x_getI 8 19 31), (31, x_dup_x1 32), (32, x_push (1) 33), (33, x_iadd 34), (34, x_putI 8 19 37), (37, x_iald 38)]
theorem o146_0 (scr : Nat × (Nat → Int32)) : ∀ q ∈ k146_0, XSnd xm scr Y146 q.1 q.2 := xcons (s_aload_n rfl dX8_line_0) (xcons (s_bipush dX8_line_1 rfl) (xcons (s_bipush dX8_line_3 rfl) (xcons (s_inv (mid := 169) xC8 cal_169 xw_624 xw_625 xw_626 dX8_line_5) (xcons (s_ifne dX8_line_8 rfl) (xcons (s_aload_n rfl dX8_line_11) (xcons (s_bipush dX8_line_12 rfl) (xcons (s_bipush dX8_line_14 rfl) (xcons (s_inv (mid := 169) xC8 cal_169 xw_624 xw_625 xw_626 dX8_line_16) (xcons (s_ifeq dX8_line_19 rfl) (xcons (s_aload_n rfl dX8_line_22) (xcons (s_getR (f := 10) xC8 (by decide) xw_577 rfl dX8_line_23) (xcons (s_aload_n rfl dX8_line_26) (xcons (s_dup dX8_line_27) (xcons (s_getI (f := 19) xC8 (by decide) xw_609 rfl dX8_line_28) (xcons (s_dup_x1 dX8_line_31) (xcons (s_iconst dX8_line_32 rfl) (xcons (s_iadd dX8_line_33) (xcons (s_putI (f := 19) xC8 (by decide) xw_609 rfl (Or.inl rfl) dX8_line_34) (xcons (s_iald dX8_line_37) (xnil))))))))))))))))))))
theorem dX8_line_38 : decode cX8_line 38 = .ok (.goto 11, 3) := by decide +kernel
theorem dX8_line_41 : decode cX8_line 41 = .ok (.aload_n 0, 1) := by decide +kernel
theorem dX8_line_42 : decode cX8_line 42 = .ok (.bipush 97, 2) := by decide +kernel
theorem dX8_line_44 : decode cX8_line 44 = .ok (.bipush 97, 2) := by decide +kernel
theorem dX8_line_46 : decode cX8_line 46 = .ok (.invokevirtual 219, 3) := by decide +kernel
theorem dX8_line_49 : decode cX8_line 49 = .ok (.istore_n 1, 1) := by decide +kernel
theorem dX8_line_50 : decode cX8_line 50 = .ok (.iload_n 1, 1) := by decide +kernel
theorem dX8_line_51 : decode cX8_line 51 = .ok (.bipush 97, 2) := by decide +kernel
theorem dX8_line_53 : decode cX8_line 53 = .ok (.if_icmp .ne 7, 3) := by decide +kernel
theorem dX8_line_56 : decode cX8_line 56 = .ok (.iconst 5, 1) := by decide +kernel
theorem dX8_line_57 : decode cX8_line 57 = .ok (.goto 14, 3) := by decide +kernel
theorem dX8_line_60 : decode cX8_line 60 = .ok (.iload_n 1, 1) := by decide +kernel
theorem dX8_line_61 : decode cX8_line 61 = .ok (.bipush 109, 2) := by decide +kernel
theorem dX8_line_63 : decode cX8_line 63 = .ok (.if_icmp .ne 7, 3) := by decide +kernel
theorem dX8_line_66 : decode cX8_line 66 = .ok (.iconst 2, 1) := by decide +kernel
theorem dX8_line_67 : decode cX8_line 67 = .ok (.goto 4, 3) := by decide +kernel
theorem dX8_line_70 : decode cX8_line 70 = .ok (.iconst 1, 1) := by decide +kernel
theorem dX8_line_71 : decode cX8_line 71 = .ok (.istore_n 2, 1) := by decide +kernel
theorem dX8_line_72 : decode cX8_line 72 = .ok (.iconst 0, 1) := by decide +kernel
theorem dX8_line_73 : decode cX8_line 73 = .ok (.istore_n 3, 1) := by decide +kernel
def k146_1 : List (Nat × XI) := [(38, x_goto 49), (41, x_aload 0 42), (42, x_push (97) 44), (44, x_push (97) 46), (46, x_inv 152 8 2 49), (49, x_istore 1 50), (50, x_iload 1 51), (51, x_push (97) 53), (53, x_icne 60 56), (56, x_push (5) 57), (57, x_goto 71), (60, x_iload 1 61), (61, x_push (109) 63), (63, x_icne 70 66), (66, x_push (2) 67), (67, x_goto 71), (70, x_push (1) 71), (71, x_istore 2 72), (72, x_push (0) 73), (73, x_istore 3 74)]
theorem o146_1 (scr : Nat × (Nat → Int32)) : ∀ q ∈ k146_1, XSnd xm scr Y146 q.1 q.2 := xcons (s_goto dX8_line_38 rfl) (xcons (s_aload_n rfl dX8_line_41) (xcons (s_bipush dX8_line_42 rfl) (xcons (s_bipush dX8_line_44 rfl) (xcons (s_inv (mid := 152) xC8 cal_152 xw_616 xw_617 xw_618 dX8_line_46) (xcons (s_istore_n rfl dX8_line_49 (by decide)) (xcons (s_iload_n rfl dX8_line_50) (xcons (s_bipush dX8_line_51 rfl) (xcons (s_icne dX8_line_53 rfl) (xcons (s_iconst dX8_line_56 rfl) (xcons (s_goto dX8_line_57 rfl) (xcons (s_iload_n rfl dX8_line_60) (xcons (s_bipush dX8_line_61 rfl) (xcons (s_icne dX8_line_63 rfl) (xcons (s_iconst dX8_line_66 rfl) (xcons (s_goto dX8_line_67 rfl) (xcons (s_iconst dX8_line_70 rfl) (xcons (s_istore_n rfl dX8_line_71 (by decide)) (xcons (s_iconst dX8_line_72 rfl) (xcons (s_istore_n rfl dX8_line_73 (by decide)) (xnil))))))))))))))))))))
theorem dX8_line_74 : decode cX8_line 74 = .ok (.iload_n 3, 1) := by decide +kernel
theorem dX8_line_75 : decode cX8_line 75 = .ok (.iload_n 2, 1) := by decide +kernel
theorem dX8_line_76 : decode cX8_line 76 = .ok (.if_icmp .ge 35, 3) := by decide +kernel
theorem dX8_line_79 : decode cX8_line 79 = .ok (.aload_n 0, 1) := by decide +kernel
theorem dX8_line_80 : decode cX8_line 80 = .ok (.getfield 48, 3) := by decide +kernel
theorem dX8_line_83 : decode cX8_line 83 = .ok (.iload_n 3, 1) := by decide +kernel
theorem dX8_line_84 : decode cX8_line 84 = .ok (.aload_n 0, 1) := by decide +kernel
theorem dX8_line_85 : decode cX8_line 85 = .ok (.iload_n 1, 1) := by decide +kernel
theorem dX8_line_86 : decode cX8_line 86 = .ok (.bipush 109, 2) := by decide +kernel
theorem dX8_line_88 : decode cX8_line 88 = .ok (.if_icmp .ne 12, 3) := by decide +kernel
theorem dX8_line_91 : decode cX8_line 91 = .ok (.iload_n 3, 1) := by decide +kernel
theorem dX8_line_92 : decode cX8_line 92 = .ok (.iconst 1, 1) := by decide +kernel
theorem dX8_line_93 : decode cX8_line 93 = .ok (.if_icmp .ne 7, 3) := by decide +kernel
theorem dX8_line_96 : decode cX8_line 96 = .ok (.iconst 1, 1) := by decide +kernel
theorem dX8_line_97 : decode cX8_line 97 = .ok (.goto 4, 3) := by decide +kernel
theorem dX8_line_100 : decode cX8_line 100 = .ok (.iconst 0, 1) := by decide +kernel
theorem dX8_line_101 : decode cX8_line 101 = .ok (.invokevirtual 222, 3) := by decide +kernel
theorem dX8_line_104 : decode cX8_line 104 = .ok (.iastore, 1) := by decide +kernel
theorem dX8_line_105 : decode cX8_line 105 = .ok (.iinc 3 1, 3) := by decide +kernel
theorem dX8_line_108 : decode cX8_line 108 = .ok (.goto (-34), 3) := by decide +kernel
def k146_2 : List (Nat × XI) := [(74, x_iload 3 75), (75, x_iload 2 76), (76, x_icge 111 79), (79, x_aload 0 80), (80, x_getR 8 21 83), (83, x_iload 3 84), (84, x_aload 0 85), (85, x_iload 1 86), (86, x_push (109) 88), (88, x_icne 100 91), (91, x_iload 3 92), (92, x_push (1) 93), (93, x_icne 100 96), (96, x_push (1) 97), (97, x_goto 101), (100, x_push (0) 101), (101, x_inv 155 8 1 104), (104, x_iast 105), (105, x_iinc 3 (1) 108), (108, x_goto 74)]
theorem o146_2 (scr : Nat × (Nat → Int32)) : ∀ q ∈ k146_2, XSnd xm scr Y146 q.1 q.2 := xcons (s_iload_n rfl dX8_line_74) (xcons (s_iload_n rfl dX8_line_75) (xcons (s_icge dX8_line_76 rfl) (xcons (s_aload_n rfl dX8_line_79) (xcons (s_getR (f := 21) xC8 (by decide) xw_547 rfl dX8_line_80) (xcons (s_iload_n rfl dX8_line_83) (xcons (s_aload_n rfl dX8_line_84) (xcons (s_iload_n rfl dX8_line_85) (xcons (s_bipush dX8_line_86 rfl) (xcons (s_icne dX8_line_88 rfl) (xcons (s_iload_n rfl dX8_line_91) (xcons (s_iconst dX8_line_92 rfl) (xcons (s_icne dX8_line_93 rfl) (xcons (s_iconst dX8_line_96 rfl) (xcons (s_goto dX8_line_97 rfl) (xcons (s_iconst dX8_line_100 rfl) (xcons (s_inv (mid := 155) xC8 cal_155 xw_628 xw_629 xw_630 dX8_line_101) (xcons (s_iast dX8_line_104) (xcons (s_iinc dX8_line_105 rfl (by decide)) (xcons (s_goto dX8_line_108 rfl) (xnil))))))))))))))))))))
theorem dX8_line_111 : decode cX8_line 111 = .ok (.iload_n 1, 1) := by decide +kernel
theorem dX8_line_112 : decode cX8_line 112 = .ok (.ireturn, 1) := by decide +kernel
def k146_3 : List (Nat × XI) := [(111, x_iload 1 112), (112, x_iret)]
theorem o146_3 (scr : Nat × (Nat → Int32)) : ∀ q ∈ k146_3, XSnd xm scr Y146 q.1 q.2 := xcons (s_iload_n rfl dX8_line_111) (xcons (s_iret dX8_line_112 rfl) (xnil))
def k146 (pc : Nat) : XI := if pc < 74 then if pc < 38 then xlk k146_0 pc else xlk k146_1 pc else if pc < 111 then xlk k146_2 pc else xlk k146_3 pc
theorem o146 (scr : Nat × (Nat → Int32)) (pc : Nat) : XSnd xm scr Y146 pc (k146 pc) := by
  unfold k146
  exact xite (xite (xlk_ok (o146_0 scr) pc) (xlk_ok (o146_1 scr) pc)) (xite (xlk_ok (o146_2 scr) pc) (xlk_ok (o146_3 scr) pc))
theorem dX8_liveOnes_0 : decode cX8_liveOnes 0 = .ok (.iconst 0, 1) := by decide +kernel
theorem dX8_liveOnes_1 : decode cX8_liveOnes 1 = .ok (.istore_n 1, 1) := by decide +kernel
theorem dX8_liveOnes_2 : decode cX8_liveOnes 2 = .ok (.iconst 0, 1) := by decide +kernel
theorem dX8_liveOnes_3 : decode cX8_liveOnes 3 = .ok (.istore_n 2, 1) := by decide +kernel
theorem dX8_liveOnes_4 : decode cX8_liveOnes 4 = .ok (.iload_n 2, 1) := by decide +kernel
theorem dX8_liveOnes_5 : decode cX8_liveOnes 5 = .ok (.aload_n 0, 1) := by decide +kernel
theorem dX8_liveOnes_6 : decode cX8_liveOnes 6 = .ok (.getfield 9, 3) := by decide +kernel
theorem dX8_liveOnes_9 : decode cX8_liveOnes 9 = .ok (.sipush 924, 3) := by decide +kernel
theorem dX8_liveOnes_12 : decode cX8_liveOnes 12 = .ok (.iaload, 1) := by decide +kernel
theorem dX8_liveOnes_13 : decode cX8_liveOnes 13 = .ok (.if_icmp .ge 27, 3) := by decide +kernel
theorem dX8_liveOnes_16 : decode cX8_liveOnes 16 = .ok (.iload_n 1, 1) := by decide +kernel
theorem dX8_liveOnes_17 : decode cX8_liveOnes 17 = .ok (.aload_n 0, 1) := by decide +kernel
theorem dX8_liveOnes_18 : decode cX8_liveOnes 18 = .ok (.iload_n 2, 1) := by decide +kernel
theorem dX8_liveOnes_19 : decode cX8_liveOnes 19 = .ok (.invokevirtual 59, 3) := by decide +kernel
theorem dX8_liveOnes_22 : decode cX8_liveOnes 22 = .ok (.ifCond .eq 9, 3) := by decide +kernel
theorem dX8_liveOnes_25 : decode cX8_liveOnes 25 = .ok (.iconst 1, 1) := by decide +kernel
theorem dX8_liveOnes_26 : decode cX8_liveOnes 26 = .ok (.iload_n 2, 1) := by decide +kernel
theorem dX8_liveOnes_27 : decode cX8_liveOnes 27 = .ok (.ishl, 1) := by decide +kernel
theorem dX8_liveOnes_28 : decode cX8_liveOnes 28 = .ok (.goto 4, 3) := by decide +kernel
theorem dX8_liveOnes_31 : decode cX8_liveOnes 31 = .ok (.iconst 0, 1) := by decide +kernel
def k147_0 : List (Nat × XI) := [(0, x_push (0) 1), (1, x_istore 1 2), (2, x_push (0) 3), (3, x_istore 2 4), (4, x_iload 2 5), (5, x_aload 0 6), (6, x_getR 8 0 9), (9, x_push (924) 12), (12, x_iald 13), (13, x_icge 40 16), (16, x_iload 1 17), (17, x_aload 0 18), (18, x_iload 2 19), (19, x_inv 140 8 1 22), (22, x_ifeq 31 25), (25, x_push (1) 26), (26, x_iload 2 27), (27, x_ishl 28), (28, x_goto 32), (31, x_push (0) 32)]
theorem o147_0 (scr : Nat × (Nat → Int32)) : ∀ q ∈ k147_0, XSnd xm scr Y147 q.1 q.2 := xcons (s_iconst dX8_liveOnes_0 rfl) (xcons (s_istore_n rfl dX8_liveOnes_1 (by decide)) (xcons (s_iconst dX8_liveOnes_2 rfl) (xcons (s_istore_n rfl dX8_liveOnes_3 (by decide)) (xcons (s_iload_n rfl dX8_liveOnes_4) (xcons (s_aload_n rfl dX8_liveOnes_5) (xcons (s_getR (f := 0) xC8 (by decide) xw_470 rfl dX8_liveOnes_6) (xcons (s_sipush dX8_liveOnes_9 rfl) (xcons (s_iald dX8_liveOnes_12) (xcons (s_icge dX8_liveOnes_13 rfl) (xcons (s_iload_n rfl dX8_liveOnes_16) (xcons (s_aload_n rfl dX8_liveOnes_17) (xcons (s_iload_n rfl dX8_liveOnes_18) (xcons (s_inv (mid := 140) xC8 cal_140 xw_490 xw_491 xw_492 dX8_liveOnes_19) (xcons (s_ifeq dX8_liveOnes_22 rfl) (xcons (s_iconst dX8_liveOnes_25 rfl) (xcons (s_iload_n rfl dX8_liveOnes_26) (xcons (s_ishl dX8_liveOnes_27) (xcons (s_goto dX8_liveOnes_28 rfl) (xcons (s_iconst dX8_liveOnes_31 rfl) (xnil))))))))))))))))))))
theorem dX8_liveOnes_32 : decode cX8_liveOnes 32 = .ok (.ior, 1) := by decide +kernel
theorem dX8_liveOnes_33 : decode cX8_liveOnes 33 = .ok (.istore_n 1, 1) := by decide +kernel
theorem dX8_liveOnes_34 : decode cX8_liveOnes 34 = .ok (.iinc 2 1, 3) := by decide +kernel
theorem dX8_liveOnes_37 : decode cX8_liveOnes 37 = .ok (.goto (-33), 3) := by decide +kernel
theorem dX8_liveOnes_40 : decode cX8_liveOnes 40 = .ok (.iload_n 1, 1) := by decide +kernel
theorem dX8_liveOnes_41 : decode cX8_liveOnes 41 = .ok (.ireturn, 1) := by decide +kernel
def k147_1 : List (Nat × XI) := [(32, x_ior 33), (33, x_istore 1 34), (34, x_iinc 2 (1) 37), (37, x_goto 4), (40, x_iload 1 41), (41, x_iret)]
theorem o147_1 (scr : Nat × (Nat → Int32)) : ∀ q ∈ k147_1, XSnd xm scr Y147 q.1 q.2 := xcons (s_ior dX8_liveOnes_32) (xcons (s_istore_n rfl dX8_liveOnes_33 (by decide)) (xcons (s_iinc dX8_liveOnes_34 rfl (by decide)) (xcons (s_goto dX8_liveOnes_37 rfl) (xcons (s_iload_n rfl dX8_liveOnes_40) (xcons (s_iret dX8_liveOnes_41 rfl) (xnil))))))
def k147 (pc : Nat) : XI := if pc < 32 then xlk k147_0 pc else xlk k147_1 pc
theorem o147 (scr : Nat × (Nat → Int32)) (pc : Nat) : XSnd xm scr Y147 pc (k147 pc) := by
  unfold k147
  exact xite (xlk_ok (o147_0 scr) pc) (xlk_ok (o147_1 scr) pc)
theorem dX8_log_0 : decode cX8_log 0 = .ok (.iload_n 1, 1) := by decide +kernel
theorem dX8_log_1 : decode cX8_log 1 = .ok (.ifCond .ge 5, 3) := by decide +kernel
theorem dX8_log_4 : decode cX8_log 4 = .ok (.iconst (-1), 1) := by decide +kernel
theorem dX8_log_5 : decode cX8_log 5 = .ok (.ireturn, 1) := by decide +kernel
theorem dX8_log_6 : decode cX8_log 6 = .ok (.iload_n 1, 1) := by decide +kernel
theorem dX8_log_7 : decode cX8_log 7 = .ok (.aload_n 0, 1) := by decide +kernel
theorem dX8_log_8 : decode cX8_log 8 = .ok (.getfield 9, 3) := by decide +kernel
theorem dX8_log_11 : decode cX8_log 11 = .ok (.sipush 962, 3) := by decide +kernel
theorem dX8_log_14 : decode cX8_log 14 = .ok (.iaload, 1) := by decide +kernel
theorem dX8_log_15 : decode cX8_log 15 = .ok (.if_icmp .ge 16, 3) := by decide +kernel
theorem dX8_log_18 : decode cX8_log 18 = .ok (.aload_n 0, 1) := by decide +kernel
theorem dX8_log_19 : decode cX8_log 19 = .ok (.getfield 9, 3) := by decide +kernel
theorem dX8_log_22 : decode cX8_log 22 = .ok (.sipush 963, 3) := by decide +kernel
theorem dX8_log_25 : decode cX8_log 25 = .ok (.iload_n 1, 1) := by decide +kernel
theorem dX8_log_26 : decode cX8_log 26 = .ok (.iadd, 1) := by decide +kernel
theorem dX8_log_27 : decode cX8_log 27 = .ok (.iaload, 1) := by decide +kernel
theorem dX8_log_28 : decode cX8_log 28 = .ok (.goto 5, 3) := by decide +kernel
theorem dX8_log_31 : decode cX8_log 31 = .ok (.bipush (-2), 2) := by decide +kernel
theorem dX8_log_33 : decode cX8_log 33 = .ok (.ireturn, 1) := by decide +kernel
def k148_0 : List (Nat × XI) := [(0, x_iload 1 1), (1, x_ifge 6 4), (4, x_push (-1) 5), (5, x_iret), (6, x_iload 1 7), (7, x_aload 0 8), (8, x_getR 8 0 11), (11, x_push (962) 14), (14, x_iald 15), (15, x_icge 31 18), (18, x_aload 0 19), (19, x_getR 8 0 22), (22, x_push (963) 25), (25, x_iload 1 26), (26, x_iadd 27), (27, x_iald 28), (28, x_goto 33), (31, x_push (-2) 33), (33, x_iret)]
theorem o148_0 (scr : Nat × (Nat → Int32)) : ∀ q ∈ k148_0, XSnd xm scr Y148 q.1 q.2 := xcons (s_iload_n rfl dX8_log_0) (xcons (s_ifge dX8_log_1 rfl) (xcons (s_iconst dX8_log_4 rfl) (xcons (s_iret dX8_log_5 rfl) (xcons (s_iload_n rfl dX8_log_6) (xcons (s_aload_n rfl dX8_log_7) (xcons (s_getR (f := 0) xC8 (by decide) xw_470 rfl dX8_log_8) (xcons (s_sipush dX8_log_11 rfl) (xcons (s_iald dX8_log_14) (xcons (s_icge dX8_log_15 rfl) (xcons (s_aload_n rfl dX8_log_18) (xcons (s_getR (f := 0) xC8 (by decide) xw_470 rfl dX8_log_19) (xcons (s_sipush dX8_log_22 rfl) (xcons (s_iload_n rfl dX8_log_25) (xcons (s_iadd dX8_log_26) (xcons (s_iald dX8_log_27) (xcons (s_goto dX8_log_28 rfl) (xcons (s_bipush dX8_log_31 rfl) (xcons (s_iret dX8_log_33 rfl) (xnil)))))))))))))))))))
def k148 (pc : Nat) : XI := xlk k148_0 pc
theorem o148 (scr : Nat × (Nat → Int32)) (pc : Nat) : XSnd xm scr Y148 pc (k148 pc) := by
  unfold k148
  exact xlk_ok (o148_0 scr) pc
theorem dX8_logs_0 : decode cX8_logs 0 = .ok (.aload_n 0, 1) := by decide +kernel
theorem dX8_logs_1 : decode cX8_logs 1 = .ok (.getfield 9, 3) := by decide +kernel
theorem dX8_logs_4 : decode cX8_logs 4 = .ok (.sipush 962, 3) := by decide +kernel
theorem dX8_logs_7 : decode cX8_logs 7 = .ok (.iaload, 1) := by decide +kernel
theorem dX8_logs_8 : decode cX8_logs 8 = .ok (.bipush 30, 2) := by decide +kernel
theorem dX8_logs_10 : decode cX8_logs 10 = .ok (.if_icmp .ne 51, 3) := by decide +kernel
theorem dX8_logs_13 : decode cX8_logs 13 = .ok (.iconst 1, 1) := by decide +kernel
theorem dX8_logs_14 : decode cX8_logs 14 = .ok (.istore_n 3, 1) := by decide +kernel
theorem dX8_logs_15 : decode cX8_logs 15 = .ok (.iload_n 3, 1) := by decide +kernel
theorem dX8_logs_16 : decode cX8_logs 16 = .ok (.bipush 30, 2) := by decide +kernel
theorem dX8_logs_18 : decode cX8_logs 18 = .ok (.if_icmp .ge 31, 3) := by decide +kernel
theorem dX8_logs_21 : decode cX8_logs 21 = .ok (.aload_n 0, 1) := by decide +kernel
theorem dX8_logs_22 : decode cX8_logs 22 = .ok (.getfield 9, 3) := by decide +kernel
theorem dX8_logs_25 : decode cX8_logs 25 = .ok (.sipush 963, 3) := by decide +kernel
theorem dX8_logs_28 : decode cX8_logs 28 = .ok (.iload_n 3, 1) := by decide +kernel
theorem dX8_logs_29 : decode cX8_logs 29 = .ok (.iadd, 1) := by decide +kernel
theorem dX8_logs_30 : decode cX8_logs 30 = .ok (.iconst 1, 1) := by decide +kernel
theorem dX8_logs_31 : decode cX8_logs 31 = .ok (.isub, 1) := by decide +kernel
theorem dX8_logs_32 : decode cX8_logs 32 = .ok (.aload_n 0, 1) := by decide +kernel
theorem dX8_logs_33 : decode cX8_logs 33 = .ok (.getfield 9, 3) := by decide +kernel
def k149_0 : List (Nat × XI) := [(0, x_aload 0 1), (1, x_getR 8 0 4), (4, x_push (962) 7), (7, x_iald 8), (8, x_push (30) 10), (10, x_icne 61 13), (13, x_push (1) 14), (14, x_istore 3 15), (15, x_iload 3 16), (16, x_push (30) 18), (18, x_icge 49 21), (21, x_aload 0 22), (22, x_getR 8 0 25), (25, x_push (963) 28), (28, x_iload 3 29), (29, x_iadd 30), (30, x_push (1) 31), (31, x_isub 32), (32, x_aload 0 33), (33, x_getR 8 0 36)]
theorem o149_0 (scr : Nat × (Nat → Int32)) : ∀ q ∈ k149_0, XSnd xm scr Y149 q.1 q.2 := xcons (s_aload_n rfl dX8_logs_0) (xcons (s_getR (f := 0) xC8 (by decide) xw_470 rfl dX8_logs_1) (xcons (s_sipush dX8_logs_4 rfl) (xcons (s_iald dX8_logs_7) (xcons (s_bipush dX8_logs_8 rfl) (xcons (s_icne dX8_logs_10 rfl) (xcons (s_iconst dX8_logs_13 rfl) (xcons (s_istore_n rfl dX8_logs_14 (by decide)) (xcons (s_iload_n rfl dX8_logs_15) (xcons (s_bipush dX8_logs_16 rfl) (xcons (s_icge dX8_logs_18 rfl) (xcons (s_aload_n rfl dX8_logs_21) (xcons (s_getR (f := 0) xC8 (by decide) xw_470 rfl dX8_logs_22) (xcons (s_sipush dX8_logs_25 rfl) (xcons (s_iload_n rfl dX8_logs_28) (xcons (s_iadd dX8_logs_29) (xcons (s_iconst dX8_logs_30 rfl) (xcons (s_isub dX8_logs_31) (xcons (s_aload_n rfl dX8_logs_32) (xcons (s_getR (f := 0) xC8 (by decide) xw_470 rfl dX8_logs_33) (xnil))))))))))))))))))))
theorem dX8_logs_36 : decode cX8_logs 36 = .ok (.sipush 963, 3) := by decide +kernel
theorem dX8_logs_39 : decode cX8_logs 39 = .ok (.iload_n 3, 1) := by decide +kernel
theorem dX8_logs_40 : decode cX8_logs 40 = .ok (.iadd, 1) := by decide +kernel
theorem dX8_logs_41 : decode cX8_logs 41 = .ok (.iaload, 1) := by decide +kernel
theorem dX8_logs_42 : decode cX8_logs 42 = .ok (.iastore, 1) := by decide +kernel
theorem dX8_logs_43 : decode cX8_logs 43 = .ok (.iinc 3 1, 3) := by decide +kernel
theorem dX8_logs_46 : decode cX8_logs 46 = .ok (.goto (-31), 3) := by decide +kernel
theorem dX8_logs_49 : decode cX8_logs 49 = .ok (.aload_n 0, 1) := by decide +kernel
theorem dX8_logs_50 : decode cX8_logs 50 = .ok (.getfield 9, 3) := by decide +kernel
theorem dX8_logs_53 : decode cX8_logs 53 = .ok (.sipush 962, 3) := by decide +kernel
theorem dX8_logs_56 : decode cX8_logs 56 = .ok (.dup2, 1) := by decide +kernel
theorem dX8_logs_57 : decode cX8_logs 57 = .ok (.iaload, 1) := by decide +kernel
theorem dX8_logs_58 : decode cX8_logs 58 = .ok (.iconst 1, 1) := by decide +kernel
theorem dX8_logs_59 : decode cX8_logs 59 = .ok (.isub, 1) := by decide +kernel
theorem dX8_logs_60 : decode cX8_logs 60 = .ok (.iastore, 1) := by decide +kernel
theorem dX8_logs_61 : decode cX8_logs 61 = .ok (.aload_n 0, 1) := by decide +kernel
theorem dX8_logs_62 : decode cX8_logs 62 = .ok (.sipush 1000, 3) := by decide +kernel
theorem dX8_logs_65 : decode cX8_logs 65 = .ok (.iload_n 1, 1) := by decide +kernel
theorem dX8_logs_66 : decode cX8_logs 66 = .ok (.imul, 1) := by decide +kernel
theorem dX8_logs_67 : decode cX8_logs 67 = .ok (.iload_n 2, 1) := by decide +kernel
def k149_1 : List (Nat × XI) := [(36, x_push (963) 39), (39, x_iload 3 40), (40, x_iadd 41), (41, x_iald 42), (42, x_iast 43), (43, x_iinc 3 (1) 46), (46, x_goto 15), (49, x_aload 0 50), (50, x_getR 8 0 53), (53, x_push (962) 56), (56, x_dup2 57), (57, x_iald 58), (58, x_push (1) 59), (59, x_isub 60), (60, x_iast 61), (61, x_aload 0 62), (62, x_push (1000) 65), (65, x_iload 1 66), (66, x_imul 67), (67, x_iload 2 68)]
theorem o149_1 (scr : Nat × (Nat → Int32)) : ∀ q ∈ k149_1, XSnd xm scr Y149 q.1 q.2 := xcons (s_sipush dX8_logs_36 rfl) (xcons (s_iload_n rfl dX8_logs_39) (xcons (s_iadd dX8_logs_40) (xcons (s_iald dX8_logs_41) (xcons (s_iast dX8_logs_42) (xcons (s_iinc dX8_logs_43 rfl (by decide)) (xcons (s_goto dX8_logs_46 rfl) (xcons (s_aload_n rfl dX8_logs_49) (xcons (s_getR (f := 0) xC8 (by decide) xw_470 rfl dX8_logs_50) (xcons (s_sipush dX8_logs_53 rfl) (xcons (s_dup2 dX8_logs_56) (xcons (s_iald dX8_logs_57) (xcons (s_iconst dX8_logs_58 rfl) (xcons (s_isub dX8_logs_59) (xcons (s_iast dX8_logs_60) (xcons (s_aload_n rfl dX8_logs_61) (xcons (s_sipush dX8_logs_62 rfl) (xcons (s_iload_n rfl dX8_logs_65) (xcons (s_imul dX8_logs_66) (xcons (s_iload_n rfl dX8_logs_67) (xnil))))))))))))))))))))
theorem dX8_logs_68 : decode cX8_logs 68 = .ok (.invokestatic 139, 3) := by decide +kernel
theorem dX8_logs_71 : decode cX8_logs 71 = .ok (.iadd, 1) := by decide +kernel
theorem dX8_logs_72 : decode cX8_logs 72 = .ok (.sipush 300, 3) := by decide +kernel
theorem dX8_logs_75 : decode cX8_logs 75 = .ok (.iadd, 1) := by decide +kernel
theorem dX8_logs_76 : decode cX8_logs 76 = .ok (.putfield 142, 3) := by decide +kernel
theorem dX8_logs_79 : decode cX8_logs 79 = .ok (.aload_n 0, 1) := by decide +kernel
theorem dX8_logs_80 : decode cX8_logs 80 = .ok (.getfield 9, 3) := by decide +kernel
theorem dX8_logs_83 : decode cX8_logs 83 = .ok (.sipush 963, 3) := by decide +kernel
theorem dX8_logs_86 : decode cX8_logs 86 = .ok (.aload_n 0, 1) := by decide +kernel
theorem dX8_logs_87 : decode cX8_logs 87 = .ok (.getfield 9, 3) := by decide +kernel
theorem dX8_logs_90 : decode cX8_logs 90 = .ok (.sipush 962, 3) := by decide +kernel
theorem dX8_logs_93 : decode cX8_logs 93 = .ok (.iaload, 1) := by decide +kernel
theorem dX8_logs_94 : decode cX8_logs 94 = .ok (.iadd, 1) := by decide +kernel
theorem dX8_logs_95 : decode cX8_logs 95 = .ok (.aload_n 0, 1) := by decide +kernel
theorem dX8_logs_96 : decode cX8_logs 96 = .ok (.getfield 142, 3) := by decide +kernel
theorem dX8_logs_99 : decode cX8_logs 99 = .ok (.iastore, 1) := by decide +kernel
theorem dX8_logs_100 : decode cX8_logs 100 = .ok (.aload_n 0, 1) := by decide +kernel
theorem dX8_logs_101 : decode cX8_logs 101 = .ok (.getfield 9, 3) := by decide +kernel
theorem dX8_logs_104 : decode cX8_logs 104 = .ok (.sipush 962, 3) := by decide +kernel
theorem dX8_logs_107 : decode cX8_logs 107 = .ok (.dup2, 1) := by decide +kernel
def k149_2 : List (Nat × XI) := [(68, x_invS 184 1 71), (71, x_iadd 72), (72, x_push (300) 75), (75, x_iadd 76), (76, x_putI 8 7 79), (79, x_aload 0 80), (80, x_getR 8 0 83), (83, x_push (963) 86), (86, x_aload 0 87), (87, x_getR 8 0 90), (90, x_push (962) 93), (93, x_iald 94), (94, x_iadd 95), (95, x_aload 0 96), (96, x_getI 8 7 99), (99, x_iast 100), (100, x_aload 0 101), (101, x_getR 8 0 104), (104, x_push (962) 107), (107, x_dup2 108)]
theorem o149_2 (scr : Nat × (Nat → Int32)) : ∀ q ∈ k149_2, XSnd xm scr Y149 q.1 q.2 := xcons (s_invS (mid := 184) cal_184 xw_632 xw_633 dX8_logs_68) (xcons (s_iadd dX8_logs_71) (xcons (s_sipush dX8_logs_72 rfl) (xcons (s_iadd dX8_logs_75) (xcons (s_putI (f := 7) xC8 (by decide) xw_634 rfl (Or.inl rfl) dX8_logs_76) (xcons (s_aload_n rfl dX8_logs_79) (xcons (s_getR (f := 0) xC8 (by decide) xw_470 rfl dX8_logs_80) (xcons (s_sipush dX8_logs_83 rfl) (xcons (s_aload_n rfl dX8_logs_86) (xcons (s_getR (f := 0) xC8 (by decide) xw_470 rfl dX8_logs_87) (xcons (s_sipush dX8_logs_90 rfl) (xcons (s_iald dX8_logs_93) (xcons (s_iadd dX8_logs_94) (xcons (s_aload_n rfl dX8_logs_95) (xcons (s_getI (f := 7) xC8 (by decide) xw_634 rfl dX8_logs_96) (xcons (s_iast dX8_logs_99) (xcons (s_aload_n rfl dX8_logs_100) (xcons (s_getR (f := 0) xC8 (by decide) xw_470 rfl dX8_logs_101) (xcons (s_sipush dX8_logs_104 rfl) (xcons (s_dup2 dX8_logs_107) (xnil))))))))))))))))))))
theorem dX8_logs_108 : decode cX8_logs 108 = .ok (.iaload, 1) := by decide +kernel
theorem dX8_logs_109 : decode cX8_logs 109 = .ok (.iconst 1, 1) := by decide +kernel
theorem dX8_logs_110 : decode cX8_logs 110 = .ok (.iadd, 1) := by decide +kernel
theorem dX8_logs_111 : decode cX8_logs 111 = .ok (.iastore, 1) := by decide +kernel
theorem dX8_logs_112 : decode cX8_logs 112 = .ok (.return_, 1) := by decide +kernel
def k149_3 : List (Nat × XI) := [(108, x_iald 109), (109, x_push (1) 110), (110, x_iadd 111), (111, x_iast 112), (112, x_ret)]
theorem o149_3 (scr : Nat × (Nat → Int32)) : ∀ q ∈ k149_3, XSnd xm scr Y149 q.1 q.2 := xcons (s_iald dX8_logs_108) (xcons (s_iconst dX8_logs_109 rfl) (xcons (s_iadd dX8_logs_110) (xcons (s_iast dX8_logs_111) (xcons (s_ret dX8_logs_112 rfl) (xnil)))))
def k149 (pc : Nat) : XI := if pc < 68 then if pc < 36 then xlk k149_0 pc else xlk k149_1 pc else if pc < 108 then xlk k149_2 pc else xlk k149_3 pc
theorem o149 (scr : Nat × (Nat → Int32)) (pc : Nat) : XSnd xm scr Y149 pc (k149 pc) := by
  unfold k149
  exact xite (xite (xlk_ok (o149_0 scr) pc) (xlk_ok (o149_1 scr) pc)) (xite (xlk_ok (o149_2 scr) pc) (xlk_ok (o149_3 scr) pc))
theorem dX8_message_0 : decode cX8_message 0 = .ok (.aload_n 0, 1) := by decide +kernel
theorem dX8_message_1 : decode cX8_message 1 = .ok (.iload_n 1, 1) := by decide +kernel
theorem dX8_message_2 : decode cX8_message 2 = .ok (.invokevirtual 167, 3) := by decide +kernel
theorem dX8_message_5 : decode cX8_message 5 = .ok (.ifCond .eq 7, 3) := by decide +kernel
theorem dX8_message_8 : decode cX8_message 8 = .ok (.iload_n 2, 1) := by decide +kernel
theorem dX8_message_9 : decode cX8_message 9 = .ok (.ifCond .ge 5, 3) := by decide +kernel
theorem dX8_message_12 : decode cX8_message 12 = .ok (.iconst (-1), 1) := by decide +kernel
theorem dX8_message_13 : decode cX8_message 13 = .ok (.ireturn, 1) := by decide +kernel
theorem dX8_message_14 : decode cX8_message 14 = .ok (.aload_n 0, 1) := by decide +kernel
theorem dX8_message_15 : decode cX8_message 15 = .ok (.iload_n 1, 1) := by decide +kernel
theorem dX8_message_16 : decode cX8_message 16 = .ok (.iload_n 2, 1) := by decide +kernel
theorem dX8_message_17 : decode cX8_message 17 = .ok (.iload_n 3, 1) := by decide +kernel
theorem dX8_message_18 : decode cX8_message 18 = .ok (.invokevirtual 187, 3) := by decide +kernel
theorem dX8_message_21 : decode cX8_message 21 = .ok (.istore 4, 2) := by decide +kernel
theorem dX8_message_23 : decode cX8_message 23 = .ok (.iload 4, 2) := by decide +kernel
theorem dX8_message_25 : decode cX8_message 25 = .ok (.ifCond .ge 6, 3) := by decide +kernel
theorem dX8_message_28 : decode cX8_message 28 = .ok (.bipush (-2), 2) := by decide +kernel
theorem dX8_message_30 : decode cX8_message 30 = .ok (.ireturn, 1) := by decide +kernel
theorem dX8_message_31 : decode cX8_message 31 = .ok (.aload_n 0, 1) := by decide +kernel
theorem dX8_message_32 : decode cX8_message 32 = .ok (.iload_n 1, 1) := by decide +kernel
def k150_0 : List (Nat × XI) := [(0, x_aload 0 1), (1, x_iload 1 2), (2, x_inv 136 8 1 5), (5, x_ifeq 12 8), (8, x_iload 2 9), (9, x_ifge 14 12), (12, x_push (-1) 13), (13, x_iret), (14, x_aload 0 15), (15, x_iload 1 16), (16, x_iload 2 17), (17, x_iload 3 18), (18, x_inv 151 8 3 21), (21, x_istore 4 23), (23, x_iload 4 25), (25, x_ifge 31 28), (28, x_push (-2) 30), (30, x_iret), (31, x_aload 0 32), (32, x_iload 1 33)]
theorem o150_0 (scr : Nat × (Nat → Int32)) : ∀ q ∈ k150_0, XSnd xm scr Y150 q.1 q.2 := xcons (s_aload_n rfl dX8_message_0) (xcons (s_iload_n rfl dX8_message_1) (xcons (s_inv (mid := 136) xC8 cal_136 xw_483 xw_484 xw_485 dX8_message_2) (xcons (s_ifeq dX8_message_5 rfl) (xcons (s_iload_n rfl dX8_message_8) (xcons (s_ifge dX8_message_9 rfl) (xcons (s_iconst dX8_message_12 rfl) (xcons (s_iret dX8_message_13 rfl) (xcons (s_aload_n rfl dX8_message_14) (xcons (s_iload_n rfl dX8_message_15) (xcons (s_iload_n rfl dX8_message_16) (xcons (s_iload_n rfl dX8_message_17) (xcons (s_inv (mid := 151) xC8 cal_151 xw_636 xw_637 xw_638 dX8_message_18) (xcons (s_istore dX8_message_21 (by decide)) (xcons (s_iload dX8_message_23) (xcons (s_ifge dX8_message_25 rfl) (xcons (s_bipush dX8_message_28 rfl) (xcons (s_iret dX8_message_30 rfl) (xcons (s_aload_n rfl dX8_message_31) (xcons (s_iload_n rfl dX8_message_32) (xnil))))))))))))))))))))
theorem dX8_message_33 : decode cX8_message 33 = .ok (.iload 4, 2) := by decide +kernel
theorem dX8_message_35 : decode cX8_message 35 = .ok (.iconst 1, 1) := by decide +kernel
theorem dX8_message_36 : decode cX8_message 36 = .ok (.iadd, 1) := by decide +kernel
theorem dX8_message_37 : decode cX8_message 37 = .ok (.invokevirtual 55, 3) := by decide +kernel
theorem dX8_message_40 : decode cX8_message 40 = .ok (.istore 5, 2) := by decide +kernel
theorem dX8_message_42 : decode cX8_message 42 = .ok (.iload 5, 2) := by decide +kernel
theorem dX8_message_44 : decode cX8_message 44 = .ok (.sipush 1000, 3) := by decide +kernel
theorem dX8_message_47 : decode cX8_message 47 = .ok (.if_icmp .lt 16, 3) := by decide +kernel
theorem dX8_message_50 : decode cX8_message 50 = .ok (.sipush 300, 3) := by decide +kernel
theorem dX8_message_53 : decode cX8_message 53 = .ok (.iload 5, 2) := by decide +kernel
theorem dX8_message_55 : decode cX8_message 55 = .ok (.iadd, 1) := by decide +kernel
theorem dX8_message_56 : decode cX8_message 56 = .ok (.sipush 1000, 3) := by decide +kernel
theorem dX8_message_59 : decode cX8_message 59 = .ok (.isub, 1) := by decide +kernel
theorem dX8_message_60 : decode cX8_message 60 = .ok (.goto 8, 3) := by decide +kernel
theorem dX8_message_63 : decode cX8_message 63 = .ok (.iload 5, 2) := by decide +kernel
theorem dX8_message_65 : decode cX8_message 65 = .ok (.bipush 100, 2) := by decide +kernel
theorem dX8_message_67 : decode cX8_message 67 = .ok (.iadd, 1) := by decide +kernel
theorem dX8_message_68 : decode cX8_message 68 = .ok (.ireturn, 1) := by decide +kernel
def k150_1 : List (Nat × XI) := [(33, x_iload 4 35), (35, x_push (1) 36), (36, x_iadd 37), (37, x_inv 108 8 2 40), (40, x_istore 5 42), (42, x_iload 5 44), (44, x_push (1000) 47), (47, x_iclt 63 50), (50, x_push (300) 53), (53, x_iload 5 55), (55, x_iadd 56), (56, x_push (1000) 59), (59, x_isub 60), (60, x_goto 68), (63, x_iload 5 65), (65, x_push (100) 67), (67, x_iadd 68), (68, x_iret)]
theorem o150_1 (scr : Nat × (Nat → Int32)) : ∀ q ∈ k150_1, XSnd xm scr Y150 q.1 q.2 := xcons (s_iload dX8_message_33) (xcons (s_iconst dX8_message_35 rfl) (xcons (s_iadd dX8_message_36) (xcons (s_inv (mid := 108) xC8 cal_108 xw_508 xw_509 xw_510 dX8_message_37) (xcons (s_istore dX8_message_40 (by decide)) (xcons (s_iload dX8_message_42) (xcons (s_sipush dX8_message_44 rfl) (xcons (s_iclt dX8_message_47 rfl) (xcons (s_sipush dX8_message_50 rfl) (xcons (s_iload dX8_message_53) (xcons (s_iadd dX8_message_55) (xcons (s_sipush dX8_message_56 rfl) (xcons (s_isub dX8_message_59) (xcons (s_goto dX8_message_60 rfl) (xcons (s_iload dX8_message_63) (xcons (s_bipush dX8_message_65 rfl) (xcons (s_iadd dX8_message_67) (xcons (s_iret dX8_message_68 rfl) (xnil))))))))))))))))))
def k150 (pc : Nat) : XI := if pc < 33 then xlk k150_0 pc else xlk k150_1 pc
theorem o150 (scr : Nat × (Nat → Int32)) (pc : Nat) : XSnd xm scr Y150 pc (k150 pc) := by
  unfold k150
  exact xite (xlk_ok (o150_0 scr) pc) (xlk_ok (o150_1 scr) pc)
theorem dX8_messageAt_0 : decode cX8_messageAt 0 = .ok (.iload_n 2, 1) := by decide +kernel
theorem dX8_messageAt_1 : decode cX8_messageAt 1 = .ok (.aload_n 0, 1) := by decide +kernel
theorem dX8_messageAt_2 : decode cX8_messageAt 2 = .ok (.iload_n 1, 1) := by decide +kernel
theorem dX8_messageAt_3 : decode cX8_messageAt 3 = .ok (.iload_n 3, 1) := by decide +kernel
theorem dX8_messageAt_4 : decode cX8_messageAt 4 = .ok (.ifCond .eq 8, 3) := by decide +kernel
theorem dX8_messageAt_7 : decode cX8_messageAt 7 = .ok (.bipush 38, 2) := by decide +kernel
theorem dX8_messageAt_9 : decode cX8_messageAt 9 = .ok (.goto 5, 3) := by decide +kernel
theorem dX8_messageAt_12 : decode cX8_messageAt 12 = .ok (.bipush 13, 2) := by decide +kernel
theorem dX8_messageAt_14 : decode cX8_messageAt 14 = .ok (.invokevirtual 55, 3) := by decide +kernel
theorem dX8_messageAt_17 : decode cX8_messageAt 17 = .ok (.if_icmp .ge 21, 3) := by decide +kernel
theorem dX8_messageAt_20 : decode cX8_messageAt 20 = .ok (.iload_n 3, 1) := by decide +kernel
theorem dX8_messageAt_21 : decode cX8_messageAt 21 = .ok (.ifCond .eq 8, 3) := by decide +kernel
theorem dX8_messageAt_24 : decode cX8_messageAt 24 = .ok (.bipush 39, 2) := by decide +kernel
theorem dX8_messageAt_26 : decode cX8_messageAt 26 = .ok (.goto 5, 3) := by decide +kernel
theorem dX8_messageAt_29 : decode cX8_messageAt 29 = .ok (.bipush 14, 2) := by decide +kernel
theorem dX8_messageAt_31 : decode cX8_messageAt 31 = .ok (.iconst 2, 1) := by decide +kernel
theorem dX8_messageAt_32 : decode cX8_messageAt 32 = .ok (.iload_n 2, 1) := by decide +kernel
theorem dX8_messageAt_33 : decode cX8_messageAt 33 = .ok (.imul, 1) := by decide +kernel
theorem dX8_messageAt_34 : decode cX8_messageAt 34 = .ok (.iadd, 1) := by decide +kernel
theorem dX8_messageAt_35 : decode cX8_messageAt 35 = .ok (.goto 5, 3) := by decide +kernel
def k151_0 : List (Nat × XI) := [(0, x_iload 2 1), (1, x_aload 0 2), (2, x_iload 1 3), (3, x_iload 3 4), (4, x_ifeq 12 7), (7, x_push (38) 9), (9, x_goto 14), (12, x_push (13) 14), (14, x_inv 108 8 2 17), (17, x_icge 38 20), (20, x_iload 3 21), (21, x_ifeq 29 24), (24, x_push (39) 26), (26, x_goto 31), (29, x_push (14) 31), (31, x_push (2) 32), (32, x_iload 2 33), (33, x_imul 34), (34, x_iadd 35), (35, x_goto 40)]
theorem o151_0 (scr : Nat × (Nat → Int32)) : ∀ q ∈ k151_0, XSnd xm scr Y151 q.1 q.2 := xcons (s_iload_n rfl dX8_messageAt_0) (xcons (s_aload_n rfl dX8_messageAt_1) (xcons (s_iload_n rfl dX8_messageAt_2) (xcons (s_iload_n rfl dX8_messageAt_3) (xcons (s_ifeq dX8_messageAt_4 rfl) (xcons (s_bipush dX8_messageAt_7 rfl) (xcons (s_goto dX8_messageAt_9 rfl) (xcons (s_bipush dX8_messageAt_12 rfl) (xcons (s_inv (mid := 108) xC8 cal_108 xw_508 xw_509 xw_510 dX8_messageAt_14) (xcons (s_icge dX8_messageAt_17 rfl) (xcons (s_iload_n rfl dX8_messageAt_20) (xcons (s_ifeq dX8_messageAt_21 rfl) (xcons (s_bipush dX8_messageAt_24 rfl) (xcons (s_goto dX8_messageAt_26 rfl) (xcons (s_bipush dX8_messageAt_29 rfl) (xcons (s_iconst dX8_messageAt_31 rfl) (xcons (s_iload_n rfl dX8_messageAt_32) (xcons (s_imul dX8_messageAt_33) (xcons (s_iadd dX8_messageAt_34) (xcons (s_goto dX8_messageAt_35 rfl) (xnil))))))))))))))))))))
theorem dX8_messageAt_38 : decode cX8_messageAt 38 = .ok (.bipush (-2), 2) := by decide +kernel
theorem dX8_messageAt_40 : decode cX8_messageAt 40 = .ok (.ireturn, 1) := by decide +kernel
def k151_1 : List (Nat × XI) := [(38, x_push (-2) 40), (40, x_iret)]
theorem o151_1 (scr : Nat × (Nat → Int32)) : ∀ q ∈ k151_1, XSnd xm scr Y151 q.1 q.2 := xcons (s_bipush dX8_messageAt_38 rfl) (xcons (s_iret dX8_messageAt_40 rfl) (xnil))
def k151 (pc : Nat) : XI := if pc < 38 then xlk k151_0 pc else xlk k151_1 pc
theorem o151 (scr : Nat × (Nat → Int32)) (pc : Nat) : XSnd xm scr Y151 pc (k151 pc) := by
  unfold k151
  exact xite (xlk_ok (o151_0 scr) pc) (xlk_ok (o151_1 scr) pc)
theorem dX8_must_0 : decode cX8_must 0 = .ok (.aload_n 0, 1) := by decide +kernel
theorem dX8_must_1 : decode cX8_must 1 = .ok (.iload_n 1, 1) := by decide +kernel
theorem dX8_must_2 : decode cX8_must 2 = .ok (.iload_n 2, 1) := by decide +kernel
theorem dX8_must_3 : decode cX8_must 3 = .ok (.invokevirtual 216, 3) := by decide +kernel
theorem dX8_must_6 : decode cX8_must 6 = .ok (.ifCond .ne 27, 3) := by decide +kernel
theorem dX8_must_9 : decode cX8_must 9 = .ok (.aload_n 0, 1) := by decide +kernel
theorem dX8_must_10 : decode cX8_must 10 = .ok (.aload_n 0, 1) := by decide +kernel
theorem dX8_must_11 : decode cX8_must 11 = .ok (.getfield 210, 3) := by decide +kernel
theorem dX8_must_14 : decode cX8_must 14 = .ok (.ifCond .ge 10, 3) := by decide +kernel
theorem dX8_must_17 : decode cX8_must 17 = .ok (.aload_n 0, 1) := by decide +kernel
theorem dX8_must_18 : decode cX8_must 18 = .ok (.getfield 213, 3) := by decide +kernel
theorem dX8_must_21 : decode cX8_must 21 = .ok (.goto 7, 3) := by decide +kernel
theorem dX8_must_24 : decode cX8_must 24 = .ok (.aload_n 0, 1) := by decide +kernel
theorem dX8_must_25 : decode cX8_must 25 = .ok (.getfield 210, 3) := by decide +kernel
theorem dX8_must_28 : decode cX8_must 28 = .ok (.putfield 210, 3) := by decide +kernel
theorem dX8_must_31 : decode cX8_must 31 = .ok (.iload_n 1, 1) := by decide +kernel
theorem dX8_must_32 : decode cX8_must 32 = .ok (.ireturn, 1) := by decide +kernel
theorem dX8_must_33 : decode cX8_must 33 = .ok (.aload_n 0, 1) := by decide +kernel
theorem dX8_must_34 : decode cX8_must 34 = .ok (.getfield 25, 3) := by decide +kernel
theorem dX8_must_37 : decode cX8_must 37 = .ok (.aload_n 0, 1) := by decide +kernel
def k152_0 : List (Nat × XI) := [(0, x_aload 0 1), (1, x_iload 1 2), (2, x_iload 2 3), (3, x_inv 169 8 2 6), (6, x_ifne 33 9), (9, x_aload 0 10), (10, x_aload 0 11), (11, x_getI 8 20 14), (14, x_ifge 24 17), (17, x_aload 0 18), (18, x_getI 8 19 21), (21, x_goto 28), (24, x_aload 0 25), (25, x_getI 8 20 28), (28, x_putI 8 20 31), (31, x_iload 1 32), (32, x_iret), (33, x_aload 0 34), (34, x_getR 8 10 37), (37, x_aload 0 38)]
theorem o152_0 (scr : Nat × (Nat → Int32)) : ∀ q ∈ k152_0, XSnd xm scr Y152 q.1 q.2 := xcons (s_aload_n rfl dX8_must_0) (xcons (s_iload_n rfl dX8_must_1) (xcons (s_iload_n rfl dX8_must_2) (xcons (s_inv (mid := 169) xC8 cal_169 xw_624 xw_625 xw_626 dX8_must_3) (xcons (s_ifne dX8_must_6 rfl) (xcons (s_aload_n rfl dX8_must_9) (xcons (s_aload_n rfl dX8_must_10) (xcons (s_getI (f := 20) xC8 (by decide) xw_610 rfl dX8_must_11) (xcons (s_ifge dX8_must_14 rfl) (xcons (s_aload_n rfl dX8_must_17) (xcons (s_getI (f := 19) xC8 (by decide) xw_609 rfl dX8_must_18) (xcons (s_goto dX8_must_21 rfl) (xcons (s_aload_n rfl dX8_must_24) (xcons (s_getI (f := 20) xC8 (by decide) xw_610 rfl dX8_must_25) (xcons (s_putI (f := 20) xC8 (by decide) xw_610 rfl (Or.inl rfl) dX8_must_28) (xcons (s_iload_n rfl dX8_must_31) (xcons (s_iret dX8_must_32 rfl) (xcons (s_aload_n rfl dX8_must_33) (xcons (s_getR (f := 10) xC8 (by decide) xw_577 rfl dX8_must_34) (xcons (s_aload_n rfl dX8_must_37) (xnil))))))))))))))))))))
theorem dX8_must_38 : decode cX8_must 38 = .ok (.dup, 1) := by decide +kernel
theorem dX8_must_39 : decode cX8_must 39 = .ok (.getfield 213, 3) := by decide +kernel
theorem dX8_must_42 : decode cX8_must 42 = .ok (.dup_x1, 1) := by decide +kernel
theorem dX8_must_43 : decode cX8_must 43 = .ok (.iconst 1, 1) := by decide +kernel
theorem dX8_must_44 : decode cX8_must 44 = .ok (.iadd, 1) := by decide +kernel
theorem dX8_must_45 : decode cX8_must 45 = .ok (.putfield 213, 3) := by decide +kernel
theorem dX8_must_48 : decode cX8_must 48 = .ok (.iaload, 1) := by decide +kernel
theorem dX8_must_49 : decode cX8_must 49 = .ok (.ireturn, 1) := by decide +kernel
def k152_1 : List (Nat × XI) := [(38, x_dup 39), (39, x_getI 8 19 42), (42, x_dup_x1 43), (43, x_push (1) 44), (44, x_iadd 45), (45, x_putI 8 19 48), (48, x_iald 49), (49, x_iret)]
theorem o152_1 (scr : Nat × (Nat → Int32)) : ∀ q ∈ k152_1, XSnd xm scr Y152 q.1 q.2 := xcons (s_dup dX8_must_38) (xcons (s_getI (f := 19) xC8 (by decide) xw_609 rfl dX8_must_39) (xcons (s_dup_x1 dX8_must_42) (xcons (s_iconst dX8_must_43 rfl) (xcons (s_iadd dX8_must_44) (xcons (s_putI (f := 19) xC8 (by decide) xw_609 rfl (Or.inl rfl) dX8_must_45) (xcons (s_iald dX8_must_48) (xcons (s_iret dX8_must_49 rfl) (xnil))))))))
def k152 (pc : Nat) : XI := if pc < 38 then xlk k152_0 pc else xlk k152_1 pc
theorem o152 (scr : Nat × (Nat → Int32)) (pc : Nat) : XSnd xm scr Y152 pc (k152 pc) := by
  unfold k152
  exact xite (xlk_ok (o152_0 scr) pc) (xlk_ok (o152_1 scr) pc)
theorem dX8_nextActor_0 : decode cX8_nextActor 0 = .ok (.iconst 1, 1) := by decide +kernel
theorem dX8_nextActor_1 : decode cX8_nextActor 1 = .ok (.istore_n 1, 1) := by decide +kernel
theorem dX8_nextActor_2 : decode cX8_nextActor 2 = .ok (.iload_n 1, 1) := by decide +kernel
theorem dX8_nextActor_3 : decode cX8_nextActor 3 = .ok (.bipush 12, 2) := by decide +kernel
theorem dX8_nextActor_5 : decode cX8_nextActor 5 = .ok (.if_icmp .gt 58, 3) := by decide +kernel
theorem dX8_nextActor_8 : decode cX8_nextActor 8 = .ok (.aload_n 0, 1) := by decide +kernel
theorem dX8_nextActor_9 : decode cX8_nextActor 9 = .ok (.getfield 9, 3) := by decide +kernel
theorem dX8_nextActor_12 : decode cX8_nextActor 12 = .ok (.sipush 928, 3) := by decide +kernel
theorem dX8_nextActor_15 : decode cX8_nextActor 15 = .ok (.iaload, 1) := by decide +kernel
theorem dX8_nextActor_16 : decode cX8_nextActor 16 = .ok (.iload_n 1, 1) := by decide +kernel
theorem dX8_nextActor_17 : decode cX8_nextActor 17 = .ok (.iadd, 1) := by decide +kernel
theorem dX8_nextActor_18 : decode cX8_nextActor 18 = .ok (.bipush 12, 2) := by decide +kernel
theorem dX8_nextActor_20 : decode cX8_nextActor 20 = .ok (.iadd, 1) := by decide +kernel
theorem dX8_nextActor_21 : decode cX8_nextActor 21 = .ok (.bipush 12, 2) := by decide +kernel
theorem dX8_nextActor_23 : decode cX8_nextActor 23 = .ok (.irem, 1) := by decide +kernel
theorem dX8_nextActor_24 : decode cX8_nextActor 24 = .ok (.istore_n 2, 1) := by decide +kernel
theorem dX8_nextActor_25 : decode cX8_nextActor 25 = .ok (.iload_n 2, 1) := by decide +kernel
theorem dX8_nextActor_26 : decode cX8_nextActor 26 = .ok (.aload_n 0, 1) := by decide +kernel
theorem dX8_nextActor_27 : decode cX8_nextActor 27 = .ok (.getfield 9, 3) := by decide +kernel
theorem dX8_nextActor_30 : decode cX8_nextActor 30 = .ok (.sipush 924, 3) := by decide +kernel
def k153_0 : List (Nat × XI) := [(0, x_push (1) 1), (1, x_istore 1 2), (2, x_iload 1 3), (3, x_push (12) 5), (5, x_icgt 63 8), (8, x_aload 0 9), (9, x_getR 8 0 12), (12, x_push (928) 15), (15, x_iald 16), (16, x_iload 1 17), (17, x_iadd 18), (18, x_push (12) 20), (20, x_iadd 21), (21, x_push (12) 23), (23, x_irem 24), (24, x_istore 2 25), (25, x_iload 2 26), (26, x_aload 0 27), (27, x_getR 8 0 30), (30, x_push (924) 33)]
theorem o153_0 (scr : Nat × (Nat → Int32)) : ∀ q ∈ k153_0, XSnd xm scr Y153 q.1 q.2 := xcons (s_iconst dX8_nextActor_0 rfl) (xcons (s_istore_n rfl dX8_nextActor_1 (by decide)) (xcons (s_iload_n rfl dX8_nextActor_2) (xcons (s_bipush dX8_nextActor_3 rfl) (xcons (s_icgt dX8_nextActor_5 rfl) (xcons (s_aload_n rfl dX8_nextActor_8) (xcons (s_getR (f := 0) xC8 (by decide) xw_470 rfl dX8_nextActor_9) (xcons (s_sipush dX8_nextActor_12 rfl) (xcons (s_iald dX8_nextActor_15) (xcons (s_iload_n rfl dX8_nextActor_16) (xcons (s_iadd dX8_nextActor_17) (xcons (s_bipush dX8_nextActor_18 rfl) (xcons (s_iadd dX8_nextActor_20) (xcons (s_bipush dX8_nextActor_21 rfl) (xcons (s_irem dX8_nextActor_23) (xcons (s_istore_n rfl dX8_nextActor_24 (by decide)) (xcons (s_iload_n rfl dX8_nextActor_25) (xcons (s_aload_n rfl dX8_nextActor_26) (xcons (s_getR (f := 0) xC8 (by decide) xw_470 rfl dX8_nextActor_27) (xcons (s_sipush dX8_nextActor_30 rfl) (xnil))))))))))))))))))))
theorem dX8_nextActor_33 : decode cX8_nextActor 33 = .ok (.iaload, 1) := by decide +kernel
theorem dX8_nextActor_34 : decode cX8_nextActor 34 = .ok (.if_icmp .ge 23, 3) := by decide +kernel
theorem dX8_nextActor_37 : decode cX8_nextActor 37 = .ok (.aload_n 0, 1) := by decide +kernel
theorem dX8_nextActor_38 : decode cX8_nextActor 38 = .ok (.iload_n 2, 1) := by decide +kernel
theorem dX8_nextActor_39 : decode cX8_nextActor 39 = .ok (.invokevirtual 59, 3) := by decide +kernel
theorem dX8_nextActor_42 : decode cX8_nextActor 42 = .ok (.ifCond .eq 15, 3) := by decide +kernel
theorem dX8_nextActor_45 : decode cX8_nextActor 45 = .ok (.aload_n 0, 1) := by decide +kernel
theorem dX8_nextActor_46 : decode cX8_nextActor 46 = .ok (.iload_n 2, 1) := by decide +kernel
theorem dX8_nextActor_47 : decode cX8_nextActor 47 = .ok (.bipush 13, 2) := by decide +kernel
theorem dX8_nextActor_49 : decode cX8_nextActor 49 = .ok (.invokevirtual 55, 3) := by decide +kernel
theorem dX8_nextActor_52 : decode cX8_nextActor 52 = .ok (.ifCond .le 5, 3) := by decide +kernel
theorem dX8_nextActor_55 : decode cX8_nextActor 55 = .ok (.iload_n 2, 1) := by decide +kernel
theorem dX8_nextActor_56 : decode cX8_nextActor 56 = .ok (.ireturn, 1) := by decide +kernel
theorem dX8_nextActor_57 : decode cX8_nextActor 57 = .ok (.iinc 1 1, 3) := by decide +kernel
theorem dX8_nextActor_60 : decode cX8_nextActor 60 = .ok (.goto (-58), 3) := by decide +kernel
theorem dX8_nextActor_63 : decode cX8_nextActor 63 = .ok (.bipush (-2), 2) := by decide +kernel
theorem dX8_nextActor_65 : decode cX8_nextActor 65 = .ok (.ireturn, 1) := by decide +kernel
def k153_1 : List (Nat × XI) := [(33, x_iald 34), (34, x_icge 57 37), (37, x_aload 0 38), (38, x_iload 2 39), (39, x_inv 140 8 1 42), (42, x_ifeq 57 45), (45, x_aload 0 46), (46, x_iload 2 47), (47, x_push (13) 49), (49, x_inv 108 8 2 52), (52, x_ifle 57 55), (55, x_iload 2 56), (56, x_iret), (57, x_iinc 1 (1) 60), (60, x_goto 2), (63, x_push (-2) 65), (65, x_iret)]
theorem o153_1 (scr : Nat × (Nat → Int32)) : ∀ q ∈ k153_1, XSnd xm scr Y153 q.1 q.2 := xcons (s_iald dX8_nextActor_33) (xcons (s_icge dX8_nextActor_34 rfl) (xcons (s_aload_n rfl dX8_nextActor_37) (xcons (s_iload_n rfl dX8_nextActor_38) (xcons (s_inv (mid := 140) xC8 cal_140 xw_490 xw_491 xw_492 dX8_nextActor_39) (xcons (s_ifeq dX8_nextActor_42 rfl) (xcons (s_aload_n rfl dX8_nextActor_45) (xcons (s_iload_n rfl dX8_nextActor_46) (xcons (s_bipush dX8_nextActor_47 rfl) (xcons (s_inv (mid := 108) xC8 cal_108 xw_508 xw_509 xw_510 dX8_nextActor_49) (xcons (s_ifle dX8_nextActor_52 rfl) (xcons (s_iload_n rfl dX8_nextActor_55) (xcons (s_iret dX8_nextActor_56 rfl) (xcons (s_iinc dX8_nextActor_57 rfl (by decide)) (xcons (s_goto dX8_nextActor_60 rfl) (xcons (s_bipush dX8_nextActor_63 rfl) (xcons (s_iret dX8_nextActor_65 rfl) (xnil)))))))))))))))))
def k153 (pc : Nat) : XI := if pc < 33 then xlk k153_0 pc else xlk k153_1 pc
theorem o153 (scr : Nat × (Nat → Int32)) (pc : Nat) : XSnd xm scr Y153 pc (k153 pc) := by
  unfold k153
  exact xite (xlk_ok (o153_0 scr) pc) (xlk_ok (o153_1 scr) pc)
theorem dX8_noted_0 : decode cX8_noted 0 = .ok (.iconst 0, 1) := by decide +kernel
theorem dX8_noted_1 : decode cX8_noted 1 = .ok (.istore_n 3, 1) := by decide +kernel
theorem dX8_noted_2 : decode cX8_noted 2 = .ok (.aload_n 0, 1) := by decide +kernel
theorem dX8_noted_3 : decode cX8_noted 3 = .ok (.iload_n 1, 1) := by decide +kernel
theorem dX8_noted_4 : decode cX8_noted 4 = .ok (.bipush 64, 2) := by decide +kernel
theorem dX8_noted_6 : decode cX8_noted 6 = .ok (.invokevirtual 55, 3) := by decide +kernel
theorem dX8_noted_9 : decode cX8_noted 9 = .ok (.istore 4, 2) := by decide +kernel
theorem dX8_noted_11 : decode cX8_noted 11 = .ok (.iconst 0, 1) := by decide +kernel
theorem dX8_noted_12 : decode cX8_noted 12 = .ok (.istore 5, 2) := by decide +kernel
theorem dX8_noted_14 : decode cX8_noted 14 = .ok (.iload 5, 2) := by decide +kernel
theorem dX8_noted_16 : decode cX8_noted 16 = .ok (.iload 4, 2) := by decide +kernel
theorem dX8_noted_18 : decode cX8_noted 18 = .ok (.if_icmp .ge 59, 3) := by decide +kernel
theorem dX8_noted_21 : decode cX8_noted 21 = .ok (.aload_n 0, 1) := by decide +kernel
theorem dX8_noted_22 : decode cX8_noted 22 = .ok (.iload_n 1, 1) := by decide +kernel
theorem dX8_noted_23 : decode cX8_noted 23 = .ok (.bipush 65, 2) := by decide +kernel
theorem dX8_noted_25 : decode cX8_noted 25 = .ok (.iload 5, 2) := by decide +kernel
theorem dX8_noted_27 : decode cX8_noted 27 = .ok (.iadd, 1) := by decide +kernel
theorem dX8_noted_28 : decode cX8_noted 28 = .ok (.invokevirtual 55, 3) := by decide +kernel
theorem dX8_noted_31 : decode cX8_noted 31 = .ok (.istore 6, 2) := by decide +kernel
theorem dX8_noted_33 : decode cX8_noted 33 = .ok (.iload 6, 2) := by decide +kernel
def k154_0 : List (Nat × XI) := [(0, x_push (0) 1), (1, x_istore 3 2), (2, x_aload 0 3), (3, x_iload 1 4), (4, x_push (64) 6), (6, x_inv 108 8 2 9), (9, x_istore 4 11), (11, x_push (0) 12), (12, x_istore 5 14), (14, x_iload 5 16), (16, x_iload 4 18), (18, x_icge 77 21), (21, x_aload 0 22), (22, x_iload 1 23), (23, x_push (65) 25), (25, x_iload 5 27), (27, x_iadd 28), (28, x_inv 108 8 2 31), (31, x_istore 6 33), (33, x_iload 6 35)]
theorem o154_0 (scr : Nat × (Nat → Int32)) : ∀ q ∈ k154_0, XSnd xm scr Y154 q.1 q.2 := xcons (s_iconst dX8_noted_0 rfl) (xcons (s_istore_n rfl dX8_noted_1 (by decide)) (xcons (s_aload_n rfl dX8_noted_2) (xcons (s_iload_n rfl dX8_noted_3) (xcons (s_bipush dX8_noted_4 rfl) (xcons (s_inv (mid := 108) xC8 cal_108 xw_508 xw_509 xw_510 dX8_noted_6) (xcons (s_istore dX8_noted_9 (by decide)) (xcons (s_iconst dX8_noted_11 rfl) (xcons (s_istore dX8_noted_12 (by decide)) (xcons (s_iload dX8_noted_14) (xcons (s_iload dX8_noted_16) (xcons (s_icge dX8_noted_18 rfl) (xcons (s_aload_n rfl dX8_noted_21) (xcons (s_iload_n rfl dX8_noted_22) (xcons (s_bipush dX8_noted_23 rfl) (xcons (s_iload dX8_noted_25) (xcons (s_iadd dX8_noted_27) (xcons (s_inv (mid := 108) xC8 cal_108 xw_508 xw_509 xw_510 dX8_noted_28) (xcons (s_istore dX8_noted_31 (by decide)) (xcons (s_iload dX8_noted_33) (xnil))))))))))))))))))))
theorem dX8_noted_35 : decode cX8_noted 35 = .ok (.aload_n 0, 1) := by decide +kernel
theorem dX8_noted_36 : decode cX8_noted 36 = .ok (.getfield 9, 3) := by decide +kernel
theorem dX8_noted_39 : decode cX8_noted 39 = .ok (.sipush 925, 3) := by decide +kernel
theorem dX8_noted_42 : decode cX8_noted 42 = .ok (.iaload, 1) := by decide +kernel
theorem dX8_noted_43 : decode cX8_noted 43 = .ok (.aload_n 0, 1) := by decide +kernel
theorem dX8_noted_44 : decode cX8_noted 44 = .ok (.iload_n 1, 1) := by decide +kernel
theorem dX8_noted_45 : decode cX8_noted 45 = .ok (.iconst 4, 1) := by decide +kernel
theorem dX8_noted_46 : decode cX8_noted 46 = .ok (.invokevirtual 55, 3) := by decide +kernel
theorem dX8_noted_49 : decode cX8_noted 49 = .ok (.isub, 1) := by decide +kernel
theorem dX8_noted_50 : decode cX8_noted 50 = .ok (.if_icmp .lt 21, 3) := by decide +kernel
theorem dX8_noted_53 : decode cX8_noted 53 = .ok (.iload_n 2, 1) := by decide +kernel
theorem dX8_noted_54 : decode cX8_noted 54 = .ok (.ifCond .eq 14, 3) := by decide +kernel
theorem dX8_noted_57 : decode cX8_noted 57 = .ok (.aload_n 0, 1) := by decide +kernel
theorem dX8_noted_58 : decode cX8_noted 58 = .ok (.iload_n 1, 1) := by decide +kernel
theorem dX8_noted_59 : decode cX8_noted 59 = .ok (.bipush 65, 2) := by decide +kernel
theorem dX8_noted_61 : decode cX8_noted 61 = .ok (.iload_n 3, 1) := by decide +kernel
theorem dX8_noted_62 : decode cX8_noted 62 = .ok (.iadd, 1) := by decide +kernel
theorem dX8_noted_63 : decode cX8_noted 63 = .ok (.iload 6, 2) := by decide +kernel
theorem dX8_noted_65 : decode cX8_noted 65 = .ok (.invokevirtual 63, 3) := by decide +kernel
theorem dX8_noted_68 : decode cX8_noted 68 = .ok (.iinc 3 1, 3) := by decide +kernel
def k154_1 : List (Nat × XI) := [(35, x_aload 0 36), (36, x_getR 8 0 39), (39, x_push (925) 42), (42, x_iald 43), (43, x_aload 0 44), (44, x_iload 1 45), (45, x_push (4) 46), (46, x_inv 108 8 2 49), (49, x_isub 50), (50, x_iclt 71 53), (53, x_iload 2 54), (54, x_ifeq 68 57), (57, x_aload 0 58), (58, x_iload 1 59), (59, x_push (65) 61), (61, x_iload 3 62), (62, x_iadd 63), (63, x_iload 6 65), (65, x_inv 172 8 3 68), (68, x_iinc 3 (1) 71)]
theorem o154_1 (scr : Nat × (Nat → Int32)) : ∀ q ∈ k154_1, XSnd xm scr Y154 q.1 q.2 := xcons (s_aload_n rfl dX8_noted_35) (xcons (s_getR (f := 0) xC8 (by decide) xw_470 rfl dX8_noted_36) (xcons (s_sipush dX8_noted_39 rfl) (xcons (s_iald dX8_noted_42) (xcons (s_aload_n rfl dX8_noted_43) (xcons (s_iload_n rfl dX8_noted_44) (xcons (s_iconst dX8_noted_45 rfl) (xcons (s_inv (mid := 108) xC8 cal_108 xw_508 xw_509 xw_510 dX8_noted_46) (xcons (s_isub dX8_noted_49) (xcons (s_iclt dX8_noted_50 rfl) (xcons (s_iload_n rfl dX8_noted_53) (xcons (s_ifeq dX8_noted_54 rfl) (xcons (s_aload_n rfl dX8_noted_57) (xcons (s_iload_n rfl dX8_noted_58) (xcons (s_bipush dX8_noted_59 rfl) (xcons (s_iload_n rfl dX8_noted_61) (xcons (s_iadd dX8_noted_62) (xcons (s_iload dX8_noted_63) (xcons (s_inv (mid := 172) xC8 cal_172 xw_472 xw_473 xw_474 dX8_noted_65) (xcons (s_iinc dX8_noted_68 rfl (by decide)) (xnil))))))))))))))))))))
theorem dX8_noted_71 : decode cX8_noted 71 = .ok (.iinc 5 1, 3) := by decide +kernel
theorem dX8_noted_74 : decode cX8_noted 74 = .ok (.goto (-60), 3) := by decide +kernel
theorem dX8_noted_77 : decode cX8_noted 77 = .ok (.iload_n 2, 1) := by decide +kernel
theorem dX8_noted_78 : decode cX8_noted 78 = .ok (.ifCond .eq 11, 3) := by decide +kernel
theorem dX8_noted_81 : decode cX8_noted 81 = .ok (.aload_n 0, 1) := by decide +kernel
theorem dX8_noted_82 : decode cX8_noted 82 = .ok (.iload_n 1, 1) := by decide +kernel
theorem dX8_noted_83 : decode cX8_noted 83 = .ok (.bipush 64, 2) := by decide +kernel
theorem dX8_noted_85 : decode cX8_noted 85 = .ok (.iload_n 3, 1) := by decide +kernel
theorem dX8_noted_86 : decode cX8_noted 86 = .ok (.invokevirtual 63, 3) := by decide +kernel
theorem dX8_noted_89 : decode cX8_noted 89 = .ok (.iload_n 3, 1) := by decide +kernel
theorem dX8_noted_90 : decode cX8_noted 90 = .ok (.ireturn, 1) := by decide +kernel
def k154_2 : List (Nat × XI) := [(71, x_iinc 5 (1) 74), (74, x_goto 14), (77, x_iload 2 78), (78, x_ifeq 89 81), (81, x_aload 0 82), (82, x_iload 1 83), (83, x_push (64) 85), (85, x_iload 3 86), (86, x_inv 172 8 3 89), (89, x_iload 3 90), (90, x_iret)]
theorem o154_2 (scr : Nat × (Nat → Int32)) : ∀ q ∈ k154_2, XSnd xm scr Y154 q.1 q.2 := xcons (s_iinc dX8_noted_71 rfl (by decide)) (xcons (s_goto dX8_noted_74 rfl) (xcons (s_iload_n rfl dX8_noted_77) (xcons (s_ifeq dX8_noted_78 rfl) (xcons (s_aload_n rfl dX8_noted_81) (xcons (s_iload_n rfl dX8_noted_82) (xcons (s_bipush dX8_noted_83 rfl) (xcons (s_iload_n rfl dX8_noted_85) (xcons (s_inv (mid := 172) xC8 cal_172 xw_472 xw_473 xw_474 dX8_noted_86) (xcons (s_iload_n rfl dX8_noted_89) (xcons (s_iret dX8_noted_90 rfl) (xnil)))))))))))
def k154 (pc : Nat) : XI := if pc < 35 then xlk k154_0 pc else if pc < 71 then xlk k154_1 pc else xlk k154_2 pc
theorem o154 (scr : Nat × (Nat → Int32)) (pc : Nat) : XSnd xm scr Y154 pc (k154 pc) := by
  unfold k154
  exact xite (xlk_ok (o154_0 scr) pc) (xite (xlk_ok (o154_1 scr) pc) (xlk_ok (o154_2 scr) pc))
theorem dX8_number_0 : decode cX8_number 0 = .ok (.aload_n 0, 1) := by decide +kernel
theorem dX8_number_1 : decode cX8_number 1 = .ok (.bipush 32, 2) := by decide +kernel
theorem dX8_number_3 : decode cX8_number 3 = .ok (.bipush 32, 2) := by decide +kernel
theorem dX8_number_5 : decode cX8_number 5 = .ok (.invokevirtual 219, 3) := by decide +kernel
theorem dX8_number_8 : decode cX8_number 8 = .ok (.pop, 1) := by decide +kernel
theorem dX8_number_9 : decode cX8_number 9 = .ok (.iload_n 1, 1) := by decide +kernel
theorem dX8_number_10 : decode cX8_number 10 = .ok (.ifCond .eq 18, 3) := by decide +kernel
theorem dX8_number_13 : decode cX8_number 13 = .ok (.aload_n 0, 1) := by decide +kernel
theorem dX8_number_14 : decode cX8_number 14 = .ok (.bipush 45, 2) := by decide +kernel
theorem dX8_number_16 : decode cX8_number 16 = .ok (.bipush 45, 2) := by decide +kernel
theorem dX8_number_18 : decode cX8_number 18 = .ok (.invokevirtual 216, 3) := by decide +kernel
theorem dX8_number_21 : decode cX8_number 21 = .ok (.ifCond .eq 7, 3) := by decide +kernel
theorem dX8_number_24 : decode cX8_number 24 = .ok (.iconst 1, 1) := by decide +kernel
theorem dX8_number_25 : decode cX8_number 25 = .ok (.goto 4, 3) := by decide +kernel
theorem dX8_number_28 : decode cX8_number 28 = .ok (.iconst 0, 1) := by decide +kernel
theorem dX8_number_29 : decode cX8_number 29 = .ok (.istore_n 2, 1) := by decide +kernel
theorem dX8_number_30 : decode cX8_number 30 = .ok (.aload_n 0, 1) := by decide +kernel
theorem dX8_number_31 : decode cX8_number 31 = .ok (.dup, 1) := by decide +kernel
theorem dX8_number_32 : decode cX8_number 32 = .ok (.getfield 213, 3) := by decide +kernel
theorem dX8_number_35 : decode cX8_number 35 = .ok (.iload_n 2, 1) := by decide +kernel
def k155_0 : List (Nat × XI) := [(0, x_aload 0 1), (1, x_push (32) 3), (3, x_push (32) 5), (5, x_inv 152 8 2 8), (8, x_pop 9), (9, x_iload 1 10), (10, x_ifeq 28 13), (13, x_aload 0 14), (14, x_push (45) 16), (16, x_push (45) 18), (18, x_inv 169 8 2 21), (21, x_ifeq 28 24), (24, x_push (1) 25), (25, x_goto 29), (28, x_push (0) 29), (29, x_istore 2 30), (30, x_aload 0 31), (31, x_dup 32), (32, x_getI 8 19 35), (35, x_iload 2 36)]
theorem o155_0 (scr : Nat × (Nat → Int32)) : ∀ q ∈ k155_0, XSnd xm scr Y155 q.1 q.2 := xcons (s_aload_n rfl dX8_number_0) (xcons (s_bipush dX8_number_1 rfl) (xcons (s_bipush dX8_number_3 rfl) (xcons (s_inv (mid := 152) xC8 cal_152 xw_616 xw_617 xw_618 dX8_number_5) (xcons (s_pop dX8_number_8) (xcons (s_iload_n rfl dX8_number_9) (xcons (s_ifeq dX8_number_10 rfl) (xcons (s_aload_n rfl dX8_number_13) (xcons (s_bipush dX8_number_14 rfl) (xcons (s_bipush dX8_number_16 rfl) (xcons (s_inv (mid := 169) xC8 cal_169 xw_624 xw_625 xw_626 dX8_number_18) (xcons (s_ifeq dX8_number_21 rfl) (xcons (s_iconst dX8_number_24 rfl) (xcons (s_goto dX8_number_25 rfl) (xcons (s_iconst dX8_number_28 rfl) (xcons (s_istore_n rfl dX8_number_29 (by decide)) (xcons (s_aload_n rfl dX8_number_30) (xcons (s_dup dX8_number_31) (xcons (s_getI (f := 19) xC8 (by decide) xw_609 rfl dX8_number_32) (xcons (s_iload_n rfl dX8_number_35) (xnil))))))))))))))))))))
theorem dX8_number_36 : decode cX8_number 36 = .ok (.ifCond .eq 7, 3) := by decide +kernel
theorem dX8_number_39 : decode cX8_number 39 = .ok (.iconst 1, 1) := by decide +kernel
theorem dX8_number_40 : decode cX8_number 40 = .ok (.goto 4, 3) := by decide +kernel
theorem dX8_number_43 : decode cX8_number 43 = .ok (.iconst 0, 1) := by decide +kernel
theorem dX8_number_44 : decode cX8_number 44 = .ok (.iadd, 1) := by decide +kernel
theorem dX8_number_45 : decode cX8_number 45 = .ok (.putfield 213, 3) := by decide +kernel
theorem dX8_number_48 : decode cX8_number 48 = .ok (.aload_n 0, 1) := by decide +kernel
theorem dX8_number_49 : decode cX8_number 49 = .ok (.bipush 48, 2) := by decide +kernel
theorem dX8_number_51 : decode cX8_number 51 = .ok (.bipush 57, 2) := by decide +kernel
theorem dX8_number_53 : decode cX8_number 53 = .ok (.invokevirtual 219, 3) := by decide +kernel
theorem dX8_number_56 : decode cX8_number 56 = .ok (.bipush 48, 2) := by decide +kernel
theorem dX8_number_58 : decode cX8_number 58 = .ok (.isub, 1) := by decide +kernel
theorem dX8_number_59 : decode cX8_number 59 = .ok (.istore_n 3, 1) := by decide +kernel
theorem dX8_number_60 : decode cX8_number 60 = .ok (.aload_n 0, 1) := by decide +kernel
theorem dX8_number_61 : decode cX8_number 61 = .ok (.bipush 48, 2) := by decide +kernel
theorem dX8_number_63 : decode cX8_number 63 = .ok (.bipush 57, 2) := by decide +kernel
theorem dX8_number_65 : decode cX8_number 65 = .ok (.invokevirtual 216, 3) := by decide +kernel
theorem dX8_number_68 : decode cX8_number 68 = .ok (.ifCond .eq 22, 3) := by decide +kernel
theorem dX8_number_71 : decode cX8_number 71 = .ok (.bipush 10, 2) := by decide +kernel
theorem dX8_number_73 : decode cX8_number 73 = .ok (.iload_n 3, 1) := by decide +kernel
def k155_1 : List (Nat × XI) := [(36, x_ifeq 43 39), (39, x_push (1) 40), (40, x_goto 44), (43, x_push (0) 44), (44, x_iadd 45), (45, x_putI 8 19 48), (48, x_aload 0 49), (49, x_push (48) 51), (51, x_push (57) 53), (53, x_inv 152 8 2 56), (56, x_push (48) 58), (58, x_isub 59), (59, x_istore 3 60), (60, x_aload 0 61), (61, x_push (48) 63), (63, x_push (57) 65), (65, x_inv 169 8 2 68), (68, x_ifeq 90 71), (71, x_push (10) 73), (73, x_iload 3 74)]
theorem o155_1 (scr : Nat × (Nat → Int32)) : ∀ q ∈ k155_1, XSnd xm scr Y155 q.1 q.2 := xcons (s_ifeq dX8_number_36 rfl) (xcons (s_iconst dX8_number_39 rfl) (xcons (s_goto dX8_number_40 rfl) (xcons (s_iconst dX8_number_43 rfl) (xcons (s_iadd dX8_number_44) (xcons (s_putI (f := 19) xC8 (by decide) xw_609 rfl (Or.inl rfl) dX8_number_45) (xcons (s_aload_n rfl dX8_number_48) (xcons (s_bipush dX8_number_49 rfl) (xcons (s_bipush dX8_number_51 rfl) (xcons (s_inv (mid := 152) xC8 cal_152 xw_616 xw_617 xw_618 dX8_number_53) (xcons (s_bipush dX8_number_56 rfl) (xcons (s_isub dX8_number_58) (xcons (s_istore_n rfl dX8_number_59 (by decide)) (xcons (s_aload_n rfl dX8_number_60) (xcons (s_bipush dX8_number_61 rfl) (xcons (s_bipush dX8_number_63 rfl) (xcons (s_inv (mid := 169) xC8 cal_169 xw_624 xw_625 xw_626 dX8_number_65) (xcons (s_ifeq dX8_number_68 rfl) (xcons (s_bipush dX8_number_71 rfl) (xcons (s_iload_n rfl dX8_number_73) (xnil))))))))))))))))))))
theorem dX8_number_74 : decode cX8_number 74 = .ok (.imul, 1) := by decide +kernel
theorem dX8_number_75 : decode cX8_number 75 = .ok (.aload_n 0, 1) := by decide +kernel
theorem dX8_number_76 : decode cX8_number 76 = .ok (.bipush 48, 2) := by decide +kernel
theorem dX8_number_78 : decode cX8_number 78 = .ok (.bipush 57, 2) := by decide +kernel
theorem dX8_number_80 : decode cX8_number 80 = .ok (.invokevirtual 219, 3) := by decide +kernel
theorem dX8_number_83 : decode cX8_number 83 = .ok (.iadd, 1) := by decide +kernel
theorem dX8_number_84 : decode cX8_number 84 = .ok (.bipush 48, 2) := by decide +kernel
theorem dX8_number_86 : decode cX8_number 86 = .ok (.isub, 1) := by decide +kernel
theorem dX8_number_87 : decode cX8_number 87 = .ok (.goto 4, 3) := by decide +kernel
theorem dX8_number_90 : decode cX8_number 90 = .ok (.iload_n 3, 1) := by decide +kernel
theorem dX8_number_91 : decode cX8_number 91 = .ok (.istore_n 3, 1) := by decide +kernel
theorem dX8_number_92 : decode cX8_number 92 = .ok (.iload_n 2, 1) := by decide +kernel
theorem dX8_number_93 : decode cX8_number 93 = .ok (.ifCond .eq 8, 3) := by decide +kernel
theorem dX8_number_96 : decode cX8_number 96 = .ok (.iload_n 3, 1) := by decide +kernel
theorem dX8_number_97 : decode cX8_number 97 = .ok (.ineg, 1) := by decide +kernel
theorem dX8_number_98 : decode cX8_number 98 = .ok (.goto 4, 3) := by decide +kernel
theorem dX8_number_101 : decode cX8_number 101 = .ok (.iload_n 3, 1) := by decide +kernel
theorem dX8_number_102 : decode cX8_number 102 = .ok (.ireturn, 1) := by decide +kernel
def k155_2 : List (Nat × XI) := [(74, x_imul 75), (75, x_aload 0 76), (76, x_push (48) 78), (78, x_push (57) 80), (80, x_inv 152 8 2 83), (83, x_iadd 84), (84, x_push (48) 86), (86, x_isub 87), (87, x_goto 91), (90, x_iload 3 91), (91, x_istore 3 92), (92, x_iload 2 93), (93, x_ifeq 101 96), (96, x_iload 3 97), (97, x_ineg 98), (98, x_goto 102), (101, x_iload 3 102), (102, x_iret)]
theorem o155_2 (scr : Nat × (Nat → Int32)) : ∀ q ∈ k155_2, XSnd xm scr Y155 q.1 q.2 := xcons (s_imul dX8_number_74) (xcons (s_aload_n rfl dX8_number_75) (xcons (s_bipush dX8_number_76 rfl) (xcons (s_bipush dX8_number_78 rfl) (xcons (s_inv (mid := 152) xC8 cal_152 xw_616 xw_617 xw_618 dX8_number_80) (xcons (s_iadd dX8_number_83) (xcons (s_bipush dX8_number_84 rfl) (xcons (s_isub dX8_number_86) (xcons (s_goto dX8_number_87 rfl) (xcons (s_iload_n rfl dX8_number_90) (xcons (s_istore_n rfl dX8_number_91 (by decide)) (xcons (s_iload_n rfl dX8_number_92) (xcons (s_ifeq dX8_number_93 rfl) (xcons (s_iload_n rfl dX8_number_96) (xcons (s_ineg dX8_number_97) (xcons (s_goto dX8_number_98 rfl) (xcons (s_iload_n rfl dX8_number_101) (xcons (s_iret dX8_number_102 rfl) (xnil))))))))))))))))))
def k155 (pc : Nat) : XI := if pc < 36 then xlk k155_0 pc else if pc < 74 then xlk k155_1 pc else xlk k155_2 pc
theorem o155 (scr : Nat × (Nat → Int32)) (pc : Nat) : XSnd xm scr Y155 pc (k155 pc) := by
  unfold k155
  exact xite (xlk_ok (o155_0 scr) pc) (xite (xlk_ok (o155_1 scr) pc) (xlk_ok (o155_2 scr) pc))
theorem dX8_of_0 : decode cX8_of 0 = .ok (.aload_n 0, 1) := by decide +kernel
theorem dX8_of_1 : decode cX8_of 1 = .ok (.iload_n 1, 1) := by decide +kernel
theorem dX8_of_2 : decode cX8_of 2 = .ok (.invokevirtual 167, 3) := by decide +kernel
theorem dX8_of_5 : decode cX8_of 5 = .ok (.ifCond .eq 13, 3) := by decide +kernel
theorem dX8_of_8 : decode cX8_of 8 = .ok (.iload_n 2, 1) := by decide +kernel
theorem dX8_of_9 : decode cX8_of 9 = .ok (.iconst 0, 1) := by decide +kernel
theorem dX8_of_10 : decode cX8_of 10 = .ok (.bipush 13, 2) := by decide +kernel
theorem dX8_of_12 : decode cX8_of 12 = .ok (.invokestatic 51, 3) := by decide +kernel
theorem dX8_of_15 : decode cX8_of 15 = .ok (.ifCond .ne 5, 3) := by decide +kernel
theorem dX8_of_18 : decode cX8_of 18 = .ok (.iconst (-1), 1) := by decide +kernel
theorem dX8_of_19 : decode cX8_of 19 = .ok (.ireturn, 1) := by decide +kernel
theorem dX8_of_20 : decode cX8_of 20 = .ok (.iload_n 2, 1) := by decide +kernel
theorem dX8_of_21 : decode cX8_of 21 = .ok (.tableswitch 149 0 13 #[71, 149, 149, 149, 149, 149, 92, 98, 106, 114, 122, 130, 136, 143], 71) := by decide +kernel
theorem dX8_of_92 : decode cX8_of 92 = .ok (.aload_n 0, 1) := by decide +kernel
theorem dX8_of_93 : decode cX8_of 93 = .ok (.iload_n 1, 1) := by decide +kernel
theorem dX8_of_94 : decode cX8_of 94 = .ok (.iconst 0, 1) := by decide +kernel
theorem dX8_of_95 : decode cX8_of 95 = .ok (.invokevirtual 55, 3) := by decide +kernel
theorem dX8_of_98 : decode cX8_of 98 = .ok (.ifCond .ge 8, 3) := by decide +kernel
theorem dX8_of_101 : decode cX8_of 101 = .ok (.bipush (-2), 2) := by decide +kernel
theorem dX8_of_103 : decode cX8_of 103 = .ok (.goto 9, 3) := by decide +kernel
def k156_0 : List (Nat × XI) := [(0, x_aload 0 1), (1, x_iload 1 2), (2, x_inv 136 8 1 5), (5, x_ifeq 18 8), (8, x_iload 2 9), (9, x_push (0) 10), (10, x_push (13) 12), (12, x_invS 134 3 15), (15, x_ifne 20 18), (18, x_push (-1) 19), (19, x_iret), (20, x_iload 2 21), (21, x_tsw (0) (13) [92, 170, 170, 170, 170, 170, 113, 119, 127, 135, 143, 151, 157, 164] 170), (92, x_aload 0 93), (93, x_iload 1 94), (94, x_push (0) 95), (95, x_inv 108 8 2 98), (98, x_ifge 106 101), (101, x_push (-2) 103), (103, x_goto 112)]
theorem o156_0 (scr : Nat × (Nat → Int32)) : ∀ q ∈ k156_0, XSnd xm scr Y156 q.1 q.2 := xcons (s_aload_n rfl dX8_of_0) (xcons (s_iload_n rfl dX8_of_1) (xcons (s_inv (mid := 136) xC8 cal_136 xw_483 xw_484 xw_485 dX8_of_2) (xcons (s_ifeq dX8_of_5 rfl) (xcons (s_iload_n rfl dX8_of_8) (xcons (s_iconst dX8_of_9 rfl) (xcons (s_bipush dX8_of_10 rfl) (xcons (s_invS (mid := 134) cal_134 xw_487 xw_488 dX8_of_12) (xcons (s_ifne dX8_of_15 rfl) (xcons (s_iconst dX8_of_18 rfl) (xcons (s_iret dX8_of_19 rfl) (xcons (s_iload_n rfl dX8_of_20) (xcons (s_tsw dX8_of_21 rfl rfl) (xcons (s_aload_n rfl dX8_of_92) (xcons (s_iload_n rfl dX8_of_93) (xcons (s_iconst dX8_of_94 rfl) (xcons (s_inv (mid := 108) xC8 cal_108 xw_508 xw_509 xw_510 dX8_of_95) (xcons (s_ifge dX8_of_98 rfl) (xcons (s_bipush dX8_of_101 rfl) (xcons (s_goto dX8_of_103 rfl) (xnil))))))))))))))))))))
theorem dX8_of_106 : decode cX8_of 106 = .ok (.aload_n 0, 1) := by decide +kernel
theorem dX8_of_107 : decode cX8_of 107 = .ok (.iload_n 1, 1) := by decide +kernel
theorem dX8_of_108 : decode cX8_of 108 = .ok (.iconst 0, 1) := by decide +kernel
theorem dX8_of_109 : decode cX8_of 109 = .ok (.invokevirtual 55, 3) := by decide +kernel
theorem dX8_of_112 : decode cX8_of 112 = .ok (.ireturn, 1) := by decide +kernel
theorem dX8_of_113 : decode cX8_of 113 = .ok (.aload_n 0, 1) := by decide +kernel
theorem dX8_of_114 : decode cX8_of 114 = .ok (.iload_n 1, 1) := by decide +kernel
theorem dX8_of_115 : decode cX8_of 115 = .ok (.invokevirtual 115, 3) := by decide +kernel
theorem dX8_of_118 : decode cX8_of 118 = .ok (.ireturn, 1) := by decide +kernel
theorem dX8_of_119 : decode cX8_of 119 = .ok (.aload_n 0, 1) := by decide +kernel
theorem dX8_of_120 : decode cX8_of 120 = .ok (.iload_n 1, 1) := by decide +kernel
theorem dX8_of_121 : decode cX8_of 121 = .ok (.bipush 7, 2) := by decide +kernel
theorem dX8_of_123 : decode cX8_of 123 = .ok (.invokevirtual 55, 3) := by decide +kernel
theorem dX8_of_126 : decode cX8_of 126 = .ok (.ireturn, 1) := by decide +kernel
theorem dX8_of_127 : decode cX8_of 127 = .ok (.aload_n 0, 1) := by decide +kernel
theorem dX8_of_128 : decode cX8_of 128 = .ok (.iload_n 1, 1) := by decide +kernel
theorem dX8_of_129 : decode cX8_of 129 = .ok (.bipush 13, 2) := by decide +kernel
theorem dX8_of_131 : decode cX8_of 131 = .ok (.invokevirtual 55, 3) := by decide +kernel
theorem dX8_of_134 : decode cX8_of 134 = .ok (.ireturn, 1) := by decide +kernel
theorem dX8_of_135 : decode cX8_of 135 = .ok (.aload_n 0, 1) := by decide +kernel
def k156_1 : List (Nat × XI) := [(106, x_aload 0 107), (107, x_iload 1 108), (108, x_push (0) 109), (109, x_inv 108 8 2 112), (112, x_iret), (113, x_aload 0 114), (114, x_iload 1 115), (115, x_inv 121 8 1 118), (118, x_iret), (119, x_aload 0 120), (120, x_iload 1 121), (121, x_push (7) 123), (123, x_inv 108 8 2 126), (126, x_iret), (127, x_aload 0 128), (128, x_iload 1 129), (129, x_push (13) 131), (131, x_inv 108 8 2 134), (134, x_iret), (135, x_aload 0 136)]
theorem o156_1 (scr : Nat × (Nat → Int32)) : ∀ q ∈ k156_1, XSnd xm scr Y156 q.1 q.2 := xcons (s_aload_n rfl dX8_of_106) (xcons (s_iload_n rfl dX8_of_107) (xcons (s_iconst dX8_of_108 rfl) (xcons (s_inv (mid := 108) xC8 cal_108 xw_508 xw_509 xw_510 dX8_of_109) (xcons (s_iret dX8_of_112 rfl) (xcons (s_aload_n rfl dX8_of_113) (xcons (s_iload_n rfl dX8_of_114) (xcons (s_inv (mid := 121) xC8 cal_121 xw_516 xw_517 xw_518 dX8_of_115) (xcons (s_iret dX8_of_118 rfl) (xcons (s_aload_n rfl dX8_of_119) (xcons (s_iload_n rfl dX8_of_120) (xcons (s_bipush dX8_of_121 rfl) (xcons (s_inv (mid := 108) xC8 cal_108 xw_508 xw_509 xw_510 dX8_of_123) (xcons (s_iret dX8_of_126 rfl) (xcons (s_aload_n rfl dX8_of_127) (xcons (s_iload_n rfl dX8_of_128) (xcons (s_bipush dX8_of_129 rfl) (xcons (s_inv (mid := 108) xC8 cal_108 xw_508 xw_509 xw_510 dX8_of_131) (xcons (s_iret dX8_of_134 rfl) (xcons (s_aload_n rfl dX8_of_135) (xnil))))))))))))))))))))
theorem dX8_of_136 : decode cX8_of 136 = .ok (.iload_n 1, 1) := by decide +kernel
theorem dX8_of_137 : decode cX8_of 137 = .ok (.bipush 38, 2) := by decide +kernel
theorem dX8_of_139 : decode cX8_of 139 = .ok (.invokevirtual 55, 3) := by decide +kernel
theorem dX8_of_142 : decode cX8_of 142 = .ok (.ireturn, 1) := by decide +kernel
theorem dX8_of_143 : decode cX8_of 143 = .ok (.aload_n 0, 1) := by decide +kernel
theorem dX8_of_144 : decode cX8_of 144 = .ok (.iload_n 1, 1) := by decide +kernel
theorem dX8_of_145 : decode cX8_of 145 = .ok (.bipush 51, 2) := by decide +kernel
theorem dX8_of_147 : decode cX8_of 147 = .ok (.invokevirtual 55, 3) := by decide +kernel
theorem dX8_of_150 : decode cX8_of 150 = .ok (.ireturn, 1) := by decide +kernel
theorem dX8_of_151 : decode cX8_of 151 = .ok (.aload_n 0, 1) := by decide +kernel
theorem dX8_of_152 : decode cX8_of 152 = .ok (.iload_n 1, 1) := by decide +kernel
theorem dX8_of_153 : decode cX8_of 153 = .ok (.invokevirtual 180, 3) := by decide +kernel
theorem dX8_of_156 : decode cX8_of 156 = .ok (.ireturn, 1) := by decide +kernel
theorem dX8_of_157 : decode cX8_of 157 = .ok (.aload_n 0, 1) := by decide +kernel
theorem dX8_of_158 : decode cX8_of 158 = .ok (.iload_n 1, 1) := by decide +kernel
theorem dX8_of_159 : decode cX8_of 159 = .ok (.iconst 0, 1) := by decide +kernel
theorem dX8_of_160 : decode cX8_of 160 = .ok (.invokevirtual 94, 3) := by decide +kernel
theorem dX8_of_163 : decode cX8_of 163 = .ok (.ireturn, 1) := by decide +kernel
theorem dX8_of_164 : decode cX8_of 164 = .ok (.aload_n 0, 1) := by decide +kernel
theorem dX8_of_165 : decode cX8_of 165 = .ok (.iload_n 1, 1) := by decide +kernel
def k156_2 : List (Nat × XI) := [(136, x_iload 1 137), (137, x_push (38) 139), (139, x_inv 108 8 2 142), (142, x_iret), (143, x_aload 0 144), (144, x_iload 1 145), (145, x_push (51) 147), (147, x_inv 108 8 2 150), (150, x_iret), (151, x_aload 0 152), (152, x_iload 1 153), (153, x_inv 183 8 1 156), (156, x_iret), (157, x_aload 0 158), (158, x_iload 1 159), (159, x_push (0) 160), (160, x_inv 154 8 2 163), (163, x_iret), (164, x_aload 0 165), (165, x_iload 1 166)]
theorem o156_2 (scr : Nat × (Nat → Int32)) : ∀ q ∈ k156_2, XSnd xm scr Y156 q.1 q.2 := xcons (s_iload_n rfl dX8_of_136) (xcons (s_bipush dX8_of_137 rfl) (xcons (s_inv (mid := 108) xC8 cal_108 xw_508 xw_509 xw_510 dX8_of_139) (xcons (s_iret dX8_of_142 rfl) (xcons (s_aload_n rfl dX8_of_143) (xcons (s_iload_n rfl dX8_of_144) (xcons (s_bipush dX8_of_145 rfl) (xcons (s_inv (mid := 108) xC8 cal_108 xw_508 xw_509 xw_510 dX8_of_147) (xcons (s_iret dX8_of_150 rfl) (xcons (s_aload_n rfl dX8_of_151) (xcons (s_iload_n rfl dX8_of_152) (xcons (s_inv (mid := 183) xC8 cal_183 xw_640 xw_641 xw_642 dX8_of_153) (xcons (s_iret dX8_of_156 rfl) (xcons (s_aload_n rfl dX8_of_157) (xcons (s_iload_n rfl dX8_of_158) (xcons (s_iconst dX8_of_159 rfl) (xcons (s_inv (mid := 154) xC8 cal_154 xw_620 xw_621 xw_622 dX8_of_160) (xcons (s_iret dX8_of_163 rfl) (xcons (s_aload_n rfl dX8_of_164) (xcons (s_iload_n rfl dX8_of_165) (xnil))))))))))))))))))))
theorem dX8_of_166 : decode cX8_of 166 = .ok (.invokevirtual 183, 3) := by decide +kernel
theorem dX8_of_169 : decode cX8_of 169 = .ok (.ireturn, 1) := by decide +kernel
theorem dX8_of_170 : decode cX8_of 170 = .ok (.aload_n 0, 1) := by decide +kernel
theorem dX8_of_171 : decode cX8_of 171 = .ok (.iload_n 1, 1) := by decide +kernel
theorem dX8_of_172 : decode cX8_of 172 = .ok (.iload_n 2, 1) := by decide +kernel
theorem dX8_of_173 : decode cX8_of 173 = .ok (.invokevirtual 55, 3) := by decide +kernel
theorem dX8_of_176 : decode cX8_of 176 = .ok (.ireturn, 1) := by decide +kernel
def k156_3 : List (Nat × XI) := [(166, x_inv 114 8 1 169), (169, x_iret), (170, x_aload 0 171), (171, x_iload 1 172), (172, x_iload 2 173), (173, x_inv 108 8 2 176), (176, x_iret)]
theorem o156_3 (scr : Nat × (Nat → Int32)) : ∀ q ∈ k156_3, XSnd xm scr Y156 q.1 q.2 := xcons (s_inv (mid := 114) xC8 cal_114 xw_644 xw_645 xw_646 dX8_of_166) (xcons (s_iret dX8_of_169 rfl) (xcons (s_aload_n rfl dX8_of_170) (xcons (s_iload_n rfl dX8_of_171) (xcons (s_iload_n rfl dX8_of_172) (xcons (s_inv (mid := 108) xC8 cal_108 xw_508 xw_509 xw_510 dX8_of_173) (xcons (s_iret dX8_of_176 rfl) (xnil)))))))
def k156 (pc : Nat) : XI := if pc < 136 then if pc < 106 then xlk k156_0 pc else xlk k156_1 pc else if pc < 166 then xlk k156_2 pc else xlk k156_3 pc
theorem o156 (scr : Nat × (Nat → Int32)) (pc : Nat) : XSnd xm scr Y156 pc (k156 pc) := by
  unfold k156
  exact xite (xite (xlk_ok (o156_0 scr) pc) (xlk_ok (o156_1 scr) pc)) (xite (xlk_ok (o156_2 scr) pc) (xlk_ok (o156_3 scr) pc))
theorem dX8_order_0 : decode cX8_order 0 = .ok (.aload_n 0, 1) := by decide +kernel
theorem dX8_order_1 : decode cX8_order 1 = .ok (.iload_n 1, 1) := by decide +kernel
theorem dX8_order_2 : decode cX8_order 2 = .ok (.invokevirtual 242, 3) := by decide +kernel
theorem dX8_order_5 : decode cX8_order 5 = .ok (.ifCond .ne 5, 3) := by decide +kernel
theorem dX8_order_8 : decode cX8_order 8 = .ok (.iconst (-1), 1) := by decide +kernel
theorem dX8_order_9 : decode cX8_order 9 = .ok (.ireturn, 1) := by decide +kernel
theorem dX8_order_10 : decode cX8_order 10 = .ok (.aload_n 0, 1) := by decide +kernel
theorem dX8_order_11 : decode cX8_order 11 = .ok (.getfield 28, 3) := by decide +kernel
theorem dX8_order_14 : decode cX8_order 14 = .ok (.iload_n 1, 1) := by decide +kernel
theorem dX8_order_15 : decode cX8_order 15 = .ok (.iaload, 1) := by decide +kernel
theorem dX8_order_16 : decode cX8_order 16 = .ok (.iconst 2, 1) := by decide +kernel
theorem dX8_order_17 : decode cX8_order 17 = .ok (.if_icmp .eq 20, 3) := by decide +kernel
theorem dX8_order_20 : decode cX8_order 20 = .ok (.aload_n 0, 1) := by decide +kernel
theorem dX8_order_21 : decode cX8_order 21 = .ok (.getfield 28, 3) := by decide +kernel
theorem dX8_order_24 : decode cX8_order 24 = .ok (.iload_n 1, 1) := by decide +kernel
theorem dX8_order_25 : decode cX8_order 25 = .ok (.iaload, 1) := by decide +kernel
theorem dX8_order_26 : decode cX8_order 26 = .ok (.ifCond .ne 8, 3) := by decide +kernel
theorem dX8_order_29 : decode cX8_order 29 = .ok (.bipush (-11), 2) := by decide +kernel
theorem dX8_order_31 : decode cX8_order 31 = .ok (.goto 5, 3) := by decide +kernel
theorem dX8_order_34 : decode cX8_order 34 = .ok (.bipush (-12), 2) := by decide +kernel
def k157_0 : List (Nat × XI) := [(0, x_aload 0 1), (1, x_iload 1 2), (2, x_inv 139 8 1 5), (5, x_ifne 10 8), (8, x_push (-1) 9), (9, x_iret), (10, x_aload 0 11), (11, x_getR 8 12 14), (14, x_iload 1 15), (15, x_iald 16), (16, x_push (2) 17), (17, x_iceq 37 20), (20, x_aload 0 21), (21, x_getR 8 12 24), (24, x_iload 1 25), (25, x_iald 26), (26, x_ifne 34 29), (29, x_push (-11) 31), (31, x_goto 36), (34, x_push (-12) 36)]
theorem o157_0 (scr : Nat × (Nat → Int32)) : ∀ q ∈ k157_0, XSnd xm scr Y157 q.1 q.2 := xcons (s_aload_n rfl dX8_order_0) (xcons (s_iload_n rfl dX8_order_1) (xcons (s_inv (mid := 139) xC8 cal_139 xw_591 xw_592 xw_593 dX8_order_2) (xcons (s_ifne dX8_order_5 rfl) (xcons (s_iconst dX8_order_8 rfl) (xcons (s_iret dX8_order_9 rfl) (xcons (s_aload_n rfl dX8_order_10) (xcons (s_getR (f := 12) xC8 (by decide) xw_480 rfl dX8_order_11) (xcons (s_iload_n rfl dX8_order_14) (xcons (s_iald dX8_order_15) (xcons (s_iconst dX8_order_16 rfl) (xcons (s_iceq dX8_order_17 rfl) (xcons (s_aload_n rfl dX8_order_20) (xcons (s_getR (f := 12) xC8 (by decide) xw_480 rfl dX8_order_21) (xcons (s_iload_n rfl dX8_order_24) (xcons (s_iald dX8_order_25) (xcons (s_ifne dX8_order_26 rfl) (xcons (s_bipush dX8_order_29 rfl) (xcons (s_goto dX8_order_31 rfl) (xcons (s_bipush dX8_order_34 rfl) (xnil))))))))))))))))))))
theorem dX8_order_36 : decode cX8_order 36 = .ok (.ireturn, 1) := by decide +kernel
theorem dX8_order_37 : decode cX8_order 37 = .ok (.iload_n 2, 1) := by decide +kernel
theorem dX8_order_38 : decode cX8_order 38 = .ok (.ifCond .ge 6, 3) := by decide +kernel
theorem dX8_order_41 : decode cX8_order 41 = .ok (.bipush (-14), 2) := by decide +kernel
theorem dX8_order_43 : decode cX8_order 43 = .ok (.ireturn, 1) := by decide +kernel
theorem dX8_order_44 : decode cX8_order 44 = .ok (.iload_n 2, 1) := by decide +kernel
theorem dX8_order_45 : decode cX8_order 45 = .ok (.aload_n 0, 1) := by decide +kernel
theorem dX8_order_46 : decode cX8_order 46 = .ok (.getfield 34, 3) := by decide +kernel
theorem dX8_order_49 : decode cX8_order 49 = .ok (.iload_n 1, 1) := by decide +kernel
theorem dX8_order_50 : decode cX8_order 50 = .ok (.iaload, 1) := by decide +kernel
theorem dX8_order_51 : decode cX8_order 51 = .ok (.iconst 2, 1) := by decide +kernel
theorem dX8_order_52 : decode cX8_order 52 = .ok (.idiv, 1) := by decide +kernel
theorem dX8_order_53 : decode cX8_order 53 = .ok (.if_icmp .le 6, 3) := by decide +kernel
theorem dX8_order_56 : decode cX8_order 56 = .ok (.bipush (-13), 2) := by decide +kernel
theorem dX8_order_58 : decode cX8_order 58 = .ok (.ireturn, 1) := by decide +kernel
theorem dX8_order_59 : decode cX8_order 59 = .ok (.aload_n 0, 1) := by decide +kernel
theorem dX8_order_60 : decode cX8_order 60 = .ok (.getfield 9, 3) := by decide +kernel
theorem dX8_order_63 : decode cX8_order 63 = .ok (.aload_n 0, 1) := by decide +kernel
theorem dX8_order_64 : decode cX8_order 64 = .ok (.getfield 13, 3) := by decide +kernel
theorem dX8_order_67 : decode cX8_order 67 = .ok (.invokestatic 200, 3) := by decide +kernel
def k157_1 : List (Nat × XI) := [(36, x_iret), (37, x_iload 2 38), (38, x_ifge 44 41), (41, x_push (-14) 43), (43, x_iret), (44, x_iload 2 45), (45, x_aload 0 46), (46, x_getR 8 14 49), (49, x_iload 1 50), (50, x_iald 51), (51, x_push (2) 52), (52, x_idiv 53), (53, x_icle 59 56), (56, x_push (-13) 58), (58, x_iret), (59, x_aload 0 60), (60, x_getR 8 0 63), (63, x_aload 0 64), (64, x_getR 8 1 67), (67, x_invS 179 2 70)]
theorem o157_1 (scr : Nat × (Nat → Int32)) : ∀ q ∈ k157_1, XSnd xm scr Y157 q.1 q.2 := xcons (s_iret dX8_order_36 rfl) (xcons (s_iload_n rfl dX8_order_37) (xcons (s_ifge dX8_order_38 rfl) (xcons (s_bipush dX8_order_41 rfl) (xcons (s_iret dX8_order_43 rfl) (xcons (s_iload_n rfl dX8_order_44) (xcons (s_aload_n rfl dX8_order_45) (xcons (s_getR (f := 14) xC8 (by decide) xw_600 rfl dX8_order_46) (xcons (s_iload_n rfl dX8_order_49) (xcons (s_iald dX8_order_50) (xcons (s_iconst dX8_order_51 rfl) (xcons (s_idiv dX8_order_52) (xcons (s_icle dX8_order_53 rfl) (xcons (s_bipush dX8_order_56 rfl) (xcons (s_iret dX8_order_58 rfl) (xcons (s_aload_n rfl dX8_order_59) (xcons (s_getR (f := 0) xC8 (by decide) xw_470 rfl dX8_order_60) (xcons (s_aload_n rfl dX8_order_63) (xcons (s_getR (f := 1) xC8 (by decide) xw_494 rfl dX8_order_64) (xcons (s_invS (mid := 179) cal_179 xw_478 xw_479 dX8_order_67) (xnil))))))))))))))))))))
theorem dX8_order_70 : decode cX8_order 70 = .ok (.aload_n 0, 1) := by decide +kernel
theorem dX8_order_71 : decode cX8_order 71 = .ok (.iload_n 1, 1) := by decide +kernel
theorem dX8_order_72 : decode cX8_order 72 = .ok (.iload_n 2, 1) := by decide +kernel
theorem dX8_order_73 : decode cX8_order 73 = .ok (.invokevirtual 245, 3) := by decide +kernel
theorem dX8_order_76 : decode cX8_order 76 = .ok (.istore_n 3, 1) := by decide +kernel
theorem dX8_order_77 : decode cX8_order 77 = .ok (.aload_n 0, 1) := by decide +kernel
theorem dX8_order_78 : decode cX8_order 78 = .ok (.getfield 13, 3) := by decide +kernel
theorem dX8_order_81 : decode cX8_order 81 = .ok (.aload_n 0, 1) := by decide +kernel
theorem dX8_order_82 : decode cX8_order 82 = .ok (.getfield 9, 3) := by decide +kernel
theorem dX8_order_85 : decode cX8_order 85 = .ok (.invokestatic 200, 3) := by decide +kernel
theorem dX8_order_88 : decode cX8_order 88 = .ok (.iload_n 3, 1) := by decide +kernel
theorem dX8_order_89 : decode cX8_order 89 = .ok (.ireturn, 1) := by decide +kernel
def k157_2 : List (Nat × XI) := [(70, x_aload 0 71), (71, x_iload 1 72), (72, x_iload 2 73), (73, x_inv 158 8 2 76), (76, x_istore 3 77), (77, x_aload 0 78), (78, x_getR 8 1 81), (81, x_aload 0 82), (82, x_getR 8 0 85), (85, x_invS 179 2 88), (88, x_iload 3 89), (89, x_iret)]
theorem o157_2 (scr : Nat × (Nat → Int32)) : ∀ q ∈ k157_2, XSnd xm scr Y157 q.1 q.2 := xcons (s_aload_n rfl dX8_order_70) (xcons (s_iload_n rfl dX8_order_71) (xcons (s_iload_n rfl dX8_order_72) (xcons (s_inv (mid := 158) xC8 cal_158 xw_648 xw_649 xw_650 dX8_order_73) (xcons (s_istore_n rfl dX8_order_76 (by decide)) (xcons (s_aload_n rfl dX8_order_77) (xcons (s_getR (f := 1) xC8 (by decide) xw_494 rfl dX8_order_78) (xcons (s_aload_n rfl dX8_order_81) (xcons (s_getR (f := 0) xC8 (by decide) xw_470 rfl dX8_order_82) (xcons (s_invS (mid := 179) cal_179 xw_478 xw_479 dX8_order_85) (xcons (s_iload_n rfl dX8_order_88) (xcons (s_iret dX8_order_89 rfl) (xnil))))))))))))
def k157 (pc : Nat) : XI := if pc < 36 then xlk k157_0 pc else if pc < 70 then xlk k157_1 pc else xlk k157_2 pc
theorem o157 (scr : Nat × (Nat → Int32)) (pc : Nat) : XSnd xm scr Y157 pc (k157 pc) := by
  unfold k157
  exact xite (xlk_ok (o157_0 scr) pc) (xite (xlk_ok (o157_1 scr) pc) (xlk_ok (o157_2 scr) pc))
