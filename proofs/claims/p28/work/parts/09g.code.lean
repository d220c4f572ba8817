/-! 09g: the code, instruction by instruction -/
theorem dX8_ordered_0 : decode cX8_ordered 0 = .ok (.iconst 0, 1) := by decide +kernel
theorem dX8_ordered_1 : decode cX8_ordered 1 = .ok (.istore_n 3, 1) := by decide +kernel
theorem dX8_ordered_2 : decode cX8_ordered 2 = .ok (.iconst 0, 1) := by decide +kernel
theorem dX8_ordered_3 : decode cX8_ordered 3 = .ok (.istore 4, 2) := by decide +kernel
theorem dX8_ordered_5 : decode cX8_ordered 5 = .ok (.iload 4, 2) := by decide +kernel
theorem dX8_ordered_7 : decode cX8_ordered 7 = .ok (.iload_n 2, 1) := by decide +kernel
theorem dX8_ordered_8 : decode cX8_ordered 8 = .ok (.if_icmp .ge 110, 3) := by decide +kernel
theorem dX8_ordered_11 : decode cX8_ordered 11 = .ok (.aload_n 0, 1) := by decide +kernel
theorem dX8_ordered_12 : decode cX8_ordered 12 = .ok (.bipush (-2), 2) := by decide +kernel
theorem dX8_ordered_14 : decode cX8_ordered 14 = .ok (.putfield 142, 3) := by decide +kernel
theorem dX8_ordered_17 : decode cX8_ordered 17 = .ok (.aload_n 0, 1) := by decide +kernel
theorem dX8_ordered_18 : decode cX8_ordered 18 = .ok (.getfield 142, 3) := by decide +kernel
theorem dX8_ordered_21 : decode cX8_ordered 21 = .ok (.bipush (-2), 2) := by decide +kernel
theorem dX8_ordered_23 : decode cX8_ordered 23 = .ok (.if_icmp .ne 27, 3) := by decide +kernel
theorem dX8_ordered_26 : decode cX8_ordered 26 = .ok (.iload_n 3, 1) := by decide +kernel
theorem dX8_ordered_27 : decode cX8_ordered 27 = .ok (.sipush 200, 3) := by decide +kernel
theorem dX8_ordered_30 : decode cX8_ordered 30 = .ok (.if_icmp .ge 20, 3) := by decide +kernel
theorem dX8_ordered_33 : decode cX8_ordered 33 = .ok (.aload_n 0, 1) := by decide +kernel
theorem dX8_ordered_34 : decode cX8_ordered 34 = .ok (.invokevirtual 154, 3) := by decide +kernel
theorem dX8_ordered_37 : decode cX8_ordered 37 = .ok (.ifCond .eq 13, 3) := by decide +kernel
def k158_0 : List (Nat × XI) := [(0, x_push (0) 1), (1, x_istore 3 2), (2, x_push (0) 3), (3, x_istore 4 5), (5, x_iload 4 7), (7, x_iload 2 8), (8, x_icge 118 11), (11, x_aload 0 12), (12, x_push (-2) 14), (14, x_putI 8 7 17), (17, x_aload 0 18), (18, x_getI 8 7 21), (21, x_push (-2) 23), (23, x_icne 50 26), (26, x_iload 3 27), (27, x_push (200) 30), (30, x_icge 50 33), (33, x_aload 0 34), (34, x_inv 130 8 0 37), (37, x_ifeq 50 40)]
theorem o158_0 (scr : Nat × (Nat → Int32)) : ∀ q ∈ k158_0, XSnd xm scr Y158 q.1 q.2 := xcons (s_iconst dX8_ordered_0 rfl) (xcons (s_istore_n rfl dX8_ordered_1 (by decide)) (xcons (s_iconst dX8_ordered_2 rfl) (xcons (s_istore dX8_ordered_3 (by decide)) (xcons (s_iload dX8_ordered_5) (xcons (s_iload_n rfl dX8_ordered_7) (xcons (s_icge dX8_ordered_8 rfl) (xcons (s_aload_n rfl dX8_ordered_11) (xcons (s_bipush dX8_ordered_12 rfl) (xcons (s_putI (f := 7) xC8 (by decide) xw_634 rfl (Or.inl rfl) dX8_ordered_14) (xcons (s_aload_n rfl dX8_ordered_17) (xcons (s_getI (f := 7) xC8 (by decide) xw_634 rfl dX8_ordered_18) (xcons (s_bipush dX8_ordered_21 rfl) (xcons (s_icne dX8_ordered_23 rfl) (xcons (s_iload_n rfl dX8_ordered_26) (xcons (s_sipush dX8_ordered_27 rfl) (xcons (s_icge dX8_ordered_30 rfl) (xcons (s_aload_n rfl dX8_ordered_33) (xcons (s_inv (mid := 130) xC8 cal_130 xw_606 xw_607 xw_608 dX8_ordered_34) (xcons (s_ifeq dX8_ordered_37 rfl) (xnil))))))))))))))))))))
theorem dX8_ordered_40 : decode cX8_ordered 40 = .ok (.aload_n 0, 1) := by decide +kernel
theorem dX8_ordered_41 : decode cX8_ordered 41 = .ok (.invokevirtual 164, 3) := by decide +kernel
theorem dX8_ordered_44 : decode cX8_ordered 44 = .ok (.iinc 3 1, 3) := by decide +kernel
theorem dX8_ordered_47 : decode cX8_ordered 47 = .ok (.goto (-30), 3) := by decide +kernel
theorem dX8_ordered_50 : decode cX8_ordered 50 = .ok (.aload_n 0, 1) := by decide +kernel
theorem dX8_ordered_51 : decode cX8_ordered 51 = .ok (.getfield 142, 3) := by decide +kernel
theorem dX8_ordered_54 : decode cX8_ordered 54 = .ok (.bipush (-2), 2) := by decide +kernel
theorem dX8_ordered_56 : decode cX8_ordered 56 = .ok (.if_icmp .eq 53, 3) := by decide +kernel
theorem dX8_ordered_59 : decode cX8_ordered 59 = .ok (.aload_n 0, 1) := by decide +kernel
theorem dX8_ordered_60 : decode cX8_ordered 60 = .ok (.getfield 39, 3) := by decide +kernel
theorem dX8_ordered_63 : decode cX8_ordered 63 = .ok (.iload_n 1, 1) := by decide +kernel
theorem dX8_ordered_64 : decode cX8_ordered 64 = .ok (.aaload, 1) := by decide +kernel
theorem dX8_ordered_65 : decode cX8_ordered 65 = .ok (.iconst 2, 1) := by decide +kernel
theorem dX8_ordered_66 : decode cX8_ordered 66 = .ok (.iload 4, 2) := by decide +kernel
theorem dX8_ordered_68 : decode cX8_ordered 68 = .ok (.imul, 1) := by decide +kernel
theorem dX8_ordered_69 : decode cX8_ordered 69 = .ok (.iaload, 1) := by decide +kernel
theorem dX8_ordered_70 : decode cX8_ordered 70 = .ok (.aload_n 0, 1) := by decide +kernel
theorem dX8_ordered_71 : decode cX8_ordered 71 = .ok (.getfield 142, 3) := by decide +kernel
theorem dX8_ordered_74 : decode cX8_ordered 74 = .ok (.sipush 1000, 3) := by decide +kernel
theorem dX8_ordered_77 : decode cX8_ordered 77 = .ok (.idiv, 1) := by decide +kernel
def k158_1 : List (Nat × XI) := [(40, x_aload 0 41), (41, x_inv 174 8 0 44), (44, x_iinc 3 (1) 47), (47, x_goto 17), (50, x_aload 0 51), (51, x_getI 8 7 54), (54, x_push (-2) 56), (56, x_iceq 109 59), (59, x_aload 0 60), (60, x_getR 8 15 63), (63, x_iload 1 64), (64, x_aald 65), (65, x_push (2) 66), (66, x_iload 4 68), (68, x_imul 69), (69, x_iald 70), (70, x_aload 0 71), (71, x_getI 8 7 74), (74, x_push (1000) 77), (77, x_idiv 78)]
theorem o158_1 (scr : Nat × (Nat → Int32)) : ∀ q ∈ k158_1, XSnd xm scr Y158 q.1 q.2 := xcons (s_aload_n rfl dX8_ordered_40) (xcons (s_inv (mid := 174) xC8 cal_174 xw_583 xw_584 xw_585 dX8_ordered_41) (xcons (s_iinc dX8_ordered_44 rfl (by decide)) (xcons (s_goto dX8_ordered_47 rfl) (xcons (s_aload_n rfl dX8_ordered_50) (xcons (s_getI (f := 7) xC8 (by decide) xw_634 rfl dX8_ordered_51) (xcons (s_bipush dX8_ordered_54 rfl) (xcons (s_iceq dX8_ordered_56 rfl) (xcons (s_aload_n rfl dX8_ordered_59) (xcons (s_getR (f := 15) xC8 (by decide) xw_602 rfl dX8_ordered_60) (xcons (s_iload_n rfl dX8_ordered_63) (xcons (s_aald dX8_ordered_64) (xcons (s_iconst dX8_ordered_65 rfl) (xcons (s_iload dX8_ordered_66) (xcons (s_imul dX8_ordered_68) (xcons (s_iald dX8_ordered_69) (xcons (s_aload_n rfl dX8_ordered_70) (xcons (s_getI (f := 7) xC8 (by decide) xw_634 rfl dX8_ordered_71) (xcons (s_sipush dX8_ordered_74 rfl) (xcons (s_idiv dX8_ordered_77) (xnil))))))))))))))))))))
theorem dX8_ordered_78 : decode cX8_ordered 78 = .ok (.if_icmp .ne 31, 3) := by decide +kernel
theorem dX8_ordered_81 : decode cX8_ordered 81 = .ok (.aload_n 0, 1) := by decide +kernel
theorem dX8_ordered_82 : decode cX8_ordered 82 = .ok (.getfield 39, 3) := by decide +kernel
theorem dX8_ordered_85 : decode cX8_ordered 85 = .ok (.iload_n 1, 1) := by decide +kernel
theorem dX8_ordered_86 : decode cX8_ordered 86 = .ok (.aaload, 1) := by decide +kernel
theorem dX8_ordered_87 : decode cX8_ordered 87 = .ok (.iconst 2, 1) := by decide +kernel
theorem dX8_ordered_88 : decode cX8_ordered 88 = .ok (.iload 4, 2) := by decide +kernel
theorem dX8_ordered_90 : decode cX8_ordered 90 = .ok (.imul, 1) := by decide +kernel
theorem dX8_ordered_91 : decode cX8_ordered 91 = .ok (.iconst 1, 1) := by decide +kernel
theorem dX8_ordered_92 : decode cX8_ordered 92 = .ok (.iadd, 1) := by decide +kernel
theorem dX8_ordered_93 : decode cX8_ordered 93 = .ok (.iaload, 1) := by decide +kernel
theorem dX8_ordered_94 : decode cX8_ordered 94 = .ok (.aload_n 0, 1) := by decide +kernel
theorem dX8_ordered_95 : decode cX8_ordered 95 = .ok (.getfield 142, 3) := by decide +kernel
theorem dX8_ordered_98 : decode cX8_ordered 98 = .ok (.sipush 1000, 3) := by decide +kernel
theorem dX8_ordered_101 : decode cX8_ordered 101 = .ok (.irem, 1) := by decide +kernel
theorem dX8_ordered_102 : decode cX8_ordered 102 = .ok (.sipush 300, 3) := by decide +kernel
theorem dX8_ordered_105 : decode cX8_ordered 105 = .ok (.isub, 1) := by decide +kernel
theorem dX8_ordered_106 : decode cX8_ordered 106 = .ok (.if_icmp .eq 6, 3) := by decide +kernel
theorem dX8_ordered_109 : decode cX8_ordered 109 = .ok (.iload 4, 2) := by decide +kernel
theorem dX8_ordered_111 : decode cX8_ordered 111 = .ok (.ireturn, 1) := by decide +kernel
def k158_2 : List (Nat × XI) := [(78, x_icne 109 81), (81, x_aload 0 82), (82, x_getR 8 15 85), (85, x_iload 1 86), (86, x_aald 87), (87, x_push (2) 88), (88, x_iload 4 90), (90, x_imul 91), (91, x_push (1) 92), (92, x_iadd 93), (93, x_iald 94), (94, x_aload 0 95), (95, x_getI 8 7 98), (98, x_push (1000) 101), (101, x_irem 102), (102, x_push (300) 105), (105, x_isub 106), (106, x_iceq 112 109), (109, x_iload 4 111), (111, x_iret)]
theorem o158_2 (scr : Nat × (Nat → Int32)) : ∀ q ∈ k158_2, XSnd xm scr Y158 q.1 q.2 := xcons (s_icne dX8_ordered_78 rfl) (xcons (s_aload_n rfl dX8_ordered_81) (xcons (s_getR (f := 15) xC8 (by decide) xw_602 rfl dX8_ordered_82) (xcons (s_iload_n rfl dX8_ordered_85) (xcons (s_aald dX8_ordered_86) (xcons (s_iconst dX8_ordered_87 rfl) (xcons (s_iload dX8_ordered_88) (xcons (s_imul dX8_ordered_90) (xcons (s_iconst dX8_ordered_91 rfl) (xcons (s_iadd dX8_ordered_92) (xcons (s_iald dX8_ordered_93) (xcons (s_aload_n rfl dX8_ordered_94) (xcons (s_getI (f := 7) xC8 (by decide) xw_634 rfl dX8_ordered_95) (xcons (s_sipush dX8_ordered_98 rfl) (xcons (s_irem dX8_ordered_101) (xcons (s_sipush dX8_ordered_102 rfl) (xcons (s_isub dX8_ordered_105) (xcons (s_iceq dX8_ordered_106 rfl) (xcons (s_iload dX8_ordered_109) (xcons (s_iret dX8_ordered_111 rfl) (xnil))))))))))))))))))))
theorem dX8_ordered_112 : decode cX8_ordered 112 = .ok (.iinc 4 1, 3) := by decide +kernel
theorem dX8_ordered_115 : decode cX8_ordered 115 = .ok (.goto (-110), 3) := by decide +kernel
theorem dX8_ordered_118 : decode cX8_ordered 118 = .ok (.bipush (-2), 2) := by decide +kernel
theorem dX8_ordered_120 : decode cX8_ordered 120 = .ok (.ireturn, 1) := by decide +kernel
def k158_3 : List (Nat × XI) := [(112, x_iinc 4 (1) 115), (115, x_goto 5), (118, x_push (-2) 120), (120, x_iret)]
theorem o158_3 (scr : Nat × (Nat → Int32)) : ∀ q ∈ k158_3, XSnd xm scr Y158 q.1 q.2 := xcons (s_iinc dX8_ordered_112 rfl (by decide)) (xcons (s_goto dX8_ordered_115 rfl) (xcons (s_bipush dX8_ordered_118 rfl) (xcons (s_iret dX8_ordered_120 rfl) (xnil))))
def k158 (pc : Nat) : XI := if pc < 78 then if pc < 40 then xlk k158_0 pc else xlk k158_1 pc else if pc < 112 then xlk k158_2 pc else xlk k158_3 pc
theorem o158 (scr : Nat × (Nat → Int32)) (pc : Nat) : XSnd xm scr Y158 pc (k158 pc) := by
  unfold k158
  exact xite (xite (xlk_ok (o158_0 scr) pc) (xlk_ok (o158_1 scr) pc)) (xite (xlk_ok (o158_2 scr) pc) (xlk_ok (o158_3 scr) pc))
theorem dX8_pass_0 : decode cX8_pass 0 = .ok (.iconst 0, 1) := by decide +kernel
theorem dX8_pass_1 : decode cX8_pass 1 = .ok (.istore 4, 2) := by decide +kernel
theorem dX8_pass_3 : decode cX8_pass 3 = .ok (.iload 4, 2) := by decide +kernel
theorem dX8_pass_5 : decode cX8_pass 5 = .ok (.aload_n 0, 1) := by decide +kernel
theorem dX8_pass_6 : decode cX8_pass 6 = .ok (.getfield 9, 3) := by decide +kernel
theorem dX8_pass_9 : decode cX8_pass 9 = .ok (.sipush 924, 3) := by decide +kernel
theorem dX8_pass_12 : decode cX8_pass 12 = .ok (.iaload, 1) := by decide +kernel
theorem dX8_pass_13 : decode cX8_pass 13 = .ok (.if_icmp .ge 33, 3) := by decide +kernel
theorem dX8_pass_16 : decode cX8_pass 16 = .ok (.aload_n 0, 1) := by decide +kernel
theorem dX8_pass_17 : decode cX8_pass 17 = .ok (.iload 4, 2) := by decide +kernel
theorem dX8_pass_19 : decode cX8_pass 19 = .ok (.iload_n 1, 1) := by decide +kernel
theorem dX8_pass_20 : decode cX8_pass 20 = .ok (.invokevirtual 67, 3) := by decide +kernel
theorem dX8_pass_23 : decode cX8_pass 23 = .ok (.ifCond .eq 17, 3) := by decide +kernel
theorem dX8_pass_26 : decode cX8_pass 26 = .ok (.aload_n 0, 1) := by decide +kernel
theorem dX8_pass_27 : decode cX8_pass 27 = .ok (.iload 4, 2) := by decide +kernel
theorem dX8_pass_29 : decode cX8_pass 29 = .ok (.iload_n 1, 1) := by decide +kernel
theorem dX8_pass_30 : decode cX8_pass 30 = .ok (.iload_n 2, 1) := by decide +kernel
theorem dX8_pass_31 : decode cX8_pass 31 = .ok (.invokevirtual 84, 3) := by decide +kernel
theorem dX8_pass_34 : decode cX8_pass 34 = .ok (.pop, 1) := by decide +kernel
theorem dX8_pass_35 : decode cX8_pass 35 = .ok (.iload_n 3, 1) := by decide +kernel
def k159_0 : List (Nat × XI) := [(0, x_push (0) 1), (1, x_istore 4 3), (3, x_iload 4 5), (5, x_aload 0 6), (6, x_getR 8 0 9), (9, x_push (924) 12), (12, x_iald 13), (13, x_icge 46 16), (16, x_aload 0 17), (17, x_iload 4 19), (19, x_iload 1 20), (20, x_inv 141 8 2 23), (23, x_ifeq 40 26), (26, x_aload 0 27), (27, x_iload 4 29), (29, x_iload 1 30), (30, x_iload 2 31), (31, x_inv 171 8 3 34), (34, x_pop 35), (35, x_iload 3 36)]
theorem o159_0 (scr : Nat × (Nat → Int32)) : ∀ q ∈ k159_0, XSnd xm scr Y159 q.1 q.2 := xcons (s_iconst dX8_pass_0 rfl) (xcons (s_istore dX8_pass_1 (by decide)) (xcons (s_iload dX8_pass_3) (xcons (s_aload_n rfl dX8_pass_5) (xcons (s_getR (f := 0) xC8 (by decide) xw_470 rfl dX8_pass_6) (xcons (s_sipush dX8_pass_9 rfl) (xcons (s_iald dX8_pass_12) (xcons (s_icge dX8_pass_13 rfl) (xcons (s_aload_n rfl dX8_pass_16) (xcons (s_iload dX8_pass_17) (xcons (s_iload_n rfl dX8_pass_19) (xcons (s_inv (mid := 141) xC8 cal_141 xw_570 xw_571 xw_572 dX8_pass_20) (xcons (s_ifeq dX8_pass_23 rfl) (xcons (s_aload_n rfl dX8_pass_26) (xcons (s_iload dX8_pass_27) (xcons (s_iload_n rfl dX8_pass_29) (xcons (s_iload_n rfl dX8_pass_30) (xcons (s_inv (mid := 171) xC8 cal_171 xw_524 xw_525 xw_526 dX8_pass_31) (xcons (s_pop dX8_pass_34) (xcons (s_iload_n rfl dX8_pass_35) (xnil))))))))))))))))))))
theorem dX8_pass_36 : decode cX8_pass 36 = .ok (.ifCond .ne 4, 3) := by decide +kernel
theorem dX8_pass_39 : decode cX8_pass 39 = .ok (.return_, 1) := by decide +kernel
theorem dX8_pass_40 : decode cX8_pass 40 = .ok (.iinc 4 1, 3) := by decide +kernel
theorem dX8_pass_43 : decode cX8_pass 43 = .ok (.goto (-40), 3) := by decide +kernel
theorem dX8_pass_46 : decode cX8_pass 46 = .ok (.return_, 1) := by decide +kernel
def k159_1 : List (Nat × XI) := [(36, x_ifne 40 39), (39, x_ret), (40, x_iinc 4 (1) 43), (43, x_goto 3), (46, x_ret)]
theorem o159_1 (scr : Nat × (Nat → Int32)) : ∀ q ∈ k159_1, XSnd xm scr Y159 q.1 q.2 := xcons (s_ifne dX8_pass_36 rfl) (xcons (s_ret dX8_pass_39 rfl) (xcons (s_iinc dX8_pass_40 rfl (by decide)) (xcons (s_goto dX8_pass_43 rfl) (xcons (s_ret dX8_pass_46 rfl) (xnil)))))
def k159 (pc : Nat) : XI := if pc < 36 then xlk k159_0 pc else xlk k159_1 pc
theorem o159 (scr : Nat × (Nat → Int32)) (pc : Nat) : XSnd xm scr Y159 pc (k159 pc) := by
  unfold k159
  exact xite (xlk_ok (o159_0 scr) pc) (xlk_ok (o159_1 scr) pc)
theorem dX8_put_0 : decode cX8_put 0 = .ok (.aload_n 0, 1) := by decide +kernel
theorem dX8_put_1 : decode cX8_put 1 = .ok (.iload_n 1, 1) := by decide +kernel
theorem dX8_put_2 : decode cX8_put 2 = .ok (.invokevirtual 242, 3) := by decide +kernel
theorem dX8_put_5 : decode cX8_put 5 = .ok (.ifCond .eq 29, 3) := by decide +kernel
theorem dX8_put_8 : decode cX8_put 8 = .ok (.aload_n 0, 1) := by decide +kernel
theorem dX8_put_9 : decode cX8_put 9 = .ok (.getfield 28, 3) := by decide +kernel
theorem dX8_put_12 : decode cX8_put 12 = .ok (.iload_n 1, 1) := by decide +kernel
theorem dX8_put_13 : decode cX8_put 13 = .ok (.iaload, 1) := by decide +kernel
theorem dX8_put_14 : decode cX8_put 14 = .ok (.iconst 2, 1) := by decide +kernel
theorem dX8_put_15 : decode cX8_put 15 = .ok (.if_icmp .ne 19, 3) := by decide +kernel
theorem dX8_put_18 : decode cX8_put 18 = .ok (.iload_n 2, 1) := by decide +kernel
theorem dX8_put_19 : decode cX8_put 19 = .ok (.iconst 0, 1) := by decide +kernel
theorem dX8_put_20 : decode cX8_put 20 = .ok (.aload_n 0, 1) := by decide +kernel
theorem dX8_put_21 : decode cX8_put 21 = .ok (.getfield 34, 3) := by decide +kernel
theorem dX8_put_24 : decode cX8_put 24 = .ok (.iload_n 1, 1) := by decide +kernel
theorem dX8_put_25 : decode cX8_put 25 = .ok (.iaload, 1) := by decide +kernel
theorem dX8_put_26 : decode cX8_put 26 = .ok (.iconst 1, 1) := by decide +kernel
theorem dX8_put_27 : decode cX8_put 27 = .ok (.isub, 1) := by decide +kernel
theorem dX8_put_28 : decode cX8_put 28 = .ok (.invokestatic 51, 3) := by decide +kernel
theorem dX8_put_31 : decode cX8_put 31 = .ok (.ifCond .ne 6, 3) := by decide +kernel
def k160_0 : List (Nat × XI) := [(0, x_aload 0 1), (1, x_iload 1 2), (2, x_inv 139 8 1 5), (5, x_ifeq 34 8), (8, x_aload 0 9), (9, x_getR 8 12 12), (12, x_iload 1 13), (13, x_iald 14), (14, x_push (2) 15), (15, x_icne 34 18), (18, x_iload 2 19), (19, x_push (0) 20), (20, x_aload 0 21), (21, x_getR 8 14 24), (24, x_iload 1 25), (25, x_iald 26), (26, x_push (1) 27), (27, x_isub 28), (28, x_invS 134 3 31), (31, x_ifne 37 34)]
theorem o160_0 (scr : Nat × (Nat → Int32)) : ∀ q ∈ k160_0, XSnd xm scr Y160 q.1 q.2 := xcons (s_aload_n rfl dX8_put_0) (xcons (s_iload_n rfl dX8_put_1) (xcons (s_inv (mid := 139) xC8 cal_139 xw_591 xw_592 xw_593 dX8_put_2) (xcons (s_ifeq dX8_put_5 rfl) (xcons (s_aload_n rfl dX8_put_8) (xcons (s_getR (f := 12) xC8 (by decide) xw_480 rfl dX8_put_9) (xcons (s_iload_n rfl dX8_put_12) (xcons (s_iald dX8_put_13) (xcons (s_iconst dX8_put_14 rfl) (xcons (s_icne dX8_put_15 rfl) (xcons (s_iload_n rfl dX8_put_18) (xcons (s_iconst dX8_put_19 rfl) (xcons (s_aload_n rfl dX8_put_20) (xcons (s_getR (f := 14) xC8 (by decide) xw_600 rfl dX8_put_21) (xcons (s_iload_n rfl dX8_put_24) (xcons (s_iald dX8_put_25) (xcons (s_iconst dX8_put_26 rfl) (xcons (s_isub dX8_put_27) (xcons (s_invS (mid := 134) cal_134 xw_487 xw_488 dX8_put_28) (xcons (s_ifne dX8_put_31 rfl) (xnil))))))))))))))))))))
theorem dX8_put_34 : decode cX8_put 34 = .ok (.ldc 186, 2) := by decide +kernel
theorem dX8_put_36 : decode cX8_put 36 = .ok (.ireturn, 1) := by decide +kernel
theorem dX8_put_37 : decode cX8_put 37 = .ok (.aload_n 0, 1) := by decide +kernel
theorem dX8_put_38 : decode cX8_put 38 = .ok (.getfield 39, 3) := by decide +kernel
theorem dX8_put_41 : decode cX8_put 41 = .ok (.iload_n 1, 1) := by decide +kernel
theorem dX8_put_42 : decode cX8_put 42 = .ok (.aaload, 1) := by decide +kernel
theorem dX8_put_43 : decode cX8_put 43 = .ok (.iload_n 2, 1) := by decide +kernel
theorem dX8_put_44 : decode cX8_put 44 = .ok (.iaload, 1) := by decide +kernel
theorem dX8_put_45 : decode cX8_put 45 = .ok (.istore 4, 2) := by decide +kernel
theorem dX8_put_47 : decode cX8_put 47 = .ok (.aload_n 0, 1) := by decide +kernel
theorem dX8_put_48 : decode cX8_put 48 = .ok (.getfield 39, 3) := by decide +kernel
theorem dX8_put_51 : decode cX8_put 51 = .ok (.iload_n 1, 1) := by decide +kernel
theorem dX8_put_52 : decode cX8_put 52 = .ok (.aaload, 1) := by decide +kernel
theorem dX8_put_53 : decode cX8_put 53 = .ok (.iload_n 2, 1) := by decide +kernel
theorem dX8_put_54 : decode cX8_put 54 = .ok (.iload_n 3, 1) := by decide +kernel
theorem dX8_put_55 : decode cX8_put 55 = .ok (.iastore, 1) := by decide +kernel
theorem dX8_put_56 : decode cX8_put 56 = .ok (.iload 4, 2) := by decide +kernel
theorem dX8_put_58 : decode cX8_put 58 = .ok (.ireturn, 1) := by decide +kernel
def k160_1 : List (Nat × XI) := [(34, x_push (-2000000000) 36), (36, x_iret), (37, x_aload 0 38), (38, x_getR 8 15 41), (41, x_iload 1 42), (42, x_aald 43), (43, x_iload 2 44), (44, x_iald 45), (45, x_istore 4 47), (47, x_aload 0 48), (48, x_getR 8 15 51), (51, x_iload 1 52), (52, x_aald 53), (53, x_iload 2 54), (54, x_iload 3 55), (55, x_iast 56), (56, x_iload 4 58), (58, x_iret)]
theorem o160_1 (scr : Nat × (Nat → Int32)) : ∀ q ∈ k160_1, XSnd xm scr Y160 q.1 q.2 := xcons (s_ldc dX8_put_34 xw_493) (xcons (s_iret dX8_put_36 rfl) (xcons (s_aload_n rfl dX8_put_37) (xcons (s_getR (f := 15) xC8 (by decide) xw_602 rfl dX8_put_38) (xcons (s_iload_n rfl dX8_put_41) (xcons (s_aald dX8_put_42) (xcons (s_iload_n rfl dX8_put_43) (xcons (s_iald dX8_put_44) (xcons (s_istore dX8_put_45 (by decide)) (xcons (s_aload_n rfl dX8_put_47) (xcons (s_getR (f := 15) xC8 (by decide) xw_602 rfl dX8_put_48) (xcons (s_iload_n rfl dX8_put_51) (xcons (s_aald dX8_put_52) (xcons (s_iload_n rfl dX8_put_53) (xcons (s_iload_n rfl dX8_put_54) (xcons (s_iast dX8_put_55) (xcons (s_iload dX8_put_56) (xcons (s_iret dX8_put_58 rfl) (xnil))))))))))))))))))
def k160 (pc : Nat) : XI := if pc < 34 then xlk k160_0 pc else xlk k160_1 pc
theorem o160 (scr : Nat × (Nat → Int32)) (pc : Nat) : XSnd xm scr Y160 pc (k160 pc) := by
  unfold k160
  exact xite (xlk_ok (o160_0 scr) pc) (xlk_ok (o160_1 scr) pc)
theorem dX8_quiet_0 : decode cX8_quiet 0 = .ok (.aload_n 0, 1) := by decide +kernel
theorem dX8_quiet_1 : decode cX8_quiet 1 = .ok (.getfield 9, 3) := by decide +kernel
theorem dX8_quiet_4 : decode cX8_quiet 4 = .ok (.aload_n 0, 1) := by decide +kernel
theorem dX8_quiet_5 : decode cX8_quiet 5 = .ok (.getfield 13, 3) := by decide +kernel
theorem dX8_quiet_8 : decode cX8_quiet 8 = .ok (.invokestatic 200, 3) := by decide +kernel
theorem dX8_quiet_11 : decode cX8_quiet 11 = .ok (.iconst 0, 1) := by decide +kernel
theorem dX8_quiet_12 : decode cX8_quiet 12 = .ok (.istore_n 1, 1) := by decide +kernel
theorem dX8_quiet_13 : decode cX8_quiet 13 = .ok (.aload_n 0, 1) := by decide +kernel
theorem dX8_quiet_14 : decode cX8_quiet 14 = .ok (.invokevirtual 154, 3) := by decide +kernel
theorem dX8_quiet_17 : decode cX8_quiet 17 = .ok (.ifCond .eq 20, 3) := by decide +kernel
theorem dX8_quiet_20 : decode cX8_quiet 20 = .ok (.iload_n 1, 1) := by decide +kernel
theorem dX8_quiet_21 : decode cX8_quiet 21 = .ok (.sipush 200, 3) := by decide +kernel
theorem dX8_quiet_24 : decode cX8_quiet 24 = .ok (.if_icmp .ge 13, 3) := by decide +kernel
theorem dX8_quiet_27 : decode cX8_quiet 27 = .ok (.aload_n 0, 1) := by decide +kernel
theorem dX8_quiet_28 : decode cX8_quiet 28 = .ok (.invokevirtual 164, 3) := by decide +kernel
theorem dX8_quiet_31 : decode cX8_quiet 31 = .ok (.iinc 1 1, 3) := by decide +kernel
theorem dX8_quiet_34 : decode cX8_quiet 34 = .ok (.goto (-21), 3) := by decide +kernel
theorem dX8_quiet_37 : decode cX8_quiet 37 = .ok (.aload_n 0, 1) := by decide +kernel
theorem dX8_quiet_38 : decode cX8_quiet 38 = .ok (.invokevirtual 154, 3) := by decide +kernel
theorem dX8_quiet_41 : decode cX8_quiet 41 = .ok (.ifCond .ne 7, 3) := by decide +kernel
def k161_0 : List (Nat × XI) := [(0, x_aload 0 1), (1, x_getR 8 0 4), (4, x_aload 0 5), (5, x_getR 8 1 8), (8, x_invS 179 2 11), (11, x_push (0) 12), (12, x_istore 1 13), (13, x_aload 0 14), (14, x_inv 130 8 0 17), (17, x_ifeq 37 20), (20, x_iload 1 21), (21, x_push (200) 24), (24, x_icge 37 27), (27, x_aload 0 28), (28, x_inv 174 8 0 31), (31, x_iinc 1 (1) 34), (34, x_goto 13), (37, x_aload 0 38), (38, x_inv 130 8 0 41), (41, x_ifne 48 44)]
theorem o161_0 (scr : Nat × (Nat → Int32)) : ∀ q ∈ k161_0, XSnd xm scr Y161 q.1 q.2 := xcons (s_aload_n rfl dX8_quiet_0) (xcons (s_getR (f := 0) xC8 (by decide) xw_470 rfl dX8_quiet_1) (xcons (s_aload_n rfl dX8_quiet_4) (xcons (s_getR (f := 1) xC8 (by decide) xw_494 rfl dX8_quiet_5) (xcons (s_invS (mid := 179) cal_179 xw_478 xw_479 dX8_quiet_8) (xcons (s_iconst dX8_quiet_11 rfl) (xcons (s_istore_n rfl dX8_quiet_12 (by decide)) (xcons (s_aload_n rfl dX8_quiet_13) (xcons (s_inv (mid := 130) xC8 cal_130 xw_606 xw_607 xw_608 dX8_quiet_14) (xcons (s_ifeq dX8_quiet_17 rfl) (xcons (s_iload_n rfl dX8_quiet_20) (xcons (s_sipush dX8_quiet_21 rfl) (xcons (s_icge dX8_quiet_24 rfl) (xcons (s_aload_n rfl dX8_quiet_27) (xcons (s_inv (mid := 174) xC8 cal_174 xw_583 xw_584 xw_585 dX8_quiet_28) (xcons (s_iinc dX8_quiet_31 rfl (by decide)) (xcons (s_goto dX8_quiet_34 rfl) (xcons (s_aload_n rfl dX8_quiet_37) (xcons (s_inv (mid := 130) xC8 cal_130 xw_606 xw_607 xw_608 dX8_quiet_38) (xcons (s_ifne dX8_quiet_41 rfl) (xnil))))))))))))))))))))
theorem dX8_quiet_44 : decode cX8_quiet 44 = .ok (.iconst 1, 1) := by decide +kernel
theorem dX8_quiet_45 : decode cX8_quiet 45 = .ok (.goto 4, 3) := by decide +kernel
theorem dX8_quiet_48 : decode cX8_quiet 48 = .ok (.iconst 0, 1) := by decide +kernel
theorem dX8_quiet_49 : decode cX8_quiet 49 = .ok (.istore_n 2, 1) := by decide +kernel
theorem dX8_quiet_50 : decode cX8_quiet 50 = .ok (.aload_n 0, 1) := by decide +kernel
theorem dX8_quiet_51 : decode cX8_quiet 51 = .ok (.getfield 13, 3) := by decide +kernel
theorem dX8_quiet_54 : decode cX8_quiet 54 = .ok (.aload_n 0, 1) := by decide +kernel
theorem dX8_quiet_55 : decode cX8_quiet 55 = .ok (.getfield 9, 3) := by decide +kernel
theorem dX8_quiet_58 : decode cX8_quiet 58 = .ok (.invokestatic 200, 3) := by decide +kernel
theorem dX8_quiet_61 : decode cX8_quiet 61 = .ok (.iload_n 2, 1) := by decide +kernel
theorem dX8_quiet_62 : decode cX8_quiet 62 = .ok (.ifCond .eq 7, 3) := by decide +kernel
theorem dX8_quiet_65 : decode cX8_quiet 65 = .ok (.iload_n 1, 1) := by decide +kernel
theorem dX8_quiet_66 : decode cX8_quiet 66 = .ok (.goto 5, 3) := by decide +kernel
theorem dX8_quiet_69 : decode cX8_quiet 69 = .ok (.bipush (-2), 2) := by decide +kernel
theorem dX8_quiet_71 : decode cX8_quiet 71 = .ok (.ireturn, 1) := by decide +kernel
def k161_1 : List (Nat × XI) := [(44, x_push (1) 45), (45, x_goto 49), (48, x_push (0) 49), (49, x_istore 2 50), (50, x_aload 0 51), (51, x_getR 8 1 54), (54, x_aload 0 55), (55, x_getR 8 0 58), (58, x_invS 179 2 61), (61, x_iload 2 62), (62, x_ifeq 69 65), (65, x_iload 1 66), (66, x_goto 71), (69, x_push (-2) 71), (71, x_iret)]
theorem o161_1 (scr : Nat × (Nat → Int32)) : ∀ q ∈ k161_1, XSnd xm scr Y161 q.1 q.2 := xcons (s_iconst dX8_quiet_44 rfl) (xcons (s_goto dX8_quiet_45 rfl) (xcons (s_iconst dX8_quiet_48 rfl) (xcons (s_istore_n rfl dX8_quiet_49 (by decide)) (xcons (s_aload_n rfl dX8_quiet_50) (xcons (s_getR (f := 1) xC8 (by decide) xw_494 rfl dX8_quiet_51) (xcons (s_aload_n rfl dX8_quiet_54) (xcons (s_getR (f := 0) xC8 (by decide) xw_470 rfl dX8_quiet_55) (xcons (s_invS (mid := 179) cal_179 xw_478 xw_479 dX8_quiet_58) (xcons (s_iload_n rfl dX8_quiet_61) (xcons (s_ifeq dX8_quiet_62 rfl) (xcons (s_iload_n rfl dX8_quiet_65) (xcons (s_goto dX8_quiet_66 rfl) (xcons (s_bipush dX8_quiet_69 rfl) (xcons (s_iret dX8_quiet_71 rfl) (xnil)))))))))))))))
def k161 (pc : Nat) : XI := if pc < 44 then xlk k161_0 pc else xlk k161_1 pc
theorem o161 (scr : Nat × (Nat → Int32)) (pc : Nat) : XSnd xm scr Y161 pc (k161 pc) := by
  unfold k161
  exact xite (xlk_ok (o161_0 scr) pc) (xlk_ok (o161_1 scr) pc)
theorem dX8_reach_0 : decode cX8_reach 0 = .ok (.aload_n 0, 1) := by decide +kernel
theorem dX8_reach_1 : decode cX8_reach 1 = .ok (.iload_n 1, 1) := by decide +kernel
theorem dX8_reach_2 : decode cX8_reach 2 = .ok (.invokevirtual 167, 3) := by decide +kernel
theorem dX8_reach_5 : decode cX8_reach 5 = .ok (.ifCond .eq 11, 3) := by decide +kernel
theorem dX8_reach_8 : decode cX8_reach 8 = .ok (.aload_n 0, 1) := by decide +kernel
theorem dX8_reach_9 : decode cX8_reach 9 = .ok (.iload_n 2, 1) := by decide +kernel
theorem dX8_reach_10 : decode cX8_reach 10 = .ok (.invokevirtual 167, 3) := by decide +kernel
theorem dX8_reach_13 : decode cX8_reach 13 = .ok (.ifCond .ne 5, 3) := by decide +kernel
theorem dX8_reach_16 : decode cX8_reach 16 = .ok (.iconst (-1), 1) := by decide +kernel
theorem dX8_reach_17 : decode cX8_reach 17 = .ok (.ireturn, 1) := by decide +kernel
theorem dX8_reach_18 : decode cX8_reach 18 = .ok (.aload_n 0, 1) := by decide +kernel
theorem dX8_reach_19 : decode cX8_reach 19 = .ok (.iload_n 1, 1) := by decide +kernel
theorem dX8_reach_20 : decode cX8_reach 20 = .ok (.invokevirtual 59, 3) := by decide +kernel
theorem dX8_reach_23 : decode cX8_reach 23 = .ok (.ifCond .eq 11, 3) := by decide +kernel
theorem dX8_reach_26 : decode cX8_reach 26 = .ok (.aload_n 0, 1) := by decide +kernel
theorem dX8_reach_27 : decode cX8_reach 27 = .ok (.iload_n 2, 1) := by decide +kernel
theorem dX8_reach_28 : decode cX8_reach 28 = .ok (.invokevirtual 59, 3) := by decide +kernel
theorem dX8_reach_31 : decode cX8_reach 31 = .ok (.ifCond .ne 6, 3) := by decide +kernel
theorem dX8_reach_34 : decode cX8_reach 34 = .ok (.bipush (-2), 2) := by decide +kernel
theorem dX8_reach_36 : decode cX8_reach 36 = .ok (.ireturn, 1) := by decide +kernel
def k162_0 : List (Nat × XI) := [(0, x_aload 0 1), (1, x_iload 1 2), (2, x_inv 136 8 1 5), (5, x_ifeq 16 8), (8, x_aload 0 9), (9, x_iload 2 10), (10, x_inv 136 8 1 13), (13, x_ifne 18 16), (16, x_push (-1) 17), (17, x_iret), (18, x_aload 0 19), (19, x_iload 1 20), (20, x_inv 140 8 1 23), (23, x_ifeq 34 26), (26, x_aload 0 27), (27, x_iload 2 28), (28, x_inv 140 8 1 31), (31, x_ifne 37 34), (34, x_push (-2) 36), (36, x_iret)]
theorem o162_0 (scr : Nat × (Nat → Int32)) : ∀ q ∈ k162_0, XSnd xm scr Y162 q.1 q.2 := xcons (s_aload_n rfl dX8_reach_0) (xcons (s_iload_n rfl dX8_reach_1) (xcons (s_inv (mid := 136) xC8 cal_136 xw_483 xw_484 xw_485 dX8_reach_2) (xcons (s_ifeq dX8_reach_5 rfl) (xcons (s_aload_n rfl dX8_reach_8) (xcons (s_iload_n rfl dX8_reach_9) (xcons (s_inv (mid := 136) xC8 cal_136 xw_483 xw_484 xw_485 dX8_reach_10) (xcons (s_ifne dX8_reach_13 rfl) (xcons (s_iconst dX8_reach_16 rfl) (xcons (s_iret dX8_reach_17 rfl) (xcons (s_aload_n rfl dX8_reach_18) (xcons (s_iload_n rfl dX8_reach_19) (xcons (s_inv (mid := 140) xC8 cal_140 xw_490 xw_491 xw_492 dX8_reach_20) (xcons (s_ifeq dX8_reach_23 rfl) (xcons (s_aload_n rfl dX8_reach_26) (xcons (s_iload_n rfl dX8_reach_27) (xcons (s_inv (mid := 140) xC8 cal_140 xw_490 xw_491 xw_492 dX8_reach_28) (xcons (s_ifne dX8_reach_31 rfl) (xcons (s_bipush dX8_reach_34 rfl) (xcons (s_iret dX8_reach_36 rfl) (xnil))))))))))))))))))))
theorem dX8_reach_37 : decode cX8_reach 37 = .ok (.iconst 0, 1) := by decide +kernel
theorem dX8_reach_38 : decode cX8_reach 38 = .ok (.istore_n 3, 1) := by decide +kernel
theorem dX8_reach_39 : decode cX8_reach 39 = .ok (.iload_n 3, 1) := by decide +kernel
theorem dX8_reach_40 : decode cX8_reach 40 = .ok (.bipush 12, 2) := by decide +kernel
theorem dX8_reach_42 : decode cX8_reach 42 = .ok (.if_icmp .ge 17, 3) := by decide +kernel
theorem dX8_reach_45 : decode cX8_reach 45 = .ok (.aload_n 0, 1) := by decide +kernel
theorem dX8_reach_46 : decode cX8_reach 46 = .ok (.getfield 45, 3) := by decide +kernel
theorem dX8_reach_49 : decode cX8_reach 49 = .ok (.iload_n 3, 1) := by decide +kernel
theorem dX8_reach_50 : decode cX8_reach 50 = .ok (.bipush (-2), 2) := by decide +kernel
theorem dX8_reach_52 : decode cX8_reach 52 = .ok (.iastore, 1) := by decide +kernel
theorem dX8_reach_53 : decode cX8_reach 53 = .ok (.iinc 3 1, 3) := by decide +kernel
theorem dX8_reach_56 : decode cX8_reach 56 = .ok (.goto (-17), 3) := by decide +kernel
theorem dX8_reach_59 : decode cX8_reach 59 = .ok (.aload_n 0, 1) := by decide +kernel
theorem dX8_reach_60 : decode cX8_reach 60 = .ok (.getfield 45, 3) := by decide +kernel
theorem dX8_reach_63 : decode cX8_reach 63 = .ok (.iload_n 1, 1) := by decide +kernel
theorem dX8_reach_64 : decode cX8_reach 64 = .ok (.iconst 0, 1) := by decide +kernel
theorem dX8_reach_65 : decode cX8_reach 65 = .ok (.iastore, 1) := by decide +kernel
theorem dX8_reach_66 : decode cX8_reach 66 = .ok (.aload_n 0, 1) := by decide +kernel
theorem dX8_reach_67 : decode cX8_reach 67 = .ok (.getfield 42, 3) := by decide +kernel
theorem dX8_reach_70 : decode cX8_reach 70 = .ok (.iconst 0, 1) := by decide +kernel
def k162_1 : List (Nat × XI) := [(37, x_push (0) 38), (38, x_istore 3 39), (39, x_iload 3 40), (40, x_push (12) 42), (42, x_icge 59 45), (45, x_aload 0 46), (46, x_getR 8 17 49), (49, x_iload 3 50), (50, x_push (-2) 52), (52, x_iast 53), (53, x_iinc 3 (1) 56), (56, x_goto 39), (59, x_aload 0 60), (60, x_getR 8 17 63), (63, x_iload 1 64), (64, x_push (0) 65), (65, x_iast 66), (66, x_aload 0 67), (67, x_getR 8 16 70), (70, x_push (0) 71)]
theorem o162_1 (scr : Nat × (Nat → Int32)) : ∀ q ∈ k162_1, XSnd xm scr Y162 q.1 q.2 := xcons (s_iconst dX8_reach_37 rfl) (xcons (s_istore_n rfl dX8_reach_38 (by decide)) (xcons (s_iload_n rfl dX8_reach_39) (xcons (s_bipush dX8_reach_40 rfl) (xcons (s_icge dX8_reach_42 rfl) (xcons (s_aload_n rfl dX8_reach_45) (xcons (s_getR (f := 17) xC8 (by decide) xw_604 rfl dX8_reach_46) (xcons (s_iload_n rfl dX8_reach_49) (xcons (s_bipush dX8_reach_50 rfl) (xcons (s_iast dX8_reach_52) (xcons (s_iinc dX8_reach_53 rfl (by decide)) (xcons (s_goto dX8_reach_56 rfl) (xcons (s_aload_n rfl dX8_reach_59) (xcons (s_getR (f := 17) xC8 (by decide) xw_604 rfl dX8_reach_60) (xcons (s_iload_n rfl dX8_reach_63) (xcons (s_iconst dX8_reach_64 rfl) (xcons (s_iast dX8_reach_65) (xcons (s_aload_n rfl dX8_reach_66) (xcons (s_getR (f := 16) xC8 (by decide) xw_603 rfl dX8_reach_67) (xcons (s_iconst dX8_reach_70 rfl) (xnil))))))))))))))))))))
theorem dX8_reach_71 : decode cX8_reach 71 = .ok (.iload_n 1, 1) := by decide +kernel
theorem dX8_reach_72 : decode cX8_reach 72 = .ok (.iastore, 1) := by decide +kernel
theorem dX8_reach_73 : decode cX8_reach 73 = .ok (.iconst 1, 1) := by decide +kernel
theorem dX8_reach_74 : decode cX8_reach 74 = .ok (.istore_n 3, 1) := by decide +kernel
theorem dX8_reach_75 : decode cX8_reach 75 = .ok (.iconst 0, 1) := by decide +kernel
theorem dX8_reach_76 : decode cX8_reach 76 = .ok (.istore 4, 2) := by decide +kernel
theorem dX8_reach_78 : decode cX8_reach 78 = .ok (.iload 4, 2) := by decide +kernel
theorem dX8_reach_80 : decode cX8_reach 80 = .ok (.iload_n 3, 1) := by decide +kernel
theorem dX8_reach_81 : decode cX8_reach 81 = .ok (.if_icmp .ge 98, 3) := by decide +kernel
theorem dX8_reach_84 : decode cX8_reach 84 = .ok (.iconst 0, 1) := by decide +kernel
theorem dX8_reach_85 : decode cX8_reach 85 = .ok (.istore 5, 2) := by decide +kernel
theorem dX8_reach_87 : decode cX8_reach 87 = .ok (.iload 5, 2) := by decide +kernel
theorem dX8_reach_89 : decode cX8_reach 89 = .ok (.aload_n 0, 1) := by decide +kernel
theorem dX8_reach_90 : decode cX8_reach 90 = .ok (.getfield 9, 3) := by decide +kernel
theorem dX8_reach_93 : decode cX8_reach 93 = .ok (.sipush 924, 3) := by decide +kernel
theorem dX8_reach_96 : decode cX8_reach 96 = .ok (.iaload, 1) := by decide +kernel
theorem dX8_reach_97 : decode cX8_reach 97 = .ok (.if_icmp .ge 76, 3) := by decide +kernel
theorem dX8_reach_100 : decode cX8_reach 100 = .ok (.aload_n 0, 1) := by decide +kernel
theorem dX8_reach_101 : decode cX8_reach 101 = .ok (.getfield 45, 3) := by decide +kernel
theorem dX8_reach_104 : decode cX8_reach 104 = .ok (.iload 5, 2) := by decide +kernel
def k162_2 : List (Nat × XI) := [(71, x_iload 1 72), (72, x_iast 73), (73, x_push (1) 74), (74, x_istore 3 75), (75, x_push (0) 76), (76, x_istore 4 78), (78, x_iload 4 80), (80, x_iload 3 81), (81, x_icge 179 84), (84, x_push (0) 85), (85, x_istore 5 87), (87, x_iload 5 89), (89, x_aload 0 90), (90, x_getR 8 0 93), (93, x_push (924) 96), (96, x_iald 97), (97, x_icge 173 100), (100, x_aload 0 101), (101, x_getR 8 17 104), (104, x_iload 5 106)]
theorem o162_2 (scr : Nat × (Nat → Int32)) : ∀ q ∈ k162_2, XSnd xm scr Y162 q.1 q.2 := xcons (s_iload_n rfl dX8_reach_71) (xcons (s_iast dX8_reach_72) (xcons (s_iconst dX8_reach_73 rfl) (xcons (s_istore_n rfl dX8_reach_74 (by decide)) (xcons (s_iconst dX8_reach_75 rfl) (xcons (s_istore dX8_reach_76 (by decide)) (xcons (s_iload dX8_reach_78) (xcons (s_iload_n rfl dX8_reach_80) (xcons (s_icge dX8_reach_81 rfl) (xcons (s_iconst dX8_reach_84 rfl) (xcons (s_istore dX8_reach_85 (by decide)) (xcons (s_iload dX8_reach_87) (xcons (s_aload_n rfl dX8_reach_89) (xcons (s_getR (f := 0) xC8 (by decide) xw_470 rfl dX8_reach_90) (xcons (s_sipush dX8_reach_93 rfl) (xcons (s_iald dX8_reach_96) (xcons (s_icge dX8_reach_97 rfl) (xcons (s_aload_n rfl dX8_reach_100) (xcons (s_getR (f := 17) xC8 (by decide) xw_604 rfl dX8_reach_101) (xcons (s_iload dX8_reach_104) (xnil))))))))))))))))))))
theorem dX8_reach_106 : decode cX8_reach 106 = .ok (.iaload, 1) := by decide +kernel
theorem dX8_reach_107 : decode cX8_reach 107 = .ok (.ifCond .ge 60, 3) := by decide +kernel
theorem dX8_reach_110 : decode cX8_reach 110 = .ok (.aload_n 0, 1) := by decide +kernel
theorem dX8_reach_111 : decode cX8_reach 111 = .ok (.iload 5, 2) := by decide +kernel
theorem dX8_reach_113 : decode cX8_reach 113 = .ok (.invokevirtual 59, 3) := by decide +kernel
theorem dX8_reach_116 : decode cX8_reach 116 = .ok (.ifCond .eq 51, 3) := by decide +kernel
theorem dX8_reach_119 : decode cX8_reach 119 = .ok (.aload_n 0, 1) := by decide +kernel
theorem dX8_reach_120 : decode cX8_reach 120 = .ok (.iload 5, 2) := by decide +kernel
theorem dX8_reach_122 : decode cX8_reach 122 = .ok (.aload_n 0, 1) := by decide +kernel
theorem dX8_reach_123 : decode cX8_reach 123 = .ok (.getfield 42, 3) := by decide +kernel
theorem dX8_reach_126 : decode cX8_reach 126 = .ok (.iload 4, 2) := by decide +kernel
theorem dX8_reach_128 : decode cX8_reach 128 = .ok (.iaload, 1) := by decide +kernel
theorem dX8_reach_129 : decode cX8_reach 129 = .ok (.invokevirtual 204, 3) := by decide +kernel
theorem dX8_reach_132 : decode cX8_reach 132 = .ok (.ifCond .eq 35, 3) := by decide +kernel
theorem dX8_reach_135 : decode cX8_reach 135 = .ok (.aload_n 0, 1) := by decide +kernel
theorem dX8_reach_136 : decode cX8_reach 136 = .ok (.getfield 45, 3) := by decide +kernel
theorem dX8_reach_139 : decode cX8_reach 139 = .ok (.iload 5, 2) := by decide +kernel
theorem dX8_reach_141 : decode cX8_reach 141 = .ok (.aload_n 0, 1) := by decide +kernel
theorem dX8_reach_142 : decode cX8_reach 142 = .ok (.getfield 45, 3) := by decide +kernel
theorem dX8_reach_145 : decode cX8_reach 145 = .ok (.aload_n 0, 1) := by decide +kernel
def k162_3 : List (Nat × XI) := [(106, x_iald 107), (107, x_ifge 167 110), (110, x_aload 0 111), (111, x_iload 5 113), (113, x_inv 140 8 1 116), (116, x_ifeq 167 119), (119, x_aload 0 120), (120, x_iload 5 122), (122, x_aload 0 123), (123, x_getR 8 16 126), (126, x_iload 4 128), (128, x_iald 129), (129, x_inv 142 8 2 132), (132, x_ifeq 167 135), (135, x_aload 0 136), (136, x_getR 8 17 139), (139, x_iload 5 141), (141, x_aload 0 142), (142, x_getR 8 17 145), (145, x_aload 0 146)]
theorem o162_3 (scr : Nat × (Nat → Int32)) : ∀ q ∈ k162_3, XSnd xm scr Y162 q.1 q.2 := xcons (s_iald dX8_reach_106) (xcons (s_ifge dX8_reach_107 rfl) (xcons (s_aload_n rfl dX8_reach_110) (xcons (s_iload dX8_reach_111) (xcons (s_inv (mid := 140) xC8 cal_140 xw_490 xw_491 xw_492 dX8_reach_113) (xcons (s_ifeq dX8_reach_116 rfl) (xcons (s_aload_n rfl dX8_reach_119) (xcons (s_iload dX8_reach_120) (xcons (s_aload_n rfl dX8_reach_122) (xcons (s_getR (f := 16) xC8 (by decide) xw_603 rfl dX8_reach_123) (xcons (s_iload dX8_reach_126) (xcons (s_iald dX8_reach_128) (xcons (s_inv (mid := 142) xC8 cal_142 xw_652 xw_653 xw_654 dX8_reach_129) (xcons (s_ifeq dX8_reach_132 rfl) (xcons (s_aload_n rfl dX8_reach_135) (xcons (s_getR (f := 17) xC8 (by decide) xw_604 rfl dX8_reach_136) (xcons (s_iload dX8_reach_139) (xcons (s_aload_n rfl dX8_reach_141) (xcons (s_getR (f := 17) xC8 (by decide) xw_604 rfl dX8_reach_142) (xcons (s_aload_n rfl dX8_reach_145) (xnil))))))))))))))))))))
theorem dX8_reach_146 : decode cX8_reach 146 = .ok (.getfield 42, 3) := by decide +kernel
theorem dX8_reach_149 : decode cX8_reach 149 = .ok (.iload 4, 2) := by decide +kernel
theorem dX8_reach_151 : decode cX8_reach 151 = .ok (.iaload, 1) := by decide +kernel
theorem dX8_reach_152 : decode cX8_reach 152 = .ok (.iaload, 1) := by decide +kernel
theorem dX8_reach_153 : decode cX8_reach 153 = .ok (.iconst 1, 1) := by decide +kernel
theorem dX8_reach_154 : decode cX8_reach 154 = .ok (.iadd, 1) := by decide +kernel
theorem dX8_reach_155 : decode cX8_reach 155 = .ok (.iastore, 1) := by decide +kernel
theorem dX8_reach_156 : decode cX8_reach 156 = .ok (.aload_n 0, 1) := by decide +kernel
theorem dX8_reach_157 : decode cX8_reach 157 = .ok (.getfield 42, 3) := by decide +kernel
theorem dX8_reach_160 : decode cX8_reach 160 = .ok (.iload_n 3, 1) := by decide +kernel
theorem dX8_reach_161 : decode cX8_reach 161 = .ok (.iinc 3 1, 3) := by decide +kernel
theorem dX8_reach_164 : decode cX8_reach 164 = .ok (.iload 5, 2) := by decide +kernel
theorem dX8_reach_166 : decode cX8_reach 166 = .ok (.iastore, 1) := by decide +kernel
theorem dX8_reach_167 : decode cX8_reach 167 = .ok (.iinc 5 1, 3) := by decide +kernel
theorem dX8_reach_170 : decode cX8_reach 170 = .ok (.goto (-83), 3) := by decide +kernel
theorem dX8_reach_173 : decode cX8_reach 173 = .ok (.iinc 4 1, 3) := by decide +kernel
theorem dX8_reach_176 : decode cX8_reach 176 = .ok (.goto (-98), 3) := by decide +kernel
theorem dX8_reach_179 : decode cX8_reach 179 = .ok (.aload_n 0, 1) := by decide +kernel
theorem dX8_reach_180 : decode cX8_reach 180 = .ok (.getfield 45, 3) := by decide +kernel
theorem dX8_reach_183 : decode cX8_reach 183 = .ok (.iload_n 2, 1) := by decide +kernel
def k162_4 : List (Nat × XI) := [(146, x_getR 8 16 149), (149, x_iload 4 151), (151, x_iald 152), (152, x_iald 153), (153, x_push (1) 154), (154, x_iadd 155), (155, x_iast 156), (156, x_aload 0 157), (157, x_getR 8 16 160), (160, x_iload 3 161), (161, x_iinc 3 (1) 164), (164, x_iload 5 166), (166, x_iast 167), (167, x_iinc 5 (1) 170), (170, x_goto 87), (173, x_iinc 4 (1) 176), (176, x_goto 78), (179, x_aload 0 180), (180, x_getR 8 17 183), (183, x_iload 2 184)]
theorem o162_4 (scr : Nat × (Nat → Int32)) : ∀ q ∈ k162_4, XSnd xm scr Y162 q.1 q.2 := xcons (s_getR (f := 16) xC8 (by decide) xw_603 rfl dX8_reach_146) (xcons (s_iload dX8_reach_149) (xcons (s_iald dX8_reach_151) (xcons (s_iald dX8_reach_152) (xcons (s_iconst dX8_reach_153 rfl) (xcons (s_iadd dX8_reach_154) (xcons (s_iast dX8_reach_155) (xcons (s_aload_n rfl dX8_reach_156) (xcons (s_getR (f := 16) xC8 (by decide) xw_603 rfl dX8_reach_157) (xcons (s_iload_n rfl dX8_reach_160) (xcons (s_iinc dX8_reach_161 rfl (by decide)) (xcons (s_iload dX8_reach_164) (xcons (s_iast dX8_reach_166) (xcons (s_iinc dX8_reach_167 rfl (by decide)) (xcons (s_goto dX8_reach_170 rfl) (xcons (s_iinc dX8_reach_173 rfl (by decide)) (xcons (s_goto dX8_reach_176 rfl) (xcons (s_aload_n rfl dX8_reach_179) (xcons (s_getR (f := 17) xC8 (by decide) xw_604 rfl dX8_reach_180) (xcons (s_iload_n rfl dX8_reach_183) (xnil))))))))))))))))))))
theorem dX8_reach_184 : decode cX8_reach 184 = .ok (.iaload, 1) := by decide +kernel
theorem dX8_reach_185 : decode cX8_reach 185 = .ok (.ireturn, 1) := by decide +kernel
def k162_5 : List (Nat × XI) := [(184, x_iald 185), (185, x_iret)]
theorem o162_5 (scr : Nat × (Nat → Int32)) : ∀ q ∈ k162_5, XSnd xm scr Y162 q.1 q.2 := xcons (s_iald dX8_reach_184) (xcons (s_iret dX8_reach_185 rfl) (xnil))
def k162 (pc : Nat) : XI := if pc < 106 then if pc < 37 then xlk k162_0 pc else if pc < 71 then xlk k162_1 pc else xlk k162_2 pc else if pc < 146 then xlk k162_3 pc else if pc < 184 then xlk k162_4 pc else xlk k162_5 pc
theorem o162 (scr : Nat × (Nat → Int32)) (pc : Nat) : XSnd xm scr Y162 pc (k162 pc) := by
  unfold k162
  exact xite (xite (xlk_ok (o162_0 scr) pc) (xite (xlk_ok (o162_1 scr) pc) (xlk_ok (o162_2 scr) pc))) (xite (xlk_ok (o162_3 scr) pc) (xite (xlk_ok (o162_4 scr) pc) (xlk_ok (o162_5 scr) pc)))
theorem dX8_restarts_0 : decode cX8_restarts 0 = .ok (.aload_n 0, 1) := by decide +kernel
theorem dX8_restarts_1 : decode cX8_restarts 1 = .ok (.iload_n 1, 1) := by decide +kernel
theorem dX8_restarts_2 : decode cX8_restarts 2 = .ok (.invokevirtual 75, 3) := by decide +kernel
theorem dX8_restarts_5 : decode cX8_restarts 5 = .ok (.aload_n 0, 1) := by decide +kernel
theorem dX8_restarts_6 : decode cX8_restarts 6 = .ok (.iload_n 1, 1) := by decide +kernel
theorem dX8_restarts_7 : decode cX8_restarts 7 = .ok (.bipush 6, 2) := by decide +kernel
theorem dX8_restarts_9 : decode cX8_restarts 9 = .ok (.iconst 0, 1) := by decide +kernel
theorem dX8_restarts_10 : decode cX8_restarts 10 = .ok (.invokevirtual 63, 3) := by decide +kernel
theorem dX8_restarts_13 : decode cX8_restarts 13 = .ok (.aload_n 0, 1) := by decide +kernel
theorem dX8_restarts_14 : decode cX8_restarts 14 = .ok (.iload_n 1, 1) := by decide +kernel
theorem dX8_restarts_15 : decode cX8_restarts 15 = .ok (.invokevirtual 78, 3) := by decide +kernel
theorem dX8_restarts_18 : decode cX8_restarts 18 = .ok (.aload_n 0, 1) := by decide +kernel
theorem dX8_restarts_19 : decode cX8_restarts 19 = .ok (.iload_n 1, 1) := by decide +kernel
theorem dX8_restarts_20 : decode cX8_restarts 20 = .ok (.invokevirtual 87, 3) := by decide +kernel
theorem dX8_restarts_23 : decode cX8_restarts 23 = .ok (.aload_n 0, 1) := by decide +kernel
theorem dX8_restarts_24 : decode cX8_restarts 24 = .ok (.dup, 1) := by decide +kernel
theorem dX8_restarts_25 : decode cX8_restarts 25 = .ok (.getfield 90, 3) := by decide +kernel
theorem dX8_restarts_28 : decode cX8_restarts 28 = .ok (.iconst 1, 1) := by decide +kernel
theorem dX8_restarts_29 : decode cX8_restarts 29 = .ok (.iload_n 1, 1) := by decide +kernel
theorem dX8_restarts_30 : decode cX8_restarts 30 = .ok (.ishl, 1) := by decide +kernel
def k163_0 : List (Nat × XI) := [(0, x_aload 0 1), (1, x_iload 1 2), (2, x_inv 177 8 1 5), (5, x_aload 0 6), (6, x_iload 1 7), (7, x_push (6) 9), (9, x_push (0) 10), (10, x_inv 172 8 3 13), (13, x_aload 0 14), (14, x_iload 1 15), (15, x_inv 129 8 1 18), (18, x_aload 0 19), (19, x_iload 1 20), (20, x_inv 115 8 1 23), (23, x_aload 0 24), (24, x_dup 25), (25, x_getI 8 6 28), (28, x_push (1) 29), (29, x_iload 1 30), (30, x_ishl 31)]
theorem o163_0 (scr : Nat × (Nat → Int32)) : ∀ q ∈ k163_0, XSnd xm scr Y163 q.1 q.2 := xcons (s_aload_n rfl dX8_restarts_0) (xcons (s_iload_n rfl dX8_restarts_1) (xcons (s_inv (mid := 177) xC8 cal_177 xw_656 xw_657 xw_658 dX8_restarts_2) (xcons (s_aload_n rfl dX8_restarts_5) (xcons (s_iload_n rfl dX8_restarts_6) (xcons (s_bipush dX8_restarts_7 rfl) (xcons (s_iconst dX8_restarts_9 rfl) (xcons (s_inv (mid := 172) xC8 cal_172 xw_472 xw_473 xw_474 dX8_restarts_10) (xcons (s_aload_n rfl dX8_restarts_13) (xcons (s_iload_n rfl dX8_restarts_14) (xcons (s_inv (mid := 129) xC8 cal_129 xw_660 xw_661 xw_662 dX8_restarts_15) (xcons (s_aload_n rfl dX8_restarts_18) (xcons (s_iload_n rfl dX8_restarts_19) (xcons (s_inv (mid := 115) xC8 cal_115 xw_595 xw_596 xw_597 dX8_restarts_20) (xcons (s_aload_n rfl dX8_restarts_23) (xcons (s_dup dX8_restarts_24) (xcons (s_getI (f := 6) xC8 (by decide) xw_499 rfl dX8_restarts_25) (xcons (s_iconst dX8_restarts_28 rfl) (xcons (s_iload_n rfl dX8_restarts_29) (xcons (s_ishl dX8_restarts_30) (xnil))))))))))))))))))))
theorem dX8_restarts_31 : decode cX8_restarts 31 = .ok (.ior, 1) := by decide +kernel
theorem dX8_restarts_32 : decode cX8_restarts 32 = .ok (.putfield 90, 3) := by decide +kernel
theorem dX8_restarts_35 : decode cX8_restarts 35 = .ok (.return_, 1) := by decide +kernel
def k163_1 : List (Nat × XI) := [(31, x_ior 32), (32, x_putI 8 6 35), (35, x_ret)]
theorem o163_1 (scr : Nat × (Nat → Int32)) : ∀ q ∈ k163_1, XSnd xm scr Y163 q.1 q.2 := xcons (s_ior dX8_restarts_31) (xcons (s_putI (f := 6) xC8 (by decide) xw_499 rfl (Or.inl rfl) dX8_restarts_32) (xcons (s_ret dX8_restarts_35 rfl) (xnil)))
def k163 (pc : Nat) : XI := if pc < 31 then xlk k163_0 pc else xlk k163_1 pc
theorem o163 (scr : Nat × (Nat → Int32)) (pc : Nat) : XSnd xm scr Y163 pc (k163 pc) := by
  unfold k163
  exact xite (xlk_ok (o163_0 scr) pc) (xlk_ok (o163_1 scr) pc)
theorem dX8_row_0 : decode cX8_row 0 = .ok (.aload_n 0, 1) := by decide +kernel
theorem dX8_row_1 : decode cX8_row 1 = .ok (.iload_n 1, 1) := by decide +kernel
theorem dX8_row_2 : decode cX8_row 2 = .ok (.invokevirtual 242, 3) := by decide +kernel
theorem dX8_row_5 : decode cX8_row 5 = .ok (.ifCond .eq 9, 3) := by decide +kernel
theorem dX8_row_8 : decode cX8_row 8 = .ok (.iload_n 2, 1) := by decide +kernel
theorem dX8_row_9 : decode cX8_row 9 = .ok (.bipush 60, 2) := by decide +kernel
theorem dX8_row_11 : decode cX8_row 11 = .ok (.if_icmp .le 5, 3) := by decide +kernel
theorem dX8_row_14 : decode cX8_row 14 = .ok (.iconst (-1), 1) := by decide +kernel
theorem dX8_row_15 : decode cX8_row 15 = .ok (.ireturn, 1) := by decide +kernel
theorem dX8_row_16 : decode cX8_row 16 = .ok (.iload_n 2, 1) := by decide +kernel
theorem dX8_row_17 : decode cX8_row 17 = .ok (.ifCond .ge 6, 3) := by decide +kernel
theorem dX8_row_20 : decode cX8_row 20 = .ok (.bipush (-14), 2) := by decide +kernel
theorem dX8_row_22 : decode cX8_row 22 = .ok (.ireturn, 1) := by decide +kernel
theorem dX8_row_23 : decode cX8_row 23 = .ok (.aload_n 0, 1) := by decide +kernel
theorem dX8_row_24 : decode cX8_row 24 = .ok (.getfield 28, 3) := by decide +kernel
theorem dX8_row_27 : decode cX8_row 27 = .ok (.iload_n 1, 1) := by decide +kernel
theorem dX8_row_28 : decode cX8_row 28 = .ok (.iconst 2, 1) := by decide +kernel
theorem dX8_row_29 : decode cX8_row 29 = .ok (.iastore, 1) := by decide +kernel
theorem dX8_row_30 : decode cX8_row 30 = .ok (.aload_n 0, 1) := by decide +kernel
theorem dX8_row_31 : decode cX8_row 31 = .ok (.getfield 34, 3) := by decide +kernel
def k164_0 : List (Nat × XI) := [(0, x_aload 0 1), (1, x_iload 1 2), (2, x_inv 139 8 1 5), (5, x_ifeq 14 8), (8, x_iload 2 9), (9, x_push (60) 11), (11, x_icle 16 14), (14, x_push (-1) 15), (15, x_iret), (16, x_iload 2 17), (17, x_ifge 23 20), (20, x_push (-14) 22), (22, x_iret), (23, x_aload 0 24), (24, x_getR 8 12 27), (27, x_iload 1 28), (28, x_push (2) 29), (29, x_iast 30), (30, x_aload 0 31), (31, x_getR 8 14 34)]
theorem o164_0 (scr : Nat × (Nat → Int32)) : ∀ q ∈ k164_0, XSnd xm scr Y164 q.1 q.2 := xcons (s_aload_n rfl dX8_row_0) (xcons (s_iload_n rfl dX8_row_1) (xcons (s_inv (mid := 139) xC8 cal_139 xw_591 xw_592 xw_593 dX8_row_2) (xcons (s_ifeq dX8_row_5 rfl) (xcons (s_iload_n rfl dX8_row_8) (xcons (s_bipush dX8_row_9 rfl) (xcons (s_icle dX8_row_11 rfl) (xcons (s_iconst dX8_row_14 rfl) (xcons (s_iret dX8_row_15 rfl) (xcons (s_iload_n rfl dX8_row_16) (xcons (s_ifge dX8_row_17 rfl) (xcons (s_bipush dX8_row_20 rfl) (xcons (s_iret dX8_row_22 rfl) (xcons (s_aload_n rfl dX8_row_23) (xcons (s_getR (f := 12) xC8 (by decide) xw_480 rfl dX8_row_24) (xcons (s_iload_n rfl dX8_row_27) (xcons (s_iconst dX8_row_28 rfl) (xcons (s_iast dX8_row_29) (xcons (s_aload_n rfl dX8_row_30) (xcons (s_getR (f := 14) xC8 (by decide) xw_600 rfl dX8_row_31) (xnil))))))))))))))))))))
theorem dX8_row_34 : decode cX8_row 34 = .ok (.iload_n 1, 1) := by decide +kernel
theorem dX8_row_35 : decode cX8_row 35 = .ok (.iload_n 2, 1) := by decide +kernel
theorem dX8_row_36 : decode cX8_row 36 = .ok (.iastore, 1) := by decide +kernel
theorem dX8_row_37 : decode cX8_row 37 = .ok (.iconst 0, 1) := by decide +kernel
theorem dX8_row_38 : decode cX8_row 38 = .ok (.istore_n 3, 1) := by decide +kernel
theorem dX8_row_39 : decode cX8_row 39 = .ok (.iload_n 3, 1) := by decide +kernel
theorem dX8_row_40 : decode cX8_row 40 = .ok (.bipush 60, 2) := by decide +kernel
theorem dX8_row_42 : decode cX8_row 42 = .ok (.if_icmp .ge 18, 3) := by decide +kernel
theorem dX8_row_45 : decode cX8_row 45 = .ok (.aload_n 0, 1) := by decide +kernel
theorem dX8_row_46 : decode cX8_row 46 = .ok (.getfield 39, 3) := by decide +kernel
theorem dX8_row_49 : decode cX8_row 49 = .ok (.iload_n 1, 1) := by decide +kernel
theorem dX8_row_50 : decode cX8_row 50 = .ok (.aaload, 1) := by decide +kernel
theorem dX8_row_51 : decode cX8_row 51 = .ok (.iload_n 3, 1) := by decide +kernel
theorem dX8_row_52 : decode cX8_row 52 = .ok (.iconst 0, 1) := by decide +kernel
theorem dX8_row_53 : decode cX8_row 53 = .ok (.iastore, 1) := by decide +kernel
theorem dX8_row_54 : decode cX8_row 54 = .ok (.iinc 3 1, 3) := by decide +kernel
theorem dX8_row_57 : decode cX8_row 57 = .ok (.goto (-18), 3) := by decide +kernel
theorem dX8_row_60 : decode cX8_row 60 = .ok (.iconst 1, 1) := by decide +kernel
theorem dX8_row_61 : decode cX8_row 61 = .ok (.ireturn, 1) := by decide +kernel
def k164_1 : List (Nat × XI) := [(34, x_iload 1 35), (35, x_iload 2 36), (36, x_iast 37), (37, x_push (0) 38), (38, x_istore 3 39), (39, x_iload 3 40), (40, x_push (60) 42), (42, x_icge 60 45), (45, x_aload 0 46), (46, x_getR 8 15 49), (49, x_iload 1 50), (50, x_aald 51), (51, x_iload 3 52), (52, x_push (0) 53), (53, x_iast 54), (54, x_iinc 3 (1) 57), (57, x_goto 39), (60, x_push (1) 61), (61, x_iret)]
theorem o164_1 (scr : Nat × (Nat → Int32)) : ∀ q ∈ k164_1, XSnd xm scr Y164 q.1 q.2 := xcons (s_iload_n rfl dX8_row_34) (xcons (s_iload_n rfl dX8_row_35) (xcons (s_iast dX8_row_36) (xcons (s_iconst dX8_row_37 rfl) (xcons (s_istore_n rfl dX8_row_38 (by decide)) (xcons (s_iload_n rfl dX8_row_39) (xcons (s_bipush dX8_row_40 rfl) (xcons (s_icge dX8_row_42 rfl) (xcons (s_aload_n rfl dX8_row_45) (xcons (s_getR (f := 15) xC8 (by decide) xw_602 rfl dX8_row_46) (xcons (s_iload_n rfl dX8_row_49) (xcons (s_aald dX8_row_50) (xcons (s_iload_n rfl dX8_row_51) (xcons (s_iconst dX8_row_52 rfl) (xcons (s_iast dX8_row_53) (xcons (s_iinc dX8_row_54 rfl (by decide)) (xcons (s_goto dX8_row_57 rfl) (xcons (s_iconst dX8_row_60 rfl) (xcons (s_iret dX8_row_61 rfl) (xnil)))))))))))))))))))
def k164 (pc : Nat) : XI := if pc < 34 then xlk k164_0 pc else xlk k164_1 pc
theorem o164 (scr : Nat × (Nat → Int32)) (pc : Nat) : XSnd xm scr Y164 pc (k164 pc) := by
  unfold k164
  exact xite (xlk_ok (o164_0 scr) pc) (xlk_ok (o164_1 scr) pc)
theorem dX8_run_0 : decode cX8_run 0 = .ok (.iload_n 1, 1) := by decide +kernel
theorem dX8_run_1 : decode cX8_run 1 = .ok (.iconst 1, 1) := by decide +kernel
theorem dX8_run_2 : decode cX8_run 2 = .ok (.sipush 200, 3) := by decide +kernel
theorem dX8_run_5 : decode cX8_run 5 = .ok (.invokestatic 51, 3) := by decide +kernel
theorem dX8_run_8 : decode cX8_run 8 = .ok (.ifCond .ne 5, 3) := by decide +kernel
theorem dX8_run_11 : decode cX8_run 11 = .ok (.iconst (-1), 1) := by decide +kernel
theorem dX8_run_12 : decode cX8_run 12 = .ok (.ireturn, 1) := by decide +kernel
theorem dX8_run_13 : decode cX8_run 13 = .ok (.aload_n 0, 1) := by decide +kernel
theorem dX8_run_14 : decode cX8_run 14 = .ok (.iload_n 1, 1) := by decide +kernel
theorem dX8_run_15 : decode cX8_run 15 = .ok (.invokevirtual 197, 3) := by decide +kernel
theorem dX8_run_18 : decode cX8_run 18 = .ok (.istore_n 2, 1) := by decide +kernel
theorem dX8_run_19 : decode cX8_run 19 = .ok (.aload_n 0, 1) := by decide +kernel
theorem dX8_run_20 : decode cX8_run 20 = .ok (.getfield 9, 3) := by decide +kernel
theorem dX8_run_23 : decode cX8_run 23 = .ok (.sipush 930, 3) := by decide +kernel
theorem dX8_run_26 : decode cX8_run 26 = .ok (.aload_n 0, 1) := by decide +kernel
theorem dX8_run_27 : decode cX8_run 27 = .ok (.getfield 158, 3) := by decide +kernel
theorem dX8_run_30 : decode cX8_run 30 = .ok (.iastore, 1) := by decide +kernel
theorem dX8_run_31 : decode cX8_run 31 = .ok (.iload_n 2, 1) := by decide +kernel
theorem dX8_run_32 : decode cX8_run 32 = .ok (.ireturn, 1) := by decide +kernel
def k165_0 : List (Nat × XI) := [(0, x_iload 1 1), (1, x_push (1) 2), (2, x_push (200) 5), (5, x_invS 134 3 8), (8, x_ifne 13 11), (11, x_push (-1) 12), (12, x_iret), (13, x_aload 0 14), (14, x_iload 1 15), (15, x_inv 166 8 1 18), (18, x_istore 2 19), (19, x_aload 0 20), (20, x_getR 8 0 23), (23, x_push (930) 26), (26, x_aload 0 27), (27, x_getI 8 18 30), (30, x_iast 31), (31, x_iload 2 32), (32, x_iret)]
theorem o165_0 (scr : Nat × (Nat → Int32)) : ∀ q ∈ k165_0, XSnd xm scr Y165 q.1 q.2 := xcons (s_iload_n rfl dX8_run_0) (xcons (s_iconst dX8_run_1 rfl) (xcons (s_sipush dX8_run_2 rfl) (xcons (s_invS (mid := 134) cal_134 xw_487 xw_488 dX8_run_5) (xcons (s_ifne dX8_run_8 rfl) (xcons (s_iconst dX8_run_11 rfl) (xcons (s_iret dX8_run_12 rfl) (xcons (s_aload_n rfl dX8_run_13) (xcons (s_iload_n rfl dX8_run_14) (xcons (s_inv (mid := 166) xC8 cal_166 xw_558 xw_559 xw_560 dX8_run_15) (xcons (s_istore_n rfl dX8_run_18 (by decide)) (xcons (s_aload_n rfl dX8_run_19) (xcons (s_getR (f := 0) xC8 (by decide) xw_470 rfl dX8_run_20) (xcons (s_sipush dX8_run_23 rfl) (xcons (s_aload_n rfl dX8_run_26) (xcons (s_getI (f := 18) xC8 (by decide) xw_561 rfl dX8_run_27) (xcons (s_iast dX8_run_30) (xcons (s_iload_n rfl dX8_run_31) (xcons (s_iret dX8_run_32 rfl) (xnil)))))))))))))))))))
def k165 (pc : Nat) : XI := xlk k165_0 pc
theorem o165 (scr : Nat × (Nat → Int32)) (pc : Nat) : XSnd xm scr Y165 pc (k165 pc) := by
  unfold k165
  exact xlk_ok (o165_0 scr) pc
theorem dX8_runs_0 : decode cX8_runs 0 = .ok (.iconst 0, 1) := by decide +kernel
theorem dX8_runs_1 : decode cX8_runs 1 = .ok (.istore_n 2, 1) := by decide +kernel
theorem dX8_runs_2 : decode cX8_runs 2 = .ok (.aload_n 0, 1) := by decide +kernel
theorem dX8_runs_3 : decode cX8_runs 3 = .ok (.iload_n 2, 1) := by decide +kernel
theorem dX8_runs_4 : decode cX8_runs 4 = .ok (.iload_n 1, 1) := by decide +kernel
theorem dX8_runs_5 : decode cX8_runs 5 = .ok (.invokevirtual 161, 3) := by decide +kernel
theorem dX8_runs_8 : decode cX8_runs 8 = .ok (.ifCond .ne 13, 3) := by decide +kernel
theorem dX8_runs_11 : decode cX8_runs 11 = .ok (.aload_n 0, 1) := by decide +kernel
theorem dX8_runs_12 : decode cX8_runs 12 = .ok (.invokevirtual 164, 3) := by decide +kernel
theorem dX8_runs_15 : decode cX8_runs 15 = .ok (.iinc 2 1, 3) := by decide +kernel
theorem dX8_runs_18 : decode cX8_runs 18 = .ok (.goto (-16), 3) := by decide +kernel
theorem dX8_runs_21 : decode cX8_runs 21 = .ok (.iload_n 2, 1) := by decide +kernel
theorem dX8_runs_22 : decode cX8_runs 22 = .ok (.ireturn, 1) := by decide +kernel
def k166_0 : List (Nat × XI) := [(0, x_push (0) 1), (1, x_istore 2 2), (2, x_aload 0 3), (3, x_iload 2 4), (4, x_iload 1 5), (5, x_inv 137 8 2 8), (8, x_ifne 21 11), (11, x_aload 0 12), (12, x_inv 174 8 0 15), (15, x_iinc 2 (1) 18), (18, x_goto 2), (21, x_iload 2 22), (22, x_iret)]
theorem o166_0 (scr : Nat × (Nat → Int32)) : ∀ q ∈ k166_0, XSnd xm scr Y166 q.1 q.2 := xcons (s_iconst dX8_runs_0 rfl) (xcons (s_istore_n rfl dX8_runs_1 (by decide)) (xcons (s_aload_n rfl dX8_runs_2) (xcons (s_iload_n rfl dX8_runs_3) (xcons (s_iload_n rfl dX8_runs_4) (xcons (s_inv (mid := 137) xC8 cal_137 xw_579 xw_580 xw_581 dX8_runs_5) (xcons (s_ifne dX8_runs_8 rfl) (xcons (s_aload_n rfl dX8_runs_11) (xcons (s_inv (mid := 174) xC8 cal_174 xw_583 xw_584 xw_585 dX8_runs_12) (xcons (s_iinc dX8_runs_15 rfl (by decide)) (xcons (s_goto dX8_runs_18 rfl) (xcons (s_iload_n rfl dX8_runs_21) (xcons (s_iret dX8_runs_22 rfl) (xnil)))))))))))))
def k166 (pc : Nat) : XI := xlk k166_0 pc
theorem o166 (scr : Nat × (Nat → Int32)) (pc : Nat) : XSnd xm scr Y166 pc (k166 pc) := by
  unfold k166
  exact xlk_ok (o166_0 scr) pc
theorem dX8_script_0 : decode cX8_script 0 = .ok (.aload_n 0, 1) := by decide +kernel
theorem dX8_script_1 : decode cX8_script 1 = .ok (.invokevirtual 235, 3) := by decide +kernel
theorem dX8_script_4 : decode cX8_script 4 = .ok (.ifCond .ne 17, 3) := by decide +kernel
theorem dX8_script_7 : decode cX8_script 7 = .ok (.aload_n 0, 1) := by decide +kernel
theorem dX8_script_8 : decode cX8_script 8 = .ok (.iconst 0, 1) := by decide +kernel
theorem dX8_script_9 : decode cX8_script 9 = .ok (.putfield 207, 3) := by decide +kernel
theorem dX8_script_12 : decode cX8_script 12 = .ok (.sipush (-1000), 3) := by decide +kernel
theorem dX8_script_15 : decode cX8_script 15 = .ok (.aload_n 0, 1) := by decide +kernel
theorem dX8_script_16 : decode cX8_script 16 = .ok (.getfield 210, 3) := by decide +kernel
theorem dX8_script_19 : decode cX8_script 19 = .ok (.isub, 1) := by decide +kernel
theorem dX8_script_20 : decode cX8_script 20 = .ok (.ireturn, 1) := by decide +kernel
theorem dX8_script_21 : decode cX8_script 21 = .ok (.aload_n 0, 1) := by decide +kernel
theorem dX8_script_22 : decode cX8_script 22 = .ok (.getfield 9, 3) := by decide +kernel
theorem dX8_script_25 : decode cX8_script 25 = .ok (.aload_n 0, 1) := by decide +kernel
theorem dX8_script_26 : decode cX8_script 26 = .ok (.getfield 16, 3) := by decide +kernel
theorem dX8_script_29 : decode cX8_script 29 = .ok (.invokestatic 200, 3) := by decide +kernel
theorem dX8_script_32 : decode cX8_script 32 = .ok (.aload_n 0, 1) := by decide +kernel
theorem dX8_script_33 : decode cX8_script 33 = .ok (.iconst 0, 1) := by decide +kernel
theorem dX8_script_34 : decode cX8_script 34 = .ok (.putfield 213, 3) := by decide +kernel
theorem dX8_script_37 : decode cX8_script 37 = .ok (.iconst 0, 1) := by decide +kernel
def k167_0 : List (Nat × XI) := [(0, x_aload 0 1), (1, x_inv 138 8 0 4), (4, x_ifne 21 7), (7, x_aload 0 8), (8, x_push (0) 9), (9, x_putI 8 11 12), (12, x_push (-1000) 15), (15, x_aload 0 16), (16, x_getI 8 20 19), (19, x_isub 20), (20, x_iret), (21, x_aload 0 22), (22, x_getR 8 0 25), (25, x_aload 0 26), (26, x_getR 8 2 29), (29, x_invS 179 2 32), (32, x_aload 0 33), (33, x_push (0) 34), (34, x_putI 8 19 37), (37, x_push (0) 38)]
theorem o167_0 (scr : Nat × (Nat → Int32)) : ∀ q ∈ k167_0, XSnd xm scr Y167 q.1 q.2 := xcons (s_aload_n rfl dX8_script_0) (xcons (s_inv (mid := 138) xC8 cal_138 xw_664 xw_665 xw_666 dX8_script_1) (xcons (s_ifne dX8_script_4 rfl) (xcons (s_aload_n rfl dX8_script_7) (xcons (s_iconst dX8_script_8 rfl) (xcons (s_putI (f := 11) xC8 (by decide) xw_514 rfl (Or.inl rfl) dX8_script_9) (xcons (s_sipush dX8_script_12 rfl) (xcons (s_aload_n rfl dX8_script_15) (xcons (s_getI (f := 20) xC8 (by decide) xw_610 rfl dX8_script_16) (xcons (s_isub dX8_script_19) (xcons (s_iret dX8_script_20 rfl) (xcons (s_aload_n rfl dX8_script_21) (xcons (s_getR (f := 0) xC8 (by decide) xw_470 rfl dX8_script_22) (xcons (s_aload_n rfl dX8_script_25) (xcons (s_getR (f := 2) xC8 (by decide) xw_599 rfl dX8_script_26) (xcons (s_invS (mid := 179) cal_179 xw_478 xw_479 dX8_script_29) (xcons (s_aload_n rfl dX8_script_32) (xcons (s_iconst dX8_script_33 rfl) (xcons (s_putI (f := 19) xC8 (by decide) xw_609 rfl (Or.inl rfl) dX8_script_34) (xcons (s_iconst dX8_script_37 rfl) (xnil))))))))))))))))))))
theorem dX8_script_38 : decode cX8_script 38 = .ok (.istore_n 1, 1) := by decide +kernel
theorem dX8_script_39 : decode cX8_script 39 = .ok (.iconst 1, 1) := by decide +kernel
theorem dX8_script_40 : decode cX8_script 40 = .ok (.istore_n 2, 1) := by decide +kernel
theorem dX8_script_41 : decode cX8_script 41 = .ok (.iload_n 2, 1) := by decide +kernel
theorem dX8_script_42 : decode cX8_script 42 = .ok (.ifCond .eq 47, 3) := by decide +kernel
theorem dX8_script_45 : decode cX8_script 45 = .ok (.aload_n 0, 1) := by decide +kernel
theorem dX8_script_46 : decode cX8_script 46 = .ok (.getfield 213, 3) := by decide +kernel
theorem dX8_script_49 : decode cX8_script 49 = .ok (.aload_n 0, 1) := by decide +kernel
theorem dX8_script_50 : decode cX8_script 50 = .ok (.getfield 207, 3) := by decide +kernel
theorem dX8_script_53 : decode cX8_script 53 = .ok (.if_icmp .ge 36, 3) := by decide +kernel
theorem dX8_script_56 : decode cX8_script 56 = .ok (.aload_n 0, 1) := by decide +kernel
theorem dX8_script_57 : decode cX8_script 57 = .ok (.dup, 1) := by decide +kernel
theorem dX8_script_58 : decode cX8_script 58 = .ok (.getfield 213, 3) := by decide +kernel
theorem dX8_script_61 : decode cX8_script 61 = .ok (.iload_n 1, 1) := by decide +kernel
theorem dX8_script_62 : decode cX8_script 62 = .ok (.ifCond .le 7, 3) := by decide +kernel
theorem dX8_script_65 : decode cX8_script 65 = .ok (.iconst 1, 1) := by decide +kernel
theorem dX8_script_66 : decode cX8_script 66 = .ok (.goto 4, 3) := by decide +kernel
theorem dX8_script_69 : decode cX8_script 69 = .ok (.iconst 0, 1) := by decide +kernel
theorem dX8_script_70 : decode cX8_script 70 = .ok (.iadd, 1) := by decide +kernel
theorem dX8_script_71 : decode cX8_script 71 = .ok (.putfield 213, 3) := by decide +kernel
def k167_1 : List (Nat × XI) := [(38, x_istore 1 39), (39, x_push (1) 40), (40, x_istore 2 41), (41, x_iload 2 42), (42, x_ifeq 89 45), (45, x_aload 0 46), (46, x_getI 8 19 49), (49, x_aload 0 50), (50, x_getI 8 11 53), (53, x_icge 89 56), (56, x_aload 0 57), (57, x_dup 58), (58, x_getI 8 19 61), (61, x_iload 1 62), (62, x_ifle 69 65), (65, x_push (1) 66), (66, x_goto 70), (69, x_push (0) 70), (70, x_iadd 71), (71, x_putI 8 19 74)]
theorem o167_1 (scr : Nat × (Nat → Int32)) : ∀ q ∈ k167_1, XSnd xm scr Y167 q.1 q.2 := xcons (s_istore_n rfl dX8_script_38 (by decide)) (xcons (s_iconst dX8_script_39 rfl) (xcons (s_istore_n rfl dX8_script_40 (by decide)) (xcons (s_iload_n rfl dX8_script_41) (xcons (s_ifeq dX8_script_42 rfl) (xcons (s_aload_n rfl dX8_script_45) (xcons (s_getI (f := 19) xC8 (by decide) xw_609 rfl dX8_script_46) (xcons (s_aload_n rfl dX8_script_49) (xcons (s_getI (f := 11) xC8 (by decide) xw_514 rfl dX8_script_50) (xcons (s_icge dX8_script_53 rfl) (xcons (s_aload_n rfl dX8_script_56) (xcons (s_dup dX8_script_57) (xcons (s_getI (f := 19) xC8 (by decide) xw_609 rfl dX8_script_58) (xcons (s_iload_n rfl dX8_script_61) (xcons (s_ifle dX8_script_62 rfl) (xcons (s_iconst dX8_script_65 rfl) (xcons (s_goto dX8_script_66 rfl) (xcons (s_iconst dX8_script_69 rfl) (xcons (s_iadd dX8_script_70) (xcons (s_putI (f := 19) xC8 (by decide) xw_609 rfl (Or.inl rfl) dX8_script_71) (xnil))))))))))))))))))))
theorem dX8_script_74 : decode cX8_script 74 = .ok (.aload_n 0, 1) := by decide +kernel
theorem dX8_script_75 : decode cX8_script 75 = .ok (.aload_n 0, 1) := by decide +kernel
theorem dX8_script_76 : decode cX8_script 76 = .ok (.invokevirtual 226, 3) := by decide +kernel
theorem dX8_script_79 : decode cX8_script 79 = .ok (.invokevirtual 238, 3) := by decide +kernel
theorem dX8_script_82 : decode cX8_script 82 = .ok (.istore_n 2, 1) := by decide +kernel
theorem dX8_script_83 : decode cX8_script 83 = .ok (.iinc 1 1, 3) := by decide +kernel
theorem dX8_script_86 : decode cX8_script 86 = .ok (.goto (-45), 3) := by decide +kernel
theorem dX8_script_89 : decode cX8_script 89 = .ok (.aload_n 0, 1) := by decide +kernel
theorem dX8_script_90 : decode cX8_script 90 = .ok (.iconst 0, 1) := by decide +kernel
theorem dX8_script_91 : decode cX8_script 91 = .ok (.putfield 207, 3) := by decide +kernel
theorem dX8_script_94 : decode cX8_script 94 = .ok (.iload_n 2, 1) := by decide +kernel
theorem dX8_script_95 : decode cX8_script 95 = .ok (.ifCond .ne 22, 3) := by decide +kernel
theorem dX8_script_98 : decode cX8_script 98 = .ok (.aload_n 0, 1) := by decide +kernel
theorem dX8_script_99 : decode cX8_script 99 = .ok (.getfield 16, 3) := by decide +kernel
theorem dX8_script_102 : decode cX8_script 102 = .ok (.aload_n 0, 1) := by decide +kernel
theorem dX8_script_103 : decode cX8_script 103 = .ok (.getfield 9, 3) := by decide +kernel
theorem dX8_script_106 : decode cX8_script 106 = .ok (.invokestatic 200, 3) := by decide +kernel
theorem dX8_script_109 : decode cX8_script 109 = .ok (.sipush (-2000), 3) := by decide +kernel
theorem dX8_script_112 : decode cX8_script 112 = .ok (.iload_n 1, 1) := by decide +kernel
theorem dX8_script_113 : decode cX8_script 113 = .ok (.iconst 1, 1) := by decide +kernel
def k167_2 : List (Nat × XI) := [(74, x_aload 0 75), (75, x_aload 0 76), (76, x_inv 146 8 0 79), (79, x_inv 120 8 1 82), (82, x_istore 2 83), (83, x_iinc 1 (1) 86), (86, x_goto 41), (89, x_aload 0 90), (90, x_push (0) 91), (91, x_putI 8 11 94), (94, x_iload 2 95), (95, x_ifne 117 98), (98, x_aload 0 99), (99, x_getR 8 2 102), (102, x_aload 0 103), (103, x_getR 8 0 106), (106, x_invS 179 2 109), (109, x_push (-2000) 112), (112, x_iload 1 113), (113, x_push (1) 114)]
theorem o167_2 (scr : Nat × (Nat → Int32)) : ∀ q ∈ k167_2, XSnd xm scr Y167 q.1 q.2 := xcons (s_aload_n rfl dX8_script_74) (xcons (s_aload_n rfl dX8_script_75) (xcons (s_inv (mid := 146) xC8 cal_146 xw_612 xw_613 xw_614 dX8_script_76) (xcons (s_inv (mid := 120) xC8 cal_120 xw_668 xw_669 xw_670 dX8_script_79) (xcons (s_istore_n rfl dX8_script_82 (by decide)) (xcons (s_iinc dX8_script_83 rfl (by decide)) (xcons (s_goto dX8_script_86 rfl) (xcons (s_aload_n rfl dX8_script_89) (xcons (s_iconst dX8_script_90 rfl) (xcons (s_putI (f := 11) xC8 (by decide) xw_514 rfl (Or.inl rfl) dX8_script_91) (xcons (s_iload_n rfl dX8_script_94) (xcons (s_ifne dX8_script_95 rfl) (xcons (s_aload_n rfl dX8_script_98) (xcons (s_getR (f := 2) xC8 (by decide) xw_599 rfl dX8_script_99) (xcons (s_aload_n rfl dX8_script_102) (xcons (s_getR (f := 0) xC8 (by decide) xw_470 rfl dX8_script_103) (xcons (s_invS (mid := 179) cal_179 xw_478 xw_479 dX8_script_106) (xcons (s_sipush dX8_script_109 rfl) (xcons (s_iload_n rfl dX8_script_112) (xcons (s_iconst dX8_script_113 rfl) (xnil))))))))))))))))))))
theorem dX8_script_114 : decode cX8_script 114 = .ok (.isub, 1) := by decide +kernel
theorem dX8_script_115 : decode cX8_script 115 = .ok (.isub, 1) := by decide +kernel
theorem dX8_script_116 : decode cX8_script 116 = .ok (.ireturn, 1) := by decide +kernel
theorem dX8_script_117 : decode cX8_script 117 = .ok (.iload_n 1, 1) := by decide +kernel
theorem dX8_script_118 : decode cX8_script 118 = .ok (.ireturn, 1) := by decide +kernel
def k167_3 : List (Nat × XI) := [(114, x_isub 115), (115, x_isub 116), (116, x_iret), (117, x_iload 1 118), (118, x_iret)]
theorem o167_3 (scr : Nat × (Nat → Int32)) : ∀ q ∈ k167_3, XSnd xm scr Y167 q.1 q.2 := xcons (s_isub dX8_script_114) (xcons (s_isub dX8_script_115) (xcons (s_iret dX8_script_116 rfl) (xcons (s_iload_n rfl dX8_script_117) (xcons (s_iret dX8_script_118 rfl) (xnil)))))
def k167 (pc : Nat) : XI := if pc < 74 then if pc < 38 then xlk k167_0 pc else xlk k167_1 pc else if pc < 114 then xlk k167_2 pc else xlk k167_3 pc
theorem o167 (scr : Nat × (Nat → Int32)) (pc : Nat) : XSnd xm scr Y167 pc (k167 pc) := by
  unfold k167
  exact xite (xite (xlk_ok (o167_0 scr) pc) (xlk_ok (o167_1 scr) pc)) (xite (xlk_ok (o167_2 scr) pc) (xlk_ok (o167_3 scr) pc))
theorem dX8_seed_0 : decode cX8_seed 0 = .ok (.aload_n 0, 1) := by decide +kernel
theorem dX8_seed_1 : decode cX8_seed 1 = .ok (.getfield 9, 3) := by decide +kernel
theorem dX8_seed_4 : decode cX8_seed 4 = .ok (.sipush 929, 3) := by decide +kernel
theorem dX8_seed_7 : decode cX8_seed 7 = .ok (.iaload, 1) := by decide +kernel
theorem dX8_seed_8 : decode cX8_seed 8 = .ok (.istore_n 2, 1) := by decide +kernel
theorem dX8_seed_9 : decode cX8_seed 9 = .ok (.aload_n 0, 1) := by decide +kernel
theorem dX8_seed_10 : decode cX8_seed 10 = .ok (.getfield 9, 3) := by decide +kernel
theorem dX8_seed_13 : decode cX8_seed 13 = .ok (.sipush 929, 3) := by decide +kernel
theorem dX8_seed_16 : decode cX8_seed 16 = .ok (.iload_n 1, 1) := by decide +kernel
theorem dX8_seed_17 : decode cX8_seed 17 = .ok (.iastore, 1) := by decide +kernel
theorem dX8_seed_18 : decode cX8_seed 18 = .ok (.iload_n 2, 1) := by decide +kernel
theorem dX8_seed_19 : decode cX8_seed 19 = .ok (.ireturn, 1) := by decide +kernel
def k168_0 : List (Nat × XI) := [(0, x_aload 0 1), (1, x_getR 8 0 4), (4, x_push (929) 7), (7, x_iald 8), (8, x_istore 2 9), (9, x_aload 0 10), (10, x_getR 8 0 13), (13, x_push (929) 16), (16, x_iload 1 17), (17, x_iast 18), (18, x_iload 2 19), (19, x_iret)]
theorem o168_0 (scr : Nat × (Nat → Int32)) : ∀ q ∈ k168_0, XSnd xm scr Y168 q.1 q.2 := xcons (s_aload_n rfl dX8_seed_0) (xcons (s_getR (f := 0) xC8 (by decide) xw_470 rfl dX8_seed_1) (xcons (s_sipush dX8_seed_4 rfl) (xcons (s_iald dX8_seed_7) (xcons (s_istore_n rfl dX8_seed_8 (by decide)) (xcons (s_aload_n rfl dX8_seed_9) (xcons (s_getR (f := 0) xC8 (by decide) xw_470 rfl dX8_seed_10) (xcons (s_sipush dX8_seed_13 rfl) (xcons (s_iload_n rfl dX8_seed_16) (xcons (s_iast dX8_seed_17) (xcons (s_iload_n rfl dX8_seed_18) (xcons (s_iret dX8_seed_19 rfl) (xnil))))))))))))
def k168 (pc : Nat) : XI := xlk k168_0 pc
theorem o168 (scr : Nat × (Nat → Int32)) (pc : Nat) : XSnd xm scr Y168 pc (k168 pc) := by
  unfold k168
  exact xlk_ok (o168_0 scr) pc
theorem dX8_sees_0 : decode cX8_sees 0 = .ok (.aload_n 0, 1) := by decide +kernel
theorem dX8_sees_1 : decode cX8_sees 1 = .ok (.getfield 210, 3) := by decide +kernel
theorem dX8_sees_4 : decode cX8_sees 4 = .ok (.ifCond .ge 35, 3) := by decide +kernel
theorem dX8_sees_7 : decode cX8_sees 7 = .ok (.aload_n 0, 1) := by decide +kernel
theorem dX8_sees_8 : decode cX8_sees 8 = .ok (.getfield 213, 3) := by decide +kernel
theorem dX8_sees_11 : decode cX8_sees 11 = .ok (.aload_n 0, 1) := by decide +kernel
theorem dX8_sees_12 : decode cX8_sees 12 = .ok (.getfield 207, 3) := by decide +kernel
theorem dX8_sees_15 : decode cX8_sees 15 = .ok (.if_icmp .ge 24, 3) := by decide +kernel
theorem dX8_sees_18 : decode cX8_sees 18 = .ok (.aload_n 0, 1) := by decide +kernel
theorem dX8_sees_19 : decode cX8_sees 19 = .ok (.getfield 25, 3) := by decide +kernel
theorem dX8_sees_22 : decode cX8_sees 22 = .ok (.aload_n 0, 1) := by decide +kernel
theorem dX8_sees_23 : decode cX8_sees 23 = .ok (.getfield 213, 3) := by decide +kernel
theorem dX8_sees_26 : decode cX8_sees 26 = .ok (.iaload, 1) := by decide +kernel
theorem dX8_sees_27 : decode cX8_sees 27 = .ok (.iload_n 1, 1) := by decide +kernel
theorem dX8_sees_28 : decode cX8_sees 28 = .ok (.iload_n 2, 1) := by decide +kernel
theorem dX8_sees_29 : decode cX8_sees 29 = .ok (.invokestatic 51, 3) := by decide +kernel
theorem dX8_sees_32 : decode cX8_sees 32 = .ok (.ifCond .eq 7, 3) := by decide +kernel
theorem dX8_sees_35 : decode cX8_sees 35 = .ok (.iconst 1, 1) := by decide +kernel
theorem dX8_sees_36 : decode cX8_sees 36 = .ok (.goto 4, 3) := by decide +kernel
theorem dX8_sees_39 : decode cX8_sees 39 = .ok (.iconst 0, 1) := by decide +kernel
def k169_0 : List (Nat × XI) := [(0, x_aload 0 1), (1, x_getI 8 20 4), (4, x_ifge 39 7), (7, x_aload 0 8), (8, x_getI 8 19 11), (11, x_aload 0 12), (12, x_getI 8 11 15), (15, x_icge 39 18), (18, x_aload 0 19), (19, x_getR 8 10 22), (22, x_aload 0 23), (23, x_getI 8 19 26), (26, x_iald 27), (27, x_iload 1 28), (28, x_iload 2 29), (29, x_invS 134 3 32), (32, x_ifeq 39 35), (35, x_push (1) 36), (36, x_goto 40), (39, x_push (0) 40)]
theorem o169_0 (scr : Nat × (Nat → Int32)) : ∀ q ∈ k169_0, XSnd xm scr Y169 q.1 q.2 := xcons (s_aload_n rfl dX8_sees_0) (xcons (s_getI (f := 20) xC8 (by decide) xw_610 rfl dX8_sees_1) (xcons (s_ifge dX8_sees_4 rfl) (xcons (s_aload_n rfl dX8_sees_7) (xcons (s_getI (f := 19) xC8 (by decide) xw_609 rfl dX8_sees_8) (xcons (s_aload_n rfl dX8_sees_11) (xcons (s_getI (f := 11) xC8 (by decide) xw_514 rfl dX8_sees_12) (xcons (s_icge dX8_sees_15 rfl) (xcons (s_aload_n rfl dX8_sees_18) (xcons (s_getR (f := 10) xC8 (by decide) xw_577 rfl dX8_sees_19) (xcons (s_aload_n rfl dX8_sees_22) (xcons (s_getI (f := 19) xC8 (by decide) xw_609 rfl dX8_sees_23) (xcons (s_iald dX8_sees_26) (xcons (s_iload_n rfl dX8_sees_27) (xcons (s_iload_n rfl dX8_sees_28) (xcons (s_invS (mid := 134) cal_134 xw_487 xw_488 dX8_sees_29) (xcons (s_ifeq dX8_sees_32 rfl) (xcons (s_iconst dX8_sees_35 rfl) (xcons (s_goto dX8_sees_36 rfl) (xcons (s_iconst dX8_sees_39 rfl) (xnil))))))))))))))))))))
theorem dX8_sees_40 : decode cX8_sees 40 = .ok (.ireturn, 1) := by decide +kernel
def k169_1 : List (Nat × XI) := [(40, x_zret)]
theorem o169_1 (scr : Nat × (Nat → Int32)) : ∀ q ∈ k169_1, XSnd xm scr Y169 q.1 q.2 := xcons (s_zret dX8_sees_40 rfl) (xnil)
def k169 (pc : Nat) : XI := if pc < 40 then xlk k169_0 pc else xlk k169_1 pc
theorem o169 (scr : Nat × (Nat → Int32)) (pc : Nat) : XSnd xm scr Y169 pc (k169 pc) := by
  unfold k169
  exact xite (xlk_ok (o169_0 scr) pc) (xlk_ok (o169_1 scr) pc)
theorem dX8_sender_0 : decode cX8_sender 0 = .ok (.aload_n 0, 1) := by decide +kernel
theorem dX8_sender_1 : decode cX8_sender 1 = .ok (.iload_n 1, 1) := by decide +kernel
theorem dX8_sender_2 : decode cX8_sender 2 = .ok (.invokevirtual 167, 3) := by decide +kernel
theorem dX8_sender_5 : decode cX8_sender 5 = .ok (.ifCond .eq 7, 3) := by decide +kernel
theorem dX8_sender_8 : decode cX8_sender 8 = .ok (.iload_n 2, 1) := by decide +kernel
theorem dX8_sender_9 : decode cX8_sender 9 = .ok (.ifCond .ge 6, 3) := by decide +kernel
theorem dX8_sender_12 : decode cX8_sender 12 = .ok (.bipush (-2), 2) := by decide +kernel
theorem dX8_sender_14 : decode cX8_sender 14 = .ok (.ireturn, 1) := by decide +kernel
theorem dX8_sender_15 : decode cX8_sender 15 = .ok (.aload_n 0, 1) := by decide +kernel
theorem dX8_sender_16 : decode cX8_sender 16 = .ok (.iload_n 1, 1) := by decide +kernel
theorem dX8_sender_17 : decode cX8_sender 17 = .ok (.iload_n 2, 1) := by decide +kernel
theorem dX8_sender_18 : decode cX8_sender 18 = .ok (.iload_n 3, 1) := by decide +kernel
theorem dX8_sender_19 : decode cX8_sender 19 = .ok (.invokevirtual 187, 3) := by decide +kernel
theorem dX8_sender_22 : decode cX8_sender 22 = .ok (.istore 4, 2) := by decide +kernel
theorem dX8_sender_24 : decode cX8_sender 24 = .ok (.iload 4, 2) := by decide +kernel
theorem dX8_sender_26 : decode cX8_sender 26 = .ok (.ifCond .ge 8, 3) := by decide +kernel
theorem dX8_sender_29 : decode cX8_sender 29 = .ok (.bipush (-2), 2) := by decide +kernel
theorem dX8_sender_31 : decode cX8_sender 31 = .ok (.goto 10, 3) := by decide +kernel
theorem dX8_sender_34 : decode cX8_sender 34 = .ok (.aload_n 0, 1) := by decide +kernel
theorem dX8_sender_35 : decode cX8_sender 35 = .ok (.iload_n 1, 1) := by decide +kernel
def k170_0 : List (Nat × XI) := [(0, x_aload 0 1), (1, x_iload 1 2), (2, x_inv 136 8 1 5), (5, x_ifeq 12 8), (8, x_iload 2 9), (9, x_ifge 15 12), (12, x_push (-2) 14), (14, x_iret), (15, x_aload 0 16), (16, x_iload 1 17), (17, x_iload 2 18), (18, x_iload 3 19), (19, x_inv 151 8 3 22), (22, x_istore 4 24), (24, x_iload 4 26), (26, x_ifge 34 29), (29, x_push (-2) 31), (31, x_goto 41), (34, x_aload 0 35), (35, x_iload 1 36)]
theorem o170_0 (scr : Nat × (Nat → Int32)) : ∀ q ∈ k170_0, XSnd xm scr Y170 q.1 q.2 := xcons (s_aload_n rfl dX8_sender_0) (xcons (s_iload_n rfl dX8_sender_1) (xcons (s_inv (mid := 136) xC8 cal_136 xw_483 xw_484 xw_485 dX8_sender_2) (xcons (s_ifeq dX8_sender_5 rfl) (xcons (s_iload_n rfl dX8_sender_8) (xcons (s_ifge dX8_sender_9 rfl) (xcons (s_bipush dX8_sender_12 rfl) (xcons (s_iret dX8_sender_14 rfl) (xcons (s_aload_n rfl dX8_sender_15) (xcons (s_iload_n rfl dX8_sender_16) (xcons (s_iload_n rfl dX8_sender_17) (xcons (s_iload_n rfl dX8_sender_18) (xcons (s_inv (mid := 151) xC8 cal_151 xw_636 xw_637 xw_638 dX8_sender_19) (xcons (s_istore dX8_sender_22 (by decide)) (xcons (s_iload dX8_sender_24) (xcons (s_ifge dX8_sender_26 rfl) (xcons (s_bipush dX8_sender_29 rfl) (xcons (s_goto dX8_sender_31 rfl) (xcons (s_aload_n rfl dX8_sender_34) (xcons (s_iload_n rfl dX8_sender_35) (xnil))))))))))))))))))))
theorem dX8_sender_36 : decode cX8_sender 36 = .ok (.iload 4, 2) := by decide +kernel
theorem dX8_sender_38 : decode cX8_sender 38 = .ok (.invokevirtual 55, 3) := by decide +kernel
theorem dX8_sender_41 : decode cX8_sender 41 = .ok (.ireturn, 1) := by decide +kernel
def k170_1 : List (Nat × XI) := [(36, x_iload 4 38), (38, x_inv 108 8 2 41), (41, x_iret)]
theorem o170_1 (scr : Nat × (Nat → Int32)) : ∀ q ∈ k170_1, XSnd xm scr Y170 q.1 q.2 := xcons (s_iload dX8_sender_36) (xcons (s_inv (mid := 108) xC8 cal_108 xw_508 xw_509 xw_510 dX8_sender_38) (xcons (s_iret dX8_sender_41 rfl) (xnil)))
def k170 (pc : Nat) : XI := if pc < 36 then xlk k170_0 pc else xlk k170_1 pc
theorem o170 (scr : Nat × (Nat → Int32)) (pc : Nat) : XSnd xm scr Y170 pc (k170 pc) := by
  unfold k170
  exact xite (xlk_ok (o170_0 scr) pc) (xlk_ok (o170_1 scr) pc)
theorem dX8_sends_0 : decode cX8_sends 0 = .ok (.aload_n 0, 1) := by decide +kernel
theorem dX8_sends_1 : decode cX8_sends 1 = .ok (.iload_n 1, 1) := by decide +kernel
theorem dX8_sends_2 : decode cX8_sends 2 = .ok (.bipush 13, 2) := by decide +kernel
theorem dX8_sends_4 : decode cX8_sends 4 = .ok (.invokevirtual 55, 3) := by decide +kernel
theorem dX8_sends_7 : decode cX8_sends 7 = .ok (.istore 4, 2) := by decide +kernel
theorem dX8_sends_9 : decode cX8_sends 9 = .ok (.aload_n 0, 1) := by decide +kernel
theorem dX8_sends_10 : decode cX8_sends 10 = .ok (.iload_n 1, 1) := by decide +kernel
theorem dX8_sends_11 : decode cX8_sends 11 = .ok (.invokevirtual 59, 3) := by decide +kernel
theorem dX8_sends_14 : decode cX8_sends 14 = .ok (.ifCond .eq 10, 3) := by decide +kernel
theorem dX8_sends_17 : decode cX8_sends 17 = .ok (.iload 4, 2) := by decide +kernel
theorem dX8_sends_19 : decode cX8_sends 19 = .ok (.bipush 12, 2) := by decide +kernel
theorem dX8_sends_21 : decode cX8_sends 21 = .ok (.if_icmp .ne 17, 3) := by decide +kernel
theorem dX8_sends_24 : decode cX8_sends 24 = .ok (.aload_n 0, 1) := by decide +kernel
theorem dX8_sends_25 : decode cX8_sends 25 = .ok (.getfield 9, 3) := by decide +kernel
theorem dX8_sends_28 : decode cX8_sends 28 = .ok (.sipush 927, 3) := by decide +kernel
theorem dX8_sends_31 : decode cX8_sends 31 = .ok (.dup2, 1) := by decide +kernel
theorem dX8_sends_32 : decode cX8_sends 32 = .ok (.iaload, 1) := by decide +kernel
theorem dX8_sends_33 : decode cX8_sends 33 = .ok (.iconst 1, 1) := by decide +kernel
theorem dX8_sends_34 : decode cX8_sends 34 = .ok (.iadd, 1) := by decide +kernel
theorem dX8_sends_35 : decode cX8_sends 35 = .ok (.iastore, 1) := by decide +kernel
def k171_0 : List (Nat × XI) := [(0, x_aload 0 1), (1, x_iload 1 2), (2, x_push (13) 4), (4, x_inv 108 8 2 7), (7, x_istore 4 9), (9, x_aload 0 10), (10, x_iload 1 11), (11, x_inv 140 8 1 14), (14, x_ifeq 24 17), (17, x_iload 4 19), (19, x_push (12) 21), (21, x_icne 38 24), (24, x_aload 0 25), (25, x_getR 8 0 28), (28, x_push (927) 31), (31, x_dup2 32), (32, x_iald 33), (33, x_push (1) 34), (34, x_iadd 35), (35, x_iast 36)]
theorem o171_0 (scr : Nat × (Nat → Int32)) : ∀ q ∈ k171_0, XSnd xm scr Y171 q.1 q.2 := xcons (s_aload_n rfl dX8_sends_0) (xcons (s_iload_n rfl dX8_sends_1) (xcons (s_bipush dX8_sends_2 rfl) (xcons (s_inv (mid := 108) xC8 cal_108 xw_508 xw_509 xw_510 dX8_sends_4) (xcons (s_istore dX8_sends_7 (by decide)) (xcons (s_aload_n rfl dX8_sends_9) (xcons (s_iload_n rfl dX8_sends_10) (xcons (s_inv (mid := 140) xC8 cal_140 xw_490 xw_491 xw_492 dX8_sends_11) (xcons (s_ifeq dX8_sends_14 rfl) (xcons (s_iload dX8_sends_17) (xcons (s_bipush dX8_sends_19 rfl) (xcons (s_icne dX8_sends_21 rfl) (xcons (s_aload_n rfl dX8_sends_24) (xcons (s_getR (f := 0) xC8 (by decide) xw_470 rfl dX8_sends_25) (xcons (s_sipush dX8_sends_28 rfl) (xcons (s_dup2 dX8_sends_31) (xcons (s_iald dX8_sends_32) (xcons (s_iconst dX8_sends_33 rfl) (xcons (s_iadd dX8_sends_34) (xcons (s_iast dX8_sends_35) (xnil))))))))))))))))))))
theorem dX8_sends_36 : decode cX8_sends 36 = .ok (.iconst 0, 1) := by decide +kernel
theorem dX8_sends_37 : decode cX8_sends 37 = .ok (.ireturn, 1) := by decide +kernel
theorem dX8_sends_38 : decode cX8_sends 38 = .ok (.aload_n 0, 1) := by decide +kernel
theorem dX8_sends_39 : decode cX8_sends 39 = .ok (.iload_n 1, 1) := by decide +kernel
theorem dX8_sends_40 : decode cX8_sends 40 = .ok (.bipush 14, 2) := by decide +kernel
theorem dX8_sends_42 : decode cX8_sends 42 = .ok (.iconst 2, 1) := by decide +kernel
theorem dX8_sends_43 : decode cX8_sends 43 = .ok (.iload 4, 2) := by decide +kernel
theorem dX8_sends_45 : decode cX8_sends 45 = .ok (.imul, 1) := by decide +kernel
theorem dX8_sends_46 : decode cX8_sends 46 = .ok (.iadd, 1) := by decide +kernel
theorem dX8_sends_47 : decode cX8_sends 47 = .ok (.iload_n 2, 1) := by decide +kernel
theorem dX8_sends_48 : decode cX8_sends 48 = .ok (.invokevirtual 63, 3) := by decide +kernel
theorem dX8_sends_51 : decode cX8_sends 51 = .ok (.aload_n 0, 1) := by decide +kernel
theorem dX8_sends_52 : decode cX8_sends 52 = .ok (.iload_n 1, 1) := by decide +kernel
theorem dX8_sends_53 : decode cX8_sends 53 = .ok (.bipush 14, 2) := by decide +kernel
theorem dX8_sends_55 : decode cX8_sends 55 = .ok (.iconst 2, 1) := by decide +kernel
theorem dX8_sends_56 : decode cX8_sends 56 = .ok (.iload 4, 2) := by decide +kernel
theorem dX8_sends_58 : decode cX8_sends 58 = .ok (.imul, 1) := by decide +kernel
theorem dX8_sends_59 : decode cX8_sends 59 = .ok (.iadd, 1) := by decide +kernel
theorem dX8_sends_60 : decode cX8_sends 60 = .ok (.iconst 1, 1) := by decide +kernel
theorem dX8_sends_61 : decode cX8_sends 61 = .ok (.iadd, 1) := by decide +kernel
def k171_1 : List (Nat × XI) := [(36, x_push (0) 37), (37, x_zret), (38, x_aload 0 39), (39, x_iload 1 40), (40, x_push (14) 42), (42, x_push (2) 43), (43, x_iload 4 45), (45, x_imul 46), (46, x_iadd 47), (47, x_iload 2 48), (48, x_inv 172 8 3 51), (51, x_aload 0 52), (52, x_iload 1 53), (53, x_push (14) 55), (55, x_push (2) 56), (56, x_iload 4 58), (58, x_imul 59), (59, x_iadd 60), (60, x_push (1) 61), (61, x_iadd 62)]
theorem o171_1 (scr : Nat × (Nat → Int32)) : ∀ q ∈ k171_1, XSnd xm scr Y171 q.1 q.2 := xcons (s_iconst dX8_sends_36 rfl) (xcons (s_zret dX8_sends_37 rfl) (xcons (s_aload_n rfl dX8_sends_38) (xcons (s_iload_n rfl dX8_sends_39) (xcons (s_bipush dX8_sends_40 rfl) (xcons (s_iconst dX8_sends_42 rfl) (xcons (s_iload dX8_sends_43) (xcons (s_imul dX8_sends_45) (xcons (s_iadd dX8_sends_46) (xcons (s_iload_n rfl dX8_sends_47) (xcons (s_inv (mid := 172) xC8 cal_172 xw_472 xw_473 xw_474 dX8_sends_48) (xcons (s_aload_n rfl dX8_sends_51) (xcons (s_iload_n rfl dX8_sends_52) (xcons (s_bipush dX8_sends_53 rfl) (xcons (s_iconst dX8_sends_55 rfl) (xcons (s_iload dX8_sends_56) (xcons (s_imul dX8_sends_58) (xcons (s_iadd dX8_sends_59) (xcons (s_iconst dX8_sends_60 rfl) (xcons (s_iadd dX8_sends_61) (xnil))))))))))))))))))))
theorem dX8_sends_62 : decode cX8_sends 62 = .ok (.iload_n 3, 1) := by decide +kernel
theorem dX8_sends_63 : decode cX8_sends 63 = .ok (.invokevirtual 63, 3) := by decide +kernel
theorem dX8_sends_66 : decode cX8_sends 66 = .ok (.aload_n 0, 1) := by decide +kernel
theorem dX8_sends_67 : decode cX8_sends 67 = .ok (.iload_n 1, 1) := by decide +kernel
theorem dX8_sends_68 : decode cX8_sends 68 = .ok (.bipush 13, 2) := by decide +kernel
theorem dX8_sends_70 : decode cX8_sends 70 = .ok (.iload 4, 2) := by decide +kernel
theorem dX8_sends_72 : decode cX8_sends 72 = .ok (.iconst 1, 1) := by decide +kernel
theorem dX8_sends_73 : decode cX8_sends 73 = .ok (.iadd, 1) := by decide +kernel
theorem dX8_sends_74 : decode cX8_sends 74 = .ok (.invokevirtual 63, 3) := by decide +kernel
theorem dX8_sends_77 : decode cX8_sends 77 = .ok (.iconst 1, 1) := by decide +kernel
theorem dX8_sends_78 : decode cX8_sends 78 = .ok (.ireturn, 1) := by decide +kernel
def k171_2 : List (Nat × XI) := [(62, x_iload 3 63), (63, x_inv 172 8 3 66), (66, x_aload 0 67), (67, x_iload 1 68), (68, x_push (13) 70), (70, x_iload 4 72), (72, x_push (1) 73), (73, x_iadd 74), (74, x_inv 172 8 3 77), (77, x_push (1) 78), (78, x_zret)]
theorem o171_2 (scr : Nat × (Nat → Int32)) : ∀ q ∈ k171_2, XSnd xm scr Y171 q.1 q.2 := xcons (s_iload_n rfl dX8_sends_62) (xcons (s_inv (mid := 172) xC8 cal_172 xw_472 xw_473 xw_474 dX8_sends_63) (xcons (s_aload_n rfl dX8_sends_66) (xcons (s_iload_n rfl dX8_sends_67) (xcons (s_bipush dX8_sends_68 rfl) (xcons (s_iload dX8_sends_70) (xcons (s_iconst dX8_sends_72 rfl) (xcons (s_iadd dX8_sends_73) (xcons (s_inv (mid := 172) xC8 cal_172 xw_472 xw_473 xw_474 dX8_sends_74) (xcons (s_iconst dX8_sends_77 rfl) (xcons (s_zret dX8_sends_78 rfl) (xnil)))))))))))
def k171 (pc : Nat) : XI := if pc < 36 then xlk k171_0 pc else if pc < 62 then xlk k171_1 pc else xlk k171_2 pc
theorem o171 (scr : Nat × (Nat → Int32)) (pc : Nat) : XSnd xm scr Y171 pc (k171 pc) := by
  unfold k171
  exact xite (xlk_ok (o171_0 scr) pc) (xite (xlk_ok (o171_1 scr) pc) (xlk_ok (o171_2 scr) pc))
theorem dX8_sets_0 : decode cX8_sets 0 = .ok (.aload_n 0, 1) := by decide +kernel
theorem dX8_sets_1 : decode cX8_sets 1 = .ok (.getfield 9, 3) := by decide +kernel
theorem dX8_sets_4 : decode cX8_sets 4 = .ok (.iload_n 1, 1) := by decide +kernel
theorem dX8_sets_5 : decode cX8_sets 5 = .ok (.bipush 77, 2) := by decide +kernel
theorem dX8_sets_7 : decode cX8_sets 7 = .ok (.imul, 1) := by decide +kernel
theorem dX8_sets_8 : decode cX8_sets 8 = .ok (.iload_n 2, 1) := by decide +kernel
theorem dX8_sets_9 : decode cX8_sets 9 = .ok (.iadd, 1) := by decide +kernel
theorem dX8_sets_10 : decode cX8_sets 10 = .ok (.iload_n 3, 1) := by decide +kernel
theorem dX8_sets_11 : decode cX8_sets 11 = .ok (.iastore, 1) := by decide +kernel
theorem dX8_sets_12 : decode cX8_sets 12 = .ok (.return_, 1) := by decide +kernel
def k172_0 : List (Nat × XI) := [(0, x_aload 0 1), (1, x_getR 8 0 4), (4, x_iload 1 5), (5, x_push (77) 7), (7, x_imul 8), (8, x_iload 2 9), (9, x_iadd 10), (10, x_iload 3 11), (11, x_iast 12), (12, x_ret)]
theorem o172_0 (scr : Nat × (Nat → Int32)) : ∀ q ∈ k172_0, XSnd xm scr Y172 q.1 q.2 := xcons (s_aload_n rfl dX8_sets_0) (xcons (s_getR (f := 0) xC8 (by decide) xw_470 rfl dX8_sets_1) (xcons (s_iload_n rfl dX8_sets_4) (xcons (s_bipush dX8_sets_5 rfl) (xcons (s_imul dX8_sets_7) (xcons (s_iload_n rfl dX8_sets_8) (xcons (s_iadd dX8_sets_9) (xcons (s_iload_n rfl dX8_sets_10) (xcons (s_iast dX8_sets_11) (xcons (s_ret dX8_sets_12 rfl) (xnil))))))))))
def k172 (pc : Nat) : XI := xlk k172_0 pc
theorem o172 (scr : Nat × (Nat → Int32)) (pc : Nat) : XSnd xm scr Y172 pc (k172 pc) := by
  unfold k172
  exact xlk_ok (o172_0 scr) pc
theorem dX8_stack_0 : decode cX8_stack 0 = .ok (.aload_n 0, 1) := by decide +kernel
theorem dX8_stack_1 : decode cX8_stack 1 = .ok (.iload_n 1, 1) := by decide +kernel
theorem dX8_stack_2 : decode cX8_stack 2 = .ok (.invokevirtual 167, 3) := by decide +kernel
theorem dX8_stack_5 : decode cX8_stack 5 = .ok (.ifCond .eq 7, 3) := by decide +kernel
theorem dX8_stack_8 : decode cX8_stack 8 = .ok (.iload_n 2, 1) := by decide +kernel
theorem dX8_stack_9 : decode cX8_stack 9 = .ok (.ifCond .ge 5, 3) := by decide +kernel
theorem dX8_stack_12 : decode cX8_stack 12 = .ok (.iconst (-1), 1) := by decide +kernel
theorem dX8_stack_13 : decode cX8_stack 13 = .ok (.ireturn, 1) := by decide +kernel
theorem dX8_stack_14 : decode cX8_stack 14 = .ok (.iload_n 2, 1) := by decide +kernel
theorem dX8_stack_15 : decode cX8_stack 15 = .ok (.aload_n 0, 1) := by decide +kernel
theorem dX8_stack_16 : decode cX8_stack 16 = .ok (.iload_n 1, 1) := by decide +kernel
theorem dX8_stack_17 : decode cX8_stack 17 = .ok (.bipush 7, 2) := by decide +kernel
theorem dX8_stack_19 : decode cX8_stack 19 = .ok (.invokevirtual 55, 3) := by decide +kernel
theorem dX8_stack_22 : decode cX8_stack 22 = .ok (.if_icmp .ge 15, 3) := by decide +kernel
theorem dX8_stack_25 : decode cX8_stack 25 = .ok (.aload_n 0, 1) := by decide +kernel
theorem dX8_stack_26 : decode cX8_stack 26 = .ok (.iload_n 1, 1) := by decide +kernel
theorem dX8_stack_27 : decode cX8_stack 27 = .ok (.bipush 8, 2) := by decide +kernel
theorem dX8_stack_29 : decode cX8_stack 29 = .ok (.iload_n 2, 1) := by decide +kernel
theorem dX8_stack_30 : decode cX8_stack 30 = .ok (.iadd, 1) := by decide +kernel
theorem dX8_stack_31 : decode cX8_stack 31 = .ok (.invokevirtual 55, 3) := by decide +kernel
def k173_0 : List (Nat × XI) := [(0, x_aload 0 1), (1, x_iload 1 2), (2, x_inv 136 8 1 5), (5, x_ifeq 12 8), (8, x_iload 2 9), (9, x_ifge 14 12), (12, x_push (-1) 13), (13, x_iret), (14, x_iload 2 15), (15, x_aload 0 16), (16, x_iload 1 17), (17, x_push (7) 19), (19, x_inv 108 8 2 22), (22, x_icge 37 25), (25, x_aload 0 26), (26, x_iload 1 27), (27, x_push (8) 29), (29, x_iload 2 30), (30, x_iadd 31), (31, x_inv 108 8 2 34)]
theorem o173_0 (scr : Nat × (Nat → Int32)) : ∀ q ∈ k173_0, XSnd xm scr Y173 q.1 q.2 := xcons (s_aload_n rfl dX8_stack_0) (xcons (s_iload_n rfl dX8_stack_1) (xcons (s_inv (mid := 136) xC8 cal_136 xw_483 xw_484 xw_485 dX8_stack_2) (xcons (s_ifeq dX8_stack_5 rfl) (xcons (s_iload_n rfl dX8_stack_8) (xcons (s_ifge dX8_stack_9 rfl) (xcons (s_iconst dX8_stack_12 rfl) (xcons (s_iret dX8_stack_13 rfl) (xcons (s_iload_n rfl dX8_stack_14) (xcons (s_aload_n rfl dX8_stack_15) (xcons (s_iload_n rfl dX8_stack_16) (xcons (s_bipush dX8_stack_17 rfl) (xcons (s_inv (mid := 108) xC8 cal_108 xw_508 xw_509 xw_510 dX8_stack_19) (xcons (s_icge dX8_stack_22 rfl) (xcons (s_aload_n rfl dX8_stack_25) (xcons (s_iload_n rfl dX8_stack_26) (xcons (s_bipush dX8_stack_27 rfl) (xcons (s_iload_n rfl dX8_stack_29) (xcons (s_iadd dX8_stack_30) (xcons (s_inv (mid := 108) xC8 cal_108 xw_508 xw_509 xw_510 dX8_stack_31) (xnil))))))))))))))))))))
theorem dX8_stack_34 : decode cX8_stack 34 = .ok (.goto 5, 3) := by decide +kernel
theorem dX8_stack_37 : decode cX8_stack 37 = .ok (.bipush (-2), 2) := by decide +kernel
theorem dX8_stack_39 : decode cX8_stack 39 = .ok (.ireturn, 1) := by decide +kernel
def k173_1 : List (Nat × XI) := [(34, x_goto 39), (37, x_push (-2) 39), (39, x_iret)]
theorem o173_1 (scr : Nat × (Nat → Int32)) : ∀ q ∈ k173_1, XSnd xm scr Y173 q.1 q.2 := xcons (s_goto dX8_stack_34 rfl) (xcons (s_bipush dX8_stack_37 rfl) (xcons (s_iret dX8_stack_39 rfl) (xnil)))
def k173 (pc : Nat) : XI := if pc < 34 then xlk k173_0 pc else xlk k173_1 pc
theorem o173 (scr : Nat × (Nat → Int32)) (pc : Nat) : XSnd xm scr Y173 pc (k173 pc) := by
  unfold k173
  exact xite (xlk_ok (o173_0 scr) pc) (xlk_ok (o173_1 scr) pc)
theorem dX8_step_0 : decode cX8_step 0 = .ok (.aload_n 0, 1) := by decide +kernel
theorem dX8_step_1 : decode cX8_step 1 = .ok (.bipush (-2), 2) := by decide +kernel
theorem dX8_step_3 : decode cX8_step 3 = .ok (.putfield 142, 3) := by decide +kernel
theorem dX8_step_6 : decode cX8_step 6 = .ok (.aload_n 0, 1) := by decide +kernel
theorem dX8_step_7 : decode cX8_step 7 = .ok (.invokevirtual 135, 3) := by decide +kernel
theorem dX8_step_10 : decode cX8_step 10 = .ok (.istore_n 1, 1) := by decide +kernel
theorem dX8_step_11 : decode cX8_step 11 = .ok (.iload_n 1, 1) := by decide +kernel
theorem dX8_step_12 : decode cX8_step 12 = .ok (.ifCond .lt 114, 3) := by decide +kernel
theorem dX8_step_15 : decode cX8_step 15 = .ok (.aload_n 0, 1) := by decide +kernel
theorem dX8_step_16 : decode cX8_step 16 = .ok (.iload_n 1, 1) := by decide +kernel
theorem dX8_step_17 : decode cX8_step 17 = .ok (.bipush 14, 2) := by decide +kernel
theorem dX8_step_19 : decode cX8_step 19 = .ok (.invokevirtual 55, 3) := by decide +kernel
theorem dX8_step_22 : decode cX8_step 22 = .ok (.istore_n 2, 1) := by decide +kernel
theorem dX8_step_23 : decode cX8_step 23 = .ok (.aload_n 0, 1) := by decide +kernel
theorem dX8_step_24 : decode cX8_step 24 = .ok (.iload_n 1, 1) := by decide +kernel
theorem dX8_step_25 : decode cX8_step 25 = .ok (.bipush 15, 2) := by decide +kernel
theorem dX8_step_27 : decode cX8_step 27 = .ok (.invokevirtual 55, 3) := by decide +kernel
theorem dX8_step_30 : decode cX8_step 30 = .ok (.istore_n 3, 1) := by decide +kernel
theorem dX8_step_31 : decode cX8_step 31 = .ok (.aload_n 0, 1) := by decide +kernel
theorem dX8_step_32 : decode cX8_step 32 = .ok (.iload_n 1, 1) := by decide +kernel
def k174_0 : List (Nat × XI) := [(0, x_aload 0 1), (1, x_push (-2) 3), (3, x_putI 8 7 6), (6, x_aload 0 7), (7, x_inv 153 8 0 10), (10, x_istore 1 11), (11, x_iload 1 12), (12, x_iflt 126 15), (15, x_aload 0 16), (16, x_iload 1 17), (17, x_push (14) 19), (19, x_inv 108 8 2 22), (22, x_istore 2 23), (23, x_aload 0 24), (24, x_iload 1 25), (25, x_push (15) 27), (27, x_inv 108 8 2 30), (30, x_istore 3 31), (31, x_aload 0 32), (32, x_iload 1 33)]
theorem o174_0 (scr : Nat × (Nat → Int32)) : ∀ q ∈ k174_0, XSnd xm scr Y174 q.1 q.2 := xcons (s_aload_n rfl dX8_step_0) (xcons (s_bipush dX8_step_1 rfl) (xcons (s_putI (f := 7) xC8 (by decide) xw_634 rfl (Or.inl rfl) dX8_step_3) (xcons (s_aload_n rfl dX8_step_6) (xcons (s_inv (mid := 153) xC8 cal_153 xw_587 xw_588 xw_589 dX8_step_7) (xcons (s_istore_n rfl dX8_step_10 (by decide)) (xcons (s_iload_n rfl dX8_step_11) (xcons (s_iflt dX8_step_12 rfl) (xcons (s_aload_n rfl dX8_step_15) (xcons (s_iload_n rfl dX8_step_16) (xcons (s_bipush dX8_step_17 rfl) (xcons (s_inv (mid := 108) xC8 cal_108 xw_508 xw_509 xw_510 dX8_step_19) (xcons (s_istore_n rfl dX8_step_22 (by decide)) (xcons (s_aload_n rfl dX8_step_23) (xcons (s_iload_n rfl dX8_step_24) (xcons (s_bipush dX8_step_25 rfl) (xcons (s_inv (mid := 108) xC8 cal_108 xw_508 xw_509 xw_510 dX8_step_27) (xcons (s_istore_n rfl dX8_step_30 (by decide)) (xcons (s_aload_n rfl dX8_step_31) (xcons (s_iload_n rfl dX8_step_32) (xnil))))))))))))))))))))
theorem dX8_step_33 : decode cX8_step 33 = .ok (.bipush 13, 2) := by decide +kernel
theorem dX8_step_35 : decode cX8_step 35 = .ok (.invokevirtual 55, 3) := by decide +kernel
theorem dX8_step_38 : decode cX8_step 38 = .ok (.iconst 1, 1) := by decide +kernel
theorem dX8_step_39 : decode cX8_step 39 = .ok (.isub, 1) := by decide +kernel
theorem dX8_step_40 : decode cX8_step 40 = .ok (.istore 4, 2) := by decide +kernel
theorem dX8_step_42 : decode cX8_step 42 = .ok (.iconst 0, 1) := by decide +kernel
theorem dX8_step_43 : decode cX8_step 43 = .ok (.istore 5, 2) := by decide +kernel
theorem dX8_step_45 : decode cX8_step 45 = .ok (.iload 5, 2) := by decide +kernel
theorem dX8_step_47 : decode cX8_step 47 = .ok (.iconst 2, 1) := by decide +kernel
theorem dX8_step_48 : decode cX8_step 48 = .ok (.iload 4, 2) := by decide +kernel
theorem dX8_step_50 : decode cX8_step 50 = .ok (.imul, 1) := by decide +kernel
theorem dX8_step_51 : decode cX8_step 51 = .ok (.if_icmp .ge 31, 3) := by decide +kernel
theorem dX8_step_54 : decode cX8_step 54 = .ok (.aload_n 0, 1) := by decide +kernel
theorem dX8_step_55 : decode cX8_step 55 = .ok (.iload_n 1, 1) := by decide +kernel
theorem dX8_step_56 : decode cX8_step 56 = .ok (.bipush 14, 2) := by decide +kernel
theorem dX8_step_58 : decode cX8_step 58 = .ok (.iload 5, 2) := by decide +kernel
theorem dX8_step_60 : decode cX8_step 60 = .ok (.iadd, 1) := by decide +kernel
theorem dX8_step_61 : decode cX8_step 61 = .ok (.aload_n 0, 1) := by decide +kernel
theorem dX8_step_62 : decode cX8_step 62 = .ok (.iload_n 1, 1) := by decide +kernel
theorem dX8_step_63 : decode cX8_step 63 = .ok (.bipush 14, 2) := by decide +kernel
def k174_1 : List (Nat × XI) := [(33, x_push (13) 35), (35, x_inv 108 8 2 38), (38, x_push (1) 39), (39, x_isub 40), (40, x_istore 4 42), (42, x_push (0) 43), (43, x_istore 5 45), (45, x_iload 5 47), (47, x_push (2) 48), (48, x_iload 4 50), (50, x_imul 51), (51, x_icge 82 54), (54, x_aload 0 55), (55, x_iload 1 56), (56, x_push (14) 58), (58, x_iload 5 60), (60, x_iadd 61), (61, x_aload 0 62), (62, x_iload 1 63), (63, x_push (14) 65)]
theorem o174_1 (scr : Nat × (Nat → Int32)) : ∀ q ∈ k174_1, XSnd xm scr Y174 q.1 q.2 := xcons (s_bipush dX8_step_33 rfl) (xcons (s_inv (mid := 108) xC8 cal_108 xw_508 xw_509 xw_510 dX8_step_35) (xcons (s_iconst dX8_step_38 rfl) (xcons (s_isub dX8_step_39) (xcons (s_istore dX8_step_40 (by decide)) (xcons (s_iconst dX8_step_42 rfl) (xcons (s_istore dX8_step_43 (by decide)) (xcons (s_iload dX8_step_45) (xcons (s_iconst dX8_step_47 rfl) (xcons (s_iload dX8_step_48) (xcons (s_imul dX8_step_50) (xcons (s_icge dX8_step_51 rfl) (xcons (s_aload_n rfl dX8_step_54) (xcons (s_iload_n rfl dX8_step_55) (xcons (s_bipush dX8_step_56 rfl) (xcons (s_iload dX8_step_58) (xcons (s_iadd dX8_step_60) (xcons (s_aload_n rfl dX8_step_61) (xcons (s_iload_n rfl dX8_step_62) (xcons (s_bipush dX8_step_63 rfl) (xnil))))))))))))))))))))
theorem dX8_step_65 : decode cX8_step 65 = .ok (.iload 5, 2) := by decide +kernel
theorem dX8_step_67 : decode cX8_step 67 = .ok (.iadd, 1) := by decide +kernel
theorem dX8_step_68 : decode cX8_step 68 = .ok (.iconst 2, 1) := by decide +kernel
theorem dX8_step_69 : decode cX8_step 69 = .ok (.iadd, 1) := by decide +kernel
theorem dX8_step_70 : decode cX8_step 70 = .ok (.invokevirtual 55, 3) := by decide +kernel
theorem dX8_step_73 : decode cX8_step 73 = .ok (.invokevirtual 63, 3) := by decide +kernel
theorem dX8_step_76 : decode cX8_step 76 = .ok (.iinc 5 1, 3) := by decide +kernel
theorem dX8_step_79 : decode cX8_step 79 = .ok (.goto (-34), 3) := by decide +kernel
theorem dX8_step_82 : decode cX8_step 82 = .ok (.aload_n 0, 1) := by decide +kernel
theorem dX8_step_83 : decode cX8_step 83 = .ok (.iload_n 1, 1) := by decide +kernel
theorem dX8_step_84 : decode cX8_step 84 = .ok (.bipush 13, 2) := by decide +kernel
theorem dX8_step_86 : decode cX8_step 86 = .ok (.iload 4, 2) := by decide +kernel
theorem dX8_step_88 : decode cX8_step 88 = .ok (.invokevirtual 63, 3) := by decide +kernel
theorem dX8_step_91 : decode cX8_step 91 = .ok (.aload_n 0, 1) := by decide +kernel
theorem dX8_step_92 : decode cX8_step 92 = .ok (.getfield 9, 3) := by decide +kernel
theorem dX8_step_95 : decode cX8_step 95 = .ok (.sipush 928, 3) := by decide +kernel
theorem dX8_step_98 : decode cX8_step 98 = .ok (.iload_n 1, 1) := by decide +kernel
theorem dX8_step_99 : decode cX8_step 99 = .ok (.iastore, 1) := by decide +kernel
theorem dX8_step_100 : decode cX8_step 100 = .ok (.aload_n 0, 1) := by decide +kernel
theorem dX8_step_101 : decode cX8_step 101 = .ok (.getfield 9, 3) := by decide +kernel
def k174_2 : List (Nat × XI) := [(65, x_iload 5 67), (67, x_iadd 68), (68, x_push (2) 69), (69, x_iadd 70), (70, x_inv 108 8 2 73), (73, x_inv 172 8 3 76), (76, x_iinc 5 (1) 79), (79, x_goto 45), (82, x_aload 0 83), (83, x_iload 1 84), (84, x_push (13) 86), (86, x_iload 4 88), (88, x_inv 172 8 3 91), (91, x_aload 0 92), (92, x_getR 8 0 95), (95, x_push (928) 98), (98, x_iload 1 99), (99, x_iast 100), (100, x_aload 0 101), (101, x_getR 8 0 104)]
theorem o174_2 (scr : Nat × (Nat → Int32)) : ∀ q ∈ k174_2, XSnd xm scr Y174 q.1 q.2 := xcons (s_iload dX8_step_65) (xcons (s_iadd dX8_step_67) (xcons (s_iconst dX8_step_68 rfl) (xcons (s_iadd dX8_step_69) (xcons (s_inv (mid := 108) xC8 cal_108 xw_508 xw_509 xw_510 dX8_step_70) (xcons (s_inv (mid := 172) xC8 cal_172 xw_472 xw_473 xw_474 dX8_step_73) (xcons (s_iinc dX8_step_76 rfl (by decide)) (xcons (s_goto dX8_step_79 rfl) (xcons (s_aload_n rfl dX8_step_82) (xcons (s_iload_n rfl dX8_step_83) (xcons (s_bipush dX8_step_84 rfl) (xcons (s_iload dX8_step_86) (xcons (s_inv (mid := 172) xC8 cal_172 xw_472 xw_473 xw_474 dX8_step_88) (xcons (s_aload_n rfl dX8_step_91) (xcons (s_getR (f := 0) xC8 (by decide) xw_470 rfl dX8_step_92) (xcons (s_sipush dX8_step_95 rfl) (xcons (s_iload_n rfl dX8_step_98) (xcons (s_iast dX8_step_99) (xcons (s_aload_n rfl dX8_step_100) (xcons (s_getR (f := 0) xC8 (by decide) xw_470 rfl dX8_step_101) (xnil))))))))))))))))))))
theorem dX8_step_104 : decode cX8_step 104 = .ok (.sipush 926, 3) := by decide +kernel
theorem dX8_step_107 : decode cX8_step 107 = .ok (.dup2, 1) := by decide +kernel
theorem dX8_step_108 : decode cX8_step 108 = .ok (.iaload, 1) := by decide +kernel
theorem dX8_step_109 : decode cX8_step 109 = .ok (.iconst 1, 1) := by decide +kernel
theorem dX8_step_110 : decode cX8_step 110 = .ok (.iadd, 1) := by decide +kernel
theorem dX8_step_111 : decode cX8_step 111 = .ok (.iastore, 1) := by decide +kernel
theorem dX8_step_112 : decode cX8_step 112 = .ok (.aload_n 0, 1) := by decide +kernel
theorem dX8_step_113 : decode cX8_step 113 = .ok (.iload_n 1, 1) := by decide +kernel
theorem dX8_step_114 : decode cX8_step 114 = .ok (.iload_n 3, 1) := by decide +kernel
theorem dX8_step_115 : decode cX8_step 115 = .ok (.invokevirtual 145, 3) := by decide +kernel
theorem dX8_step_118 : decode cX8_step 118 = .ok (.aload_n 0, 1) := by decide +kernel
theorem dX8_step_119 : decode cX8_step 119 = .ok (.iload_n 1, 1) := by decide +kernel
theorem dX8_step_120 : decode cX8_step 120 = .ok (.iload_n 2, 1) := by decide +kernel
theorem dX8_step_121 : decode cX8_step 121 = .ok (.iload_n 3, 1) := by decide +kernel
theorem dX8_step_122 : decode cX8_step 122 = .ok (.invokevirtual 148, 3) := by decide +kernel
theorem dX8_step_125 : decode cX8_step 125 = .ok (.return_, 1) := by decide +kernel
theorem dX8_step_126 : decode cX8_step 126 = .ok (.sipush 932, 3) := by decide +kernel
theorem dX8_step_129 : decode cX8_step 129 = .ok (.iconst 3, 1) := by decide +kernel
theorem dX8_step_130 : decode cX8_step 130 = .ok (.aload_n 0, 1) := by decide +kernel
theorem dX8_step_131 : decode cX8_step 131 = .ok (.invokevirtual 151, 3) := by decide +kernel
def k174_3 : List (Nat × XI) := [(104, x_push (926) 107), (107, x_dup2 108), (108, x_iald 109), (109, x_push (1) 110), (110, x_iadd 111), (111, x_iast 112), (112, x_aload 0 113), (113, x_iload 1 114), (114, x_iload 3 115), (115, x_inv 149 8 2 118), (118, x_aload 0 119), (119, x_iload 1 120), (120, x_iload 2 121), (121, x_iload 3 122), (122, x_inv 118 8 3 125), (125, x_ret), (126, x_push (932) 129), (129, x_push (3) 130), (130, x_aload 0 131), (131, x_inv 128 8 0 134)]
theorem o174_3 (scr : Nat × (Nat → Int32)) : ∀ q ∈ k174_3, XSnd xm scr Y174 q.1 q.2 := xcons (s_sipush dX8_step_104 rfl) (xcons (s_dup2 dX8_step_107) (xcons (s_iald dX8_step_108) (xcons (s_iconst dX8_step_109 rfl) (xcons (s_iadd dX8_step_110) (xcons (s_iast dX8_step_111) (xcons (s_aload_n rfl dX8_step_112) (xcons (s_iload_n rfl dX8_step_113) (xcons (s_iload_n rfl dX8_step_114) (xcons (s_inv (mid := 149) xC8 cal_149 xw_672 xw_673 xw_674 dX8_step_115) (xcons (s_aload_n rfl dX8_step_118) (xcons (s_iload_n rfl dX8_step_119) (xcons (s_iload_n rfl dX8_step_120) (xcons (s_iload_n rfl dX8_step_121) (xcons (s_inv (mid := 118) xC8 cal_118 xw_676 xw_677 xw_678 dX8_step_122) (xcons (s_ret dX8_step_125 rfl) (xcons (s_sipush dX8_step_126 rfl) (xcons (s_iconst dX8_step_129 rfl) (xcons (s_aload_n rfl dX8_step_130) (xcons (s_inv (mid := 128) xC8 cal_128 xw_680 xw_681 xw_682 dX8_step_131) (xnil))))))))))))))))))))
theorem dX8_step_134 : decode cX8_step 134 = .ok (.imul, 1) := by decide +kernel
theorem dX8_step_135 : decode cX8_step 135 = .ok (.iadd, 1) := by decide +kernel
theorem dX8_step_136 : decode cX8_step 136 = .ok (.istore_n 2, 1) := by decide +kernel
theorem dX8_step_137 : decode cX8_step 137 = .ok (.aload_n 0, 1) := by decide +kernel
theorem dX8_step_138 : decode cX8_step 138 = .ok (.getfield 9, 3) := by decide +kernel
theorem dX8_step_141 : decode cX8_step 141 = .ok (.iload_n 2, 1) := by decide +kernel
theorem dX8_step_142 : decode cX8_step 142 = .ok (.iaload, 1) := by decide +kernel
theorem dX8_step_143 : decode cX8_step 143 = .ok (.istore_n 3, 1) := by decide +kernel
theorem dX8_step_144 : decode cX8_step 144 = .ok (.aload_n 0, 1) := by decide +kernel
theorem dX8_step_145 : decode cX8_step 145 = .ok (.getfield 9, 3) := by decide +kernel
theorem dX8_step_148 : decode cX8_step 148 = .ok (.iload_n 2, 1) := by decide +kernel
theorem dX8_step_149 : decode cX8_step 149 = .ok (.iconst 2, 1) := by decide +kernel
theorem dX8_step_150 : decode cX8_step 150 = .ok (.iadd, 1) := by decide +kernel
theorem dX8_step_151 : decode cX8_step 151 = .ok (.iaload, 1) := by decide +kernel
theorem dX8_step_152 : decode cX8_step 152 = .ok (.istore 4, 2) := by decide +kernel
theorem dX8_step_154 : decode cX8_step 154 = .ok (.aload_n 0, 1) := by decide +kernel
theorem dX8_step_155 : decode cX8_step 155 = .ok (.getfield 9, 3) := by decide +kernel
theorem dX8_step_158 : decode cX8_step 158 = .ok (.sipush 925, 3) := by decide +kernel
theorem dX8_step_161 : decode cX8_step 161 = .ok (.aload_n 0, 1) := by decide +kernel
theorem dX8_step_162 : decode cX8_step 162 = .ok (.getfield 9, 3) := by decide +kernel
def k174_4 : List (Nat × XI) := [(134, x_imul 135), (135, x_iadd 136), (136, x_istore 2 137), (137, x_aload 0 138), (138, x_getR 8 0 141), (141, x_iload 2 142), (142, x_iald 143), (143, x_istore 3 144), (144, x_aload 0 145), (145, x_getR 8 0 148), (148, x_iload 2 149), (149, x_push (2) 150), (150, x_iadd 151), (151, x_iald 152), (152, x_istore 4 154), (154, x_aload 0 155), (155, x_getR 8 0 158), (158, x_push (925) 161), (161, x_aload 0 162), (162, x_getR 8 0 165)]
theorem o174_4 (scr : Nat × (Nat → Int32)) : ∀ q ∈ k174_4, XSnd xm scr Y174 q.1 q.2 := xcons (s_imul dX8_step_134) (xcons (s_iadd dX8_step_135) (xcons (s_istore_n rfl dX8_step_136 (by decide)) (xcons (s_aload_n rfl dX8_step_137) (xcons (s_getR (f := 0) xC8 (by decide) xw_470 rfl dX8_step_138) (xcons (s_iload_n rfl dX8_step_141) (xcons (s_iald dX8_step_142) (xcons (s_istore_n rfl dX8_step_143 (by decide)) (xcons (s_aload_n rfl dX8_step_144) (xcons (s_getR (f := 0) xC8 (by decide) xw_470 rfl dX8_step_145) (xcons (s_iload_n rfl dX8_step_148) (xcons (s_iconst dX8_step_149 rfl) (xcons (s_iadd dX8_step_150) (xcons (s_iald dX8_step_151) (xcons (s_istore dX8_step_152 (by decide)) (xcons (s_aload_n rfl dX8_step_154) (xcons (s_getR (f := 0) xC8 (by decide) xw_470 rfl dX8_step_155) (xcons (s_sipush dX8_step_158 rfl) (xcons (s_aload_n rfl dX8_step_161) (xcons (s_getR (f := 0) xC8 (by decide) xw_470 rfl dX8_step_162) (xnil))))))))))))))))))))
theorem dX8_step_165 : decode cX8_step 165 = .ok (.iload_n 2, 1) := by decide +kernel
theorem dX8_step_166 : decode cX8_step 166 = .ok (.iconst 1, 1) := by decide +kernel
theorem dX8_step_167 : decode cX8_step 167 = .ok (.iadd, 1) := by decide +kernel
theorem dX8_step_168 : decode cX8_step 168 = .ok (.iaload, 1) := by decide +kernel
theorem dX8_step_169 : decode cX8_step 169 = .ok (.iastore, 1) := by decide +kernel
theorem dX8_step_170 : decode cX8_step 170 = .ok (.aload_n 0, 1) := by decide +kernel
theorem dX8_step_171 : decode cX8_step 171 = .ok (.getfield 9, 3) := by decide +kernel
theorem dX8_step_174 : decode cX8_step 174 = .ok (.sipush 931, 3) := by decide +kernel
theorem dX8_step_177 : decode cX8_step 177 = .ok (.dup2, 1) := by decide +kernel
theorem dX8_step_178 : decode cX8_step 178 = .ok (.iaload, 1) := by decide +kernel
theorem dX8_step_179 : decode cX8_step 179 = .ok (.iconst 1, 1) := by decide +kernel
theorem dX8_step_180 : decode cX8_step 180 = .ok (.isub, 1) := by decide +kernel
theorem dX8_step_181 : decode cX8_step 181 = .ok (.iastore, 1) := by decide +kernel
theorem dX8_step_182 : decode cX8_step 182 = .ok (.iload_n 2, 1) := by decide +kernel
theorem dX8_step_183 : decode cX8_step 183 = .ok (.istore 5, 2) := by decide +kernel
theorem dX8_step_185 : decode cX8_step 185 = .ok (.iload 5, 2) := by decide +kernel
theorem dX8_step_187 : decode cX8_step 187 = .ok (.sipush 932, 3) := by decide +kernel
theorem dX8_step_190 : decode cX8_step 190 = .ok (.iconst 3, 1) := by decide +kernel
theorem dX8_step_191 : decode cX8_step 191 = .ok (.aload_n 0, 1) := by decide +kernel
theorem dX8_step_192 : decode cX8_step 192 = .ok (.getfield 9, 3) := by decide +kernel
def k174_5 : List (Nat × XI) := [(165, x_iload 2 166), (166, x_push (1) 167), (167, x_iadd 168), (168, x_iald 169), (169, x_iast 170), (170, x_aload 0 171), (171, x_getR 8 0 174), (174, x_push (931) 177), (177, x_dup2 178), (178, x_iald 179), (179, x_push (1) 180), (180, x_isub 181), (181, x_iast 182), (182, x_iload 2 183), (183, x_istore 5 185), (185, x_iload 5 187), (187, x_push (932) 190), (190, x_push (3) 191), (191, x_aload 0 192), (192, x_getR 8 0 195)]
theorem o174_5 (scr : Nat × (Nat → Int32)) : ∀ q ∈ k174_5, XSnd xm scr Y174 q.1 q.2 := xcons (s_iload_n rfl dX8_step_165) (xcons (s_iconst dX8_step_166 rfl) (xcons (s_iadd dX8_step_167) (xcons (s_iald dX8_step_168) (xcons (s_iast dX8_step_169) (xcons (s_aload_n rfl dX8_step_170) (xcons (s_getR (f := 0) xC8 (by decide) xw_470 rfl dX8_step_171) (xcons (s_sipush dX8_step_174 rfl) (xcons (s_dup2 dX8_step_177) (xcons (s_iald dX8_step_178) (xcons (s_iconst dX8_step_179 rfl) (xcons (s_isub dX8_step_180) (xcons (s_iast dX8_step_181) (xcons (s_iload_n rfl dX8_step_182) (xcons (s_istore dX8_step_183 (by decide)) (xcons (s_iload dX8_step_185) (xcons (s_sipush dX8_step_187 rfl) (xcons (s_iconst dX8_step_190 rfl) (xcons (s_aload_n rfl dX8_step_191) (xcons (s_getR (f := 0) xC8 (by decide) xw_470 rfl dX8_step_192) (xnil))))))))))))))))))))
theorem dX8_step_195 : decode cX8_step 195 = .ok (.sipush 931, 3) := by decide +kernel
theorem dX8_step_198 : decode cX8_step 198 = .ok (.iaload, 1) := by decide +kernel
theorem dX8_step_199 : decode cX8_step 199 = .ok (.imul, 1) := by decide +kernel
theorem dX8_step_200 : decode cX8_step 200 = .ok (.iadd, 1) := by decide +kernel
theorem dX8_step_201 : decode cX8_step 201 = .ok (.if_icmp .ge 25, 3) := by decide +kernel
theorem dX8_step_204 : decode cX8_step 204 = .ok (.aload_n 0, 1) := by decide +kernel
theorem dX8_step_205 : decode cX8_step 205 = .ok (.getfield 9, 3) := by decide +kernel
theorem dX8_step_208 : decode cX8_step 208 = .ok (.iload 5, 2) := by decide +kernel
theorem dX8_step_210 : decode cX8_step 210 = .ok (.aload_n 0, 1) := by decide +kernel
theorem dX8_step_211 : decode cX8_step 211 = .ok (.getfield 9, 3) := by decide +kernel
theorem dX8_step_214 : decode cX8_step 214 = .ok (.iload 5, 2) := by decide +kernel
theorem dX8_step_216 : decode cX8_step 216 = .ok (.iconst 3, 1) := by decide +kernel
theorem dX8_step_217 : decode cX8_step 217 = .ok (.iadd, 1) := by decide +kernel
theorem dX8_step_218 : decode cX8_step 218 = .ok (.iaload, 1) := by decide +kernel
theorem dX8_step_219 : decode cX8_step 219 = .ok (.iastore, 1) := by decide +kernel
theorem dX8_step_220 : decode cX8_step 220 = .ok (.iinc 5 1, 3) := by decide +kernel
theorem dX8_step_223 : decode cX8_step 223 = .ok (.goto (-38), 3) := by decide +kernel
theorem dX8_step_226 : decode cX8_step 226 = .ok (.aload_n 0, 1) := by decide +kernel
theorem dX8_step_227 : decode cX8_step 227 = .ok (.iload_n 3, 1) := by decide +kernel
theorem dX8_step_228 : decode cX8_step 228 = .ok (.iconst (-1), 1) := by decide +kernel
def k174_6 : List (Nat × XI) := [(195, x_push (931) 198), (198, x_iald 199), (199, x_imul 200), (200, x_iadd 201), (201, x_icge 226 204), (204, x_aload 0 205), (205, x_getR 8 0 208), (208, x_iload 5 210), (210, x_aload 0 211), (211, x_getR 8 0 214), (214, x_iload 5 216), (216, x_push (3) 217), (217, x_iadd 218), (218, x_iald 219), (219, x_iast 220), (220, x_iinc 5 (1) 223), (223, x_goto 185), (226, x_aload 0 227), (227, x_iload 3 228), (228, x_push (-1) 229)]
theorem o174_6 (scr : Nat × (Nat → Int32)) : ∀ q ∈ k174_6, XSnd xm scr Y174 q.1 q.2 := xcons (s_sipush dX8_step_195 rfl) (xcons (s_iald dX8_step_198) (xcons (s_imul dX8_step_199) (xcons (s_iadd dX8_step_200) (xcons (s_icge dX8_step_201 rfl) (xcons (s_aload_n rfl dX8_step_204) (xcons (s_getR (f := 0) xC8 (by decide) xw_470 rfl dX8_step_205) (xcons (s_iload dX8_step_208) (xcons (s_aload_n rfl dX8_step_210) (xcons (s_getR (f := 0) xC8 (by decide) xw_470 rfl dX8_step_211) (xcons (s_iload dX8_step_214) (xcons (s_iconst dX8_step_216 rfl) (xcons (s_iadd dX8_step_217) (xcons (s_iald dX8_step_218) (xcons (s_iast dX8_step_219) (xcons (s_iinc dX8_step_220 rfl (by decide)) (xcons (s_goto dX8_step_223 rfl) (xcons (s_aload_n rfl dX8_step_226) (xcons (s_iload_n rfl dX8_step_227) (xcons (s_iconst dX8_step_228 rfl) (xnil))))))))))))))))))))
theorem dX8_step_229 : decode cX8_step 229 = .ok (.iload 4, 2) := by decide +kernel
theorem dX8_step_231 : decode cX8_step 231 = .ok (.invokevirtual 84, 3) := by decide +kernel
theorem dX8_step_234 : decode cX8_step 234 = .ok (.pop, 1) := by decide +kernel
theorem dX8_step_235 : decode cX8_step 235 = .ok (.return_, 1) := by decide +kernel
def k174_7 : List (Nat × XI) := [(229, x_iload 4 231), (231, x_inv 171 8 3 234), (234, x_pop 235), (235, x_ret)]
theorem o174_7 (scr : Nat × (Nat → Int32)) : ∀ q ∈ k174_7, XSnd xm scr Y174 q.1 q.2 := xcons (s_iload dX8_step_229) (xcons (s_inv (mid := 171) xC8 cal_171 xw_524 xw_525 xw_526 dX8_step_231) (xcons (s_pop dX8_step_234) (xcons (s_ret dX8_step_235 rfl) (xnil))))
def k174 (pc : Nat) : XI := if pc < 134 then if pc < 65 then if pc < 33 then xlk k174_0 pc else xlk k174_1 pc else if pc < 104 then xlk k174_2 pc else xlk k174_3 pc else if pc < 195 then if pc < 165 then xlk k174_4 pc else xlk k174_5 pc else if pc < 229 then xlk k174_6 pc else xlk k174_7 pc
theorem o174 (scr : Nat × (Nat → Int32)) (pc : Nat) : XSnd xm scr Y174 pc (k174 pc) := by
  unfold k174
  exact xite (xite (xite (xlk_ok (o174_0 scr) pc) (xlk_ok (o174_1 scr) pc)) (xite (xlk_ok (o174_2 scr) pc) (xlk_ok (o174_3 scr) pc))) (xite (xite (xlk_ok (o174_4 scr) pc) (xlk_ok (o174_5 scr) pc)) (xite (xlk_ok (o174_6 scr) pc) (xlk_ok (o174_7 scr) pc)))
theorem dX8_stop_0 : decode cX8_stop 0 = .ok (.aload_n 0, 1) := by decide +kernel
theorem dX8_stop_1 : decode cX8_stop 1 = .ok (.iload_n 1, 1) := by decide +kernel
theorem dX8_stop_2 : decode cX8_stop 2 = .ok (.invokevirtual 167, 3) := by decide +kernel
theorem dX8_stop_5 : decode cX8_stop 5 = .ok (.ifCond .ne 5, 3) := by decide +kernel
theorem dX8_stop_8 : decode cX8_stop 8 = .ok (.iconst (-1), 1) := by decide +kernel
theorem dX8_stop_9 : decode cX8_stop 9 = .ok (.ireturn, 1) := by decide +kernel
theorem dX8_stop_10 : decode cX8_stop 10 = .ok (.aload_n 0, 1) := by decide +kernel
theorem dX8_stop_11 : decode cX8_stop 11 = .ok (.iload_n 1, 1) := by decide +kernel
theorem dX8_stop_12 : decode cX8_stop 12 = .ok (.invokevirtual 59, 3) := by decide +kernel
theorem dX8_stop_15 : decode cX8_stop 15 = .ok (.ifCond .ne 6, 3) := by decide +kernel
theorem dX8_stop_18 : decode cX8_stop 18 = .ok (.bipush (-5), 2) := by decide +kernel
theorem dX8_stop_20 : decode cX8_stop 20 = .ok (.ireturn, 1) := by decide +kernel
theorem dX8_stop_21 : decode cX8_stop 21 = .ok (.aload_n 0, 1) := by decide +kernel
theorem dX8_stop_22 : decode cX8_stop 22 = .ok (.invokevirtual 191, 3) := by decide +kernel
theorem dX8_stop_25 : decode cX8_stop 25 = .ok (.invokestatic 194, 3) := by decide +kernel
theorem dX8_stop_28 : decode cX8_stop 28 = .ok (.istore_n 2, 1) := by decide +kernel
theorem dX8_stop_29 : decode cX8_stop 29 = .ok (.aload_n 0, 1) := by decide +kernel
theorem dX8_stop_30 : decode cX8_stop 30 = .ok (.iload_n 1, 1) := by decide +kernel
theorem dX8_stop_31 : decode cX8_stop 31 = .ok (.invokevirtual 71, 3) := by decide +kernel
theorem dX8_stop_34 : decode cX8_stop 34 = .ok (.iload_n 2, 1) := by decide +kernel
def k175_0 : List (Nat × XI) := [(0, x_aload 0 1), (1, x_iload 1 2), (2, x_inv 136 8 1 5), (5, x_ifne 10 8), (8, x_push (-1) 9), (9, x_iret), (10, x_aload 0 11), (11, x_iload 1 12), (12, x_inv 140 8 1 15), (15, x_ifne 21 18), (18, x_push (-5) 20), (20, x_iret), (21, x_aload 0 22), (22, x_inv 147 8 0 25), (25, x_invS 110 1 28), (28, x_istore 2 29), (29, x_aload 0 30), (30, x_iload 1 31), (31, x_inv 176 8 1 34), (34, x_iload 2 35)]
theorem o175_0 (scr : Nat × (Nat → Int32)) : ∀ q ∈ k175_0, XSnd xm scr Y175 q.1 q.2 := xcons (s_aload_n rfl dX8_stop_0) (xcons (s_iload_n rfl dX8_stop_1) (xcons (s_inv (mid := 136) xC8 cal_136 xw_483 xw_484 xw_485 dX8_stop_2) (xcons (s_ifne dX8_stop_5 rfl) (xcons (s_iconst dX8_stop_8 rfl) (xcons (s_iret dX8_stop_9 rfl) (xcons (s_aload_n rfl dX8_stop_10) (xcons (s_iload_n rfl dX8_stop_11) (xcons (s_inv (mid := 140) xC8 cal_140 xw_490 xw_491 xw_492 dX8_stop_12) (xcons (s_ifne dX8_stop_15 rfl) (xcons (s_bipush dX8_stop_18 rfl) (xcons (s_iret dX8_stop_20 rfl) (xcons (s_aload_n rfl dX8_stop_21) (xcons (s_inv (mid := 147) xC8 cal_147 xw_496 xw_497 xw_498 dX8_stop_22) (xcons (s_invS (mid := 110) cal_110 xw_512 xw_513 dX8_stop_25) (xcons (s_istore_n rfl dX8_stop_28 (by decide)) (xcons (s_aload_n rfl dX8_stop_29) (xcons (s_iload_n rfl dX8_stop_30) (xcons (s_inv (mid := 176) xC8 cal_176 xw_544 xw_545 xw_546 dX8_stop_31) (xcons (s_iload_n rfl dX8_stop_34) (xnil))))))))))))))))))))
theorem dX8_stop_35 : decode cX8_stop 35 = .ok (.aload_n 0, 1) := by decide +kernel
theorem dX8_stop_36 : decode cX8_stop 36 = .ok (.invokevirtual 191, 3) := by decide +kernel
theorem dX8_stop_39 : decode cX8_stop 39 = .ok (.invokestatic 194, 3) := by decide +kernel
theorem dX8_stop_42 : decode cX8_stop 42 = .ok (.isub, 1) := by decide +kernel
theorem dX8_stop_43 : decode cX8_stop 43 = .ok (.ireturn, 1) := by decide +kernel
def k175_1 : List (Nat × XI) := [(35, x_aload 0 36), (36, x_inv 147 8 0 39), (39, x_invS 110 1 42), (42, x_isub 43), (43, x_iret)]
theorem o175_1 (scr : Nat × (Nat → Int32)) : ∀ q ∈ k175_1, XSnd xm scr Y175 q.1 q.2 := xcons (s_aload_n rfl dX8_stop_35) (xcons (s_inv (mid := 147) xC8 cal_147 xw_496 xw_497 xw_498 dX8_stop_36) (xcons (s_invS (mid := 110) cal_110 xw_512 xw_513 dX8_stop_39) (xcons (s_isub dX8_stop_42) (xcons (s_iret dX8_stop_43 rfl) (xnil)))))
def k175 (pc : Nat) : XI := if pc < 35 then xlk k175_0 pc else xlk k175_1 pc
theorem o175 (scr : Nat × (Nat → Int32)) (pc : Nat) : XSnd xm scr Y175 pc (k175 pc) := by
  unfold k175
  exact xite (xlk_ok (o175_0 scr) pc) (xlk_ok (o175_1 scr) pc)
theorem dX8_stops_0 : decode cX8_stops 0 = .ok (.aload_n 0, 1) := by decide +kernel
theorem dX8_stops_1 : decode cX8_stops 1 = .ok (.iload_n 1, 1) := by decide +kernel
theorem dX8_stops_2 : decode cX8_stops 2 = .ok (.invokevirtual 75, 3) := by decide +kernel
theorem dX8_stops_5 : decode cX8_stops 5 = .ok (.aload_n 0, 1) := by decide +kernel
theorem dX8_stops_6 : decode cX8_stops 6 = .ok (.iload_n 1, 1) := by decide +kernel
theorem dX8_stops_7 : decode cX8_stops 7 = .ok (.iconst 5, 1) := by decide +kernel
theorem dX8_stops_8 : decode cX8_stops 8 = .ok (.iconst 0, 1) := by decide +kernel
theorem dX8_stops_9 : decode cX8_stops 9 = .ok (.invokevirtual 63, 3) := by decide +kernel
theorem dX8_stops_12 : decode cX8_stops 12 = .ok (.aload_n 0, 1) := by decide +kernel
theorem dX8_stops_13 : decode cX8_stops 13 = .ok (.iload_n 1, 1) := by decide +kernel
theorem dX8_stops_14 : decode cX8_stops 14 = .ok (.bipush 13, 2) := by decide +kernel
theorem dX8_stops_16 : decode cX8_stops 16 = .ok (.iconst 0, 1) := by decide +kernel
theorem dX8_stops_17 : decode cX8_stops 17 = .ok (.invokevirtual 63, 3) := by decide +kernel
theorem dX8_stops_20 : decode cX8_stops 20 = .ok (.aload_n 0, 1) := by decide +kernel
theorem dX8_stops_21 : decode cX8_stops 21 = .ok (.iload_n 1, 1) := by decide +kernel
theorem dX8_stops_22 : decode cX8_stops 22 = .ok (.bipush 38, 2) := by decide +kernel
theorem dX8_stops_24 : decode cX8_stops 24 = .ok (.iconst 0, 1) := by decide +kernel
theorem dX8_stops_25 : decode cX8_stops 25 = .ok (.invokevirtual 63, 3) := by decide +kernel
theorem dX8_stops_28 : decode cX8_stops 28 = .ok (.aload_n 0, 1) := by decide +kernel
theorem dX8_stops_29 : decode cX8_stops 29 = .ok (.iload_n 1, 1) := by decide +kernel
def k176_0 : List (Nat × XI) := [(0, x_aload 0 1), (1, x_iload 1 2), (2, x_inv 177 8 1 5), (5, x_aload 0 6), (6, x_iload 1 7), (7, x_push (5) 8), (8, x_push (0) 9), (9, x_inv 172 8 3 12), (12, x_aload 0 13), (13, x_iload 1 14), (14, x_push (13) 16), (16, x_push (0) 17), (17, x_inv 172 8 3 20), (20, x_aload 0 21), (21, x_iload 1 22), (22, x_push (38) 24), (24, x_push (0) 25), (25, x_inv 172 8 3 28), (28, x_aload 0 29), (29, x_iload 1 30)]
theorem o176_0 (scr : Nat × (Nat → Int32)) : ∀ q ∈ k176_0, XSnd xm scr Y176 q.1 q.2 := xcons (s_aload_n rfl dX8_stops_0) (xcons (s_iload_n rfl dX8_stops_1) (xcons (s_inv (mid := 177) xC8 cal_177 xw_656 xw_657 xw_658 dX8_stops_2) (xcons (s_aload_n rfl dX8_stops_5) (xcons (s_iload_n rfl dX8_stops_6) (xcons (s_iconst dX8_stops_7 rfl) (xcons (s_iconst dX8_stops_8 rfl) (xcons (s_inv (mid := 172) xC8 cal_172 xw_472 xw_473 xw_474 dX8_stops_9) (xcons (s_aload_n rfl dX8_stops_12) (xcons (s_iload_n rfl dX8_stops_13) (xcons (s_bipush dX8_stops_14 rfl) (xcons (s_iconst dX8_stops_16 rfl) (xcons (s_inv (mid := 172) xC8 cal_172 xw_472 xw_473 xw_474 dX8_stops_17) (xcons (s_aload_n rfl dX8_stops_20) (xcons (s_iload_n rfl dX8_stops_21) (xcons (s_bipush dX8_stops_22 rfl) (xcons (s_iconst dX8_stops_24 rfl) (xcons (s_inv (mid := 172) xC8 cal_172 xw_472 xw_473 xw_474 dX8_stops_25) (xcons (s_aload_n rfl dX8_stops_28) (xcons (s_iload_n rfl dX8_stops_29) (xnil))))))))))))))))))))
theorem dX8_stops_30 : decode cX8_stops 30 = .ok (.invokevirtual 78, 3) := by decide +kernel
theorem dX8_stops_33 : decode cX8_stops 33 = .ok (.aload_n 0, 1) := by decide +kernel
theorem dX8_stops_34 : decode cX8_stops 34 = .ok (.iload_n 1, 1) := by decide +kernel
theorem dX8_stops_35 : decode cX8_stops 35 = .ok (.invokevirtual 81, 3) := by decide +kernel
theorem dX8_stops_38 : decode cX8_stops 38 = .ok (.aload_n 0, 1) := by decide +kernel
theorem dX8_stops_39 : decode cX8_stops 39 = .ok (.iload_n 1, 1) := by decide +kernel
theorem dX8_stops_40 : decode cX8_stops 40 = .ok (.bipush 51, 2) := by decide +kernel
theorem dX8_stops_42 : decode cX8_stops 42 = .ok (.invokevirtual 55, 3) := by decide +kernel
theorem dX8_stops_45 : decode cX8_stops 45 = .ok (.istore_n 2, 1) := by decide +kernel
theorem dX8_stops_46 : decode cX8_stops 46 = .ok (.aload_n 0, 1) := by decide +kernel
theorem dX8_stops_47 : decode cX8_stops 47 = .ok (.iload_n 1, 1) := by decide +kernel
theorem dX8_stops_48 : decode cX8_stops 48 = .ok (.bipush 51, 2) := by decide +kernel
theorem dX8_stops_50 : decode cX8_stops 50 = .ok (.iconst 0, 1) := by decide +kernel
theorem dX8_stops_51 : decode cX8_stops 51 = .ok (.invokevirtual 63, 3) := by decide +kernel
theorem dX8_stops_54 : decode cX8_stops 54 = .ok (.iconst 0, 1) := by decide +kernel
theorem dX8_stops_55 : decode cX8_stops 55 = .ok (.istore_n 3, 1) := by decide +kernel
theorem dX8_stops_56 : decode cX8_stops 56 = .ok (.iload_n 3, 1) := by decide +kernel
theorem dX8_stops_57 : decode cX8_stops 57 = .ok (.iload_n 2, 1) := by decide +kernel
theorem dX8_stops_58 : decode cX8_stops 58 = .ok (.if_icmp .ge 29, 3) := by decide +kernel
theorem dX8_stops_61 : decode cX8_stops 61 = .ok (.aload_n 0, 1) := by decide +kernel
def k176_1 : List (Nat × XI) := [(30, x_inv 129 8 1 33), (33, x_aload 0 34), (34, x_iload 1 35), (35, x_inv 185 8 1 38), (38, x_aload 0 39), (39, x_iload 1 40), (40, x_push (51) 42), (42, x_inv 108 8 2 45), (45, x_istore 2 46), (46, x_aload 0 47), (47, x_iload 1 48), (48, x_push (51) 50), (50, x_push (0) 51), (51, x_inv 172 8 3 54), (54, x_push (0) 55), (55, x_istore 3 56), (56, x_iload 3 57), (57, x_iload 2 58), (58, x_icge 87 61), (61, x_aload 0 62)]
theorem o176_1 (scr : Nat × (Nat → Int32)) : ∀ q ∈ k176_1, XSnd xm scr Y176 q.1 q.2 := xcons (s_inv (mid := 129) xC8 cal_129 xw_660 xw_661 xw_662 dX8_stops_30) (xcons (s_aload_n rfl dX8_stops_33) (xcons (s_iload_n rfl dX8_stops_34) (xcons (s_inv (mid := 185) xC8 cal_185 xw_684 xw_685 xw_686 dX8_stops_35) (xcons (s_aload_n rfl dX8_stops_38) (xcons (s_iload_n rfl dX8_stops_39) (xcons (s_bipush dX8_stops_40 rfl) (xcons (s_inv (mid := 108) xC8 cal_108 xw_508 xw_509 xw_510 dX8_stops_42) (xcons (s_istore_n rfl dX8_stops_45 (by decide)) (xcons (s_aload_n rfl dX8_stops_46) (xcons (s_iload_n rfl dX8_stops_47) (xcons (s_bipush dX8_stops_48 rfl) (xcons (s_iconst dX8_stops_50 rfl) (xcons (s_inv (mid := 172) xC8 cal_172 xw_472 xw_473 xw_474 dX8_stops_51) (xcons (s_iconst dX8_stops_54 rfl) (xcons (s_istore_n rfl dX8_stops_55 (by decide)) (xcons (s_iload_n rfl dX8_stops_56) (xcons (s_iload_n rfl dX8_stops_57) (xcons (s_icge dX8_stops_58 rfl) (xcons (s_aload_n rfl dX8_stops_61) (xnil))))))))))))))))))))
theorem dX8_stops_62 : decode cX8_stops 62 = .ok (.aload_n 0, 1) := by decide +kernel
theorem dX8_stops_63 : decode cX8_stops 63 = .ok (.iload_n 1, 1) := by decide +kernel
theorem dX8_stops_64 : decode cX8_stops 64 = .ok (.bipush 52, 2) := by decide +kernel
theorem dX8_stops_66 : decode cX8_stops 66 = .ok (.iload_n 3, 1) := by decide +kernel
theorem dX8_stops_67 : decode cX8_stops 67 = .ok (.iadd, 1) := by decide +kernel
theorem dX8_stops_68 : decode cX8_stops 68 = .ok (.invokevirtual 55, 3) := by decide +kernel
theorem dX8_stops_71 : decode cX8_stops 71 = .ok (.iconst (-1), 1) := by decide +kernel
theorem dX8_stops_72 : decode cX8_stops 72 = .ok (.sipush 1000, 3) := by decide +kernel
theorem dX8_stops_75 : decode cX8_stops 75 = .ok (.iload_n 1, 1) := by decide +kernel
theorem dX8_stops_76 : decode cX8_stops 76 = .ok (.iadd, 1) := by decide +kernel
theorem dX8_stops_77 : decode cX8_stops 77 = .ok (.invokevirtual 84, 3) := by decide +kernel
theorem dX8_stops_80 : decode cX8_stops 80 = .ok (.pop, 1) := by decide +kernel
theorem dX8_stops_81 : decode cX8_stops 81 = .ok (.iinc 3 1, 3) := by decide +kernel
theorem dX8_stops_84 : decode cX8_stops 84 = .ok (.goto (-28), 3) := by decide +kernel
theorem dX8_stops_87 : decode cX8_stops 87 = .ok (.return_, 1) := by decide +kernel
def k176_2 : List (Nat × XI) := [(62, x_aload 0 63), (63, x_iload 1 64), (64, x_push (52) 66), (66, x_iload 3 67), (67, x_iadd 68), (68, x_inv 108 8 2 71), (71, x_push (-1) 72), (72, x_push (1000) 75), (75, x_iload 1 76), (76, x_iadd 77), (77, x_inv 171 8 3 80), (80, x_pop 81), (81, x_iinc 3 (1) 84), (84, x_goto 56), (87, x_ret)]
theorem o176_2 (scr : Nat × (Nat → Int32)) : ∀ q ∈ k176_2, XSnd xm scr Y176 q.1 q.2 := xcons (s_aload_n rfl dX8_stops_62) (xcons (s_iload_n rfl dX8_stops_63) (xcons (s_bipush dX8_stops_64 rfl) (xcons (s_iload_n rfl dX8_stops_66) (xcons (s_iadd dX8_stops_67) (xcons (s_inv (mid := 108) xC8 cal_108 xw_508 xw_509 xw_510 dX8_stops_68) (xcons (s_iconst dX8_stops_71 rfl) (xcons (s_sipush dX8_stops_72 rfl) (xcons (s_iload_n rfl dX8_stops_75) (xcons (s_iadd dX8_stops_76) (xcons (s_inv (mid := 171) xC8 cal_171 xw_524 xw_525 xw_526 dX8_stops_77) (xcons (s_pop dX8_stops_80) (xcons (s_iinc dX8_stops_81 rfl (by decide)) (xcons (s_goto dX8_stops_84 rfl) (xcons (s_ret dX8_stops_87 rfl) (xnil)))))))))))))))
def k176 (pc : Nat) : XI := if pc < 30 then xlk k176_0 pc else if pc < 62 then xlk k176_1 pc else xlk k176_2 pc
theorem o176 (scr : Nat × (Nat → Int32)) (pc : Nat) : XSnd xm scr Y176 pc (k176 pc) := by
  unfold k176
  exact xite (xlk_ok (o176_0 scr) pc) (xite (xlk_ok (o176_1 scr) pc) (xlk_ok (o176_2 scr) pc))
theorem dX8_stopsChildren_0 : decode cX8_stopsChildren 0 = .ok (.aload_n 0, 1) := by decide +kernel
theorem dX8_stopsChildren_1 : decode cX8_stopsChildren 1 = .ok (.getfield 9, 3) := by decide +kernel
theorem dX8_stopsChildren_4 : decode cX8_stopsChildren 4 = .ok (.sipush 924, 3) := by decide +kernel
theorem dX8_stopsChildren_7 : decode cX8_stopsChildren 7 = .ok (.iaload, 1) := by decide +kernel
theorem dX8_stopsChildren_8 : decode cX8_stopsChildren 8 = .ok (.iconst 1, 1) := by decide +kernel
theorem dX8_stopsChildren_9 : decode cX8_stopsChildren 9 = .ok (.isub, 1) := by decide +kernel
theorem dX8_stopsChildren_10 : decode cX8_stopsChildren 10 = .ok (.istore_n 2, 1) := by decide +kernel
theorem dX8_stopsChildren_11 : decode cX8_stopsChildren 11 = .ok (.iload_n 2, 1) := by decide +kernel
theorem dX8_stopsChildren_12 : decode cX8_stopsChildren 12 = .ok (.iload_n 1, 1) := by decide +kernel
theorem dX8_stopsChildren_13 : decode cX8_stopsChildren 13 = .ok (.if_icmp .le 23, 3) := by decide +kernel
theorem dX8_stopsChildren_16 : decode cX8_stopsChildren 16 = .ok (.aload_n 0, 1) := by decide +kernel
theorem dX8_stopsChildren_17 : decode cX8_stopsChildren 17 = .ok (.iload_n 2, 1) := by decide +kernel
theorem dX8_stopsChildren_18 : decode cX8_stopsChildren 18 = .ok (.iload_n 1, 1) := by decide +kernel
theorem dX8_stopsChildren_19 : decode cX8_stopsChildren 19 = .ok (.invokevirtual 67, 3) := by decide +kernel
theorem dX8_stopsChildren_22 : decode cX8_stopsChildren 22 = .ok (.ifCond .eq 8, 3) := by decide +kernel
theorem dX8_stopsChildren_25 : decode cX8_stopsChildren 25 = .ok (.aload_n 0, 1) := by decide +kernel
theorem dX8_stopsChildren_26 : decode cX8_stopsChildren 26 = .ok (.iload_n 2, 1) := by decide +kernel
theorem dX8_stopsChildren_27 : decode cX8_stopsChildren 27 = .ok (.invokevirtual 71, 3) := by decide +kernel
theorem dX8_stopsChildren_30 : decode cX8_stopsChildren 30 = .ok (.iinc 2 (-1), 3) := by decide +kernel
theorem dX8_stopsChildren_33 : decode cX8_stopsChildren 33 = .ok (.goto (-22), 3) := by decide +kernel
def k177_0 : List (Nat × XI) := [(0, x_aload 0 1), (1, x_getR 8 0 4), (4, x_push (924) 7), (7, x_iald 8), (8, x_push (1) 9), (9, x_isub 10), (10, x_istore 2 11), (11, x_iload 2 12), (12, x_iload 1 13), (13, x_icle 36 16), (16, x_aload 0 17), (17, x_iload 2 18), (18, x_iload 1 19), (19, x_inv 141 8 2 22), (22, x_ifeq 30 25), (25, x_aload 0 26), (26, x_iload 2 27), (27, x_inv 176 8 1 30), (30, x_iinc 2 (-1) 33), (33, x_goto 11)]
theorem o177_0 (scr : Nat × (Nat → Int32)) : ∀ q ∈ k177_0, XSnd xm scr Y177 q.1 q.2 := xcons (s_aload_n rfl dX8_stopsChildren_0) (xcons (s_getR (f := 0) xC8 (by decide) xw_470 rfl dX8_stopsChildren_1) (xcons (s_sipush dX8_stopsChildren_4 rfl) (xcons (s_iald dX8_stopsChildren_7) (xcons (s_iconst dX8_stopsChildren_8 rfl) (xcons (s_isub dX8_stopsChildren_9) (xcons (s_istore_n rfl dX8_stopsChildren_10 (by decide)) (xcons (s_iload_n rfl dX8_stopsChildren_11) (xcons (s_iload_n rfl dX8_stopsChildren_12) (xcons (s_icle dX8_stopsChildren_13 rfl) (xcons (s_aload_n rfl dX8_stopsChildren_16) (xcons (s_iload_n rfl dX8_stopsChildren_17) (xcons (s_iload_n rfl dX8_stopsChildren_18) (xcons (s_inv (mid := 141) xC8 cal_141 xw_570 xw_571 xw_572 dX8_stopsChildren_19) (xcons (s_ifeq dX8_stopsChildren_22 rfl) (xcons (s_aload_n rfl dX8_stopsChildren_25) (xcons (s_iload_n rfl dX8_stopsChildren_26) (xcons (s_inv (mid := 176) xC8 cal_176 xw_544 xw_545 xw_546 dX8_stopsChildren_27) (xcons (s_iinc dX8_stopsChildren_30 rfl (by decide)) (xcons (s_goto dX8_stopsChildren_33 rfl) (xnil))))))))))))))))))))
theorem dX8_stopsChildren_36 : decode cX8_stopsChildren 36 = .ok (.return_, 1) := by decide +kernel
def k177_1 : List (Nat × XI) := [(36, x_ret)]
theorem o177_1 (scr : Nat × (Nat → Int32)) : ∀ q ∈ k177_1, XSnd xm scr Y177 q.1 q.2 := xcons (s_ret dX8_stopsChildren_36 rfl) (xnil)
def k177 (pc : Nat) : XI := if pc < 36 then xlk k177_0 pc else xlk k177_1 pc
theorem o177 (scr : Nat × (Nat → Int32)) (pc : Nat) : XSnd xm scr Y177 pc (k177 pc) := by
  unfold k177
  exact xite (xlk_ok (o177_0 scr) pc) (xlk_ok (o177_1 scr) pc)
theorem dX8_switches_0 : decode cX8_switches 0 = .ok (.aload_n 0, 1) := by decide +kernel
theorem dX8_switches_1 : decode cX8_switches 1 = .ok (.iload_n 1, 1) := by decide +kernel
theorem dX8_switches_2 : decode cX8_switches 2 = .ok (.bipush 7, 2) := by decide +kernel
theorem dX8_switches_4 : decode cX8_switches 4 = .ok (.invokevirtual 55, 3) := by decide +kernel
theorem dX8_switches_7 : decode cX8_switches 7 = .ok (.istore_n 3, 1) := by decide +kernel
theorem dX8_switches_8 : decode cX8_switches 8 = .ok (.iload_n 2, 1) := by decide +kernel
theorem dX8_switches_9 : decode cX8_switches 9 = .ok (.ifCond .ge 25, 3) := by decide +kernel
theorem dX8_switches_12 : decode cX8_switches 12 = .ok (.aload_n 0, 1) := by decide +kernel
theorem dX8_switches_13 : decode cX8_switches 13 = .ok (.iload_n 1, 1) := by decide +kernel
theorem dX8_switches_14 : decode cX8_switches 14 = .ok (.bipush 7, 2) := by decide +kernel
theorem dX8_switches_16 : decode cX8_switches 16 = .ok (.iload_n 3, 1) := by decide +kernel
theorem dX8_switches_17 : decode cX8_switches 17 = .ok (.iconst 1, 1) := by decide +kernel
theorem dX8_switches_18 : decode cX8_switches 18 = .ok (.if_icmp .le 9, 3) := by decide +kernel
theorem dX8_switches_21 : decode cX8_switches 21 = .ok (.iload_n 3, 1) := by decide +kernel
theorem dX8_switches_22 : decode cX8_switches 22 = .ok (.iconst 1, 1) := by decide +kernel
theorem dX8_switches_23 : decode cX8_switches 23 = .ok (.isub, 1) := by decide +kernel
theorem dX8_switches_24 : decode cX8_switches 24 = .ok (.goto 4, 3) := by decide +kernel
theorem dX8_switches_27 : decode cX8_switches 27 = .ok (.iconst 1, 1) := by decide +kernel
theorem dX8_switches_28 : decode cX8_switches 28 = .ok (.invokevirtual 63, 3) := by decide +kernel
theorem dX8_switches_31 : decode cX8_switches 31 = .ok (.goto 40, 3) := by decide +kernel
def k178_0 : List (Nat × XI) := [(0, x_aload 0 1), (1, x_iload 1 2), (2, x_push (7) 4), (4, x_inv 108 8 2 7), (7, x_istore 3 8), (8, x_iload 2 9), (9, x_ifge 34 12), (12, x_aload 0 13), (13, x_iload 1 14), (14, x_push (7) 16), (16, x_iload 3 17), (17, x_push (1) 18), (18, x_icle 27 21), (21, x_iload 3 22), (22, x_push (1) 23), (23, x_isub 24), (24, x_goto 28), (27, x_push (1) 28), (28, x_inv 172 8 3 31), (31, x_goto 71)]
theorem o178_0 (scr : Nat × (Nat → Int32)) : ∀ q ∈ k178_0, XSnd xm scr Y178 q.1 q.2 := xcons (s_aload_n rfl dX8_switches_0) (xcons (s_iload_n rfl dX8_switches_1) (xcons (s_bipush dX8_switches_2 rfl) (xcons (s_inv (mid := 108) xC8 cal_108 xw_508 xw_509 xw_510 dX8_switches_4) (xcons (s_istore_n rfl dX8_switches_7 (by decide)) (xcons (s_iload_n rfl dX8_switches_8) (xcons (s_ifge dX8_switches_9 rfl) (xcons (s_aload_n rfl dX8_switches_12) (xcons (s_iload_n rfl dX8_switches_13) (xcons (s_bipush dX8_switches_14 rfl) (xcons (s_iload_n rfl dX8_switches_16) (xcons (s_iconst dX8_switches_17 rfl) (xcons (s_icle dX8_switches_18 rfl) (xcons (s_iload_n rfl dX8_switches_21) (xcons (s_iconst dX8_switches_22 rfl) (xcons (s_isub dX8_switches_23) (xcons (s_goto dX8_switches_24 rfl) (xcons (s_iconst dX8_switches_27 rfl) (xcons (s_inv (mid := 172) xC8 cal_172 xw_472 xw_473 xw_474 dX8_switches_28) (xcons (s_goto dX8_switches_31 rfl) (xnil))))))))))))))))))))
theorem dX8_switches_34 : decode cX8_switches 34 = .ok (.iload_n 3, 1) := by decide +kernel
theorem dX8_switches_35 : decode cX8_switches 35 = .ok (.iconst 5, 1) := by decide +kernel
theorem dX8_switches_36 : decode cX8_switches 36 = .ok (.if_icmp .ne 12, 3) := by decide +kernel
theorem dX8_switches_39 : decode cX8_switches 39 = .ok (.aload_n 0, 1) := by decide +kernel
theorem dX8_switches_40 : decode cX8_switches 40 = .ok (.iload_n 1, 1) := by decide +kernel
theorem dX8_switches_41 : decode cX8_switches 41 = .ok (.iconst 4, 1) := by decide +kernel
theorem dX8_switches_42 : decode cX8_switches 42 = .ok (.invokevirtual 111, 3) := by decide +kernel
theorem dX8_switches_45 : decode cX8_switches 45 = .ok (.goto 26, 3) := by decide +kernel
theorem dX8_switches_48 : decode cX8_switches 48 = .ok (.aload_n 0, 1) := by decide +kernel
theorem dX8_switches_49 : decode cX8_switches 49 = .ok (.iload_n 1, 1) := by decide +kernel
theorem dX8_switches_50 : decode cX8_switches 50 = .ok (.bipush 8, 2) := by decide +kernel
theorem dX8_switches_52 : decode cX8_switches 52 = .ok (.iload_n 3, 1) := by decide +kernel
theorem dX8_switches_53 : decode cX8_switches 53 = .ok (.iadd, 1) := by decide +kernel
theorem dX8_switches_54 : decode cX8_switches 54 = .ok (.iload_n 2, 1) := by decide +kernel
theorem dX8_switches_55 : decode cX8_switches 55 = .ok (.bipush 10, 2) := by decide +kernel
theorem dX8_switches_57 : decode cX8_switches 57 = .ok (.irem, 1) := by decide +kernel
theorem dX8_switches_58 : decode cX8_switches 58 = .ok (.invokevirtual 63, 3) := by decide +kernel
theorem dX8_switches_61 : decode cX8_switches 61 = .ok (.aload_n 0, 1) := by decide +kernel
theorem dX8_switches_62 : decode cX8_switches 62 = .ok (.iload_n 1, 1) := by decide +kernel
theorem dX8_switches_63 : decode cX8_switches 63 = .ok (.bipush 7, 2) := by decide +kernel
def k178_1 : List (Nat × XI) := [(34, x_iload 3 35), (35, x_push (5) 36), (36, x_icne 48 39), (39, x_aload 0 40), (40, x_iload 1 41), (41, x_push (4) 42), (42, x_inv 125 8 2 45), (45, x_goto 71), (48, x_aload 0 49), (49, x_iload 1 50), (50, x_push (8) 52), (52, x_iload 3 53), (53, x_iadd 54), (54, x_iload 2 55), (55, x_push (10) 57), (57, x_irem 58), (58, x_inv 172 8 3 61), (61, x_aload 0 62), (62, x_iload 1 63), (63, x_push (7) 65)]
theorem o178_1 (scr : Nat × (Nat → Int32)) : ∀ q ∈ k178_1, XSnd xm scr Y178 q.1 q.2 := xcons (s_iload_n rfl dX8_switches_34) (xcons (s_iconst dX8_switches_35 rfl) (xcons (s_icne dX8_switches_36 rfl) (xcons (s_aload_n rfl dX8_switches_39) (xcons (s_iload_n rfl dX8_switches_40) (xcons (s_iconst dX8_switches_41 rfl) (xcons (s_inv (mid := 125) xC8 cal_125 xw_501 xw_502 xw_503 dX8_switches_42) (xcons (s_goto dX8_switches_45 rfl) (xcons (s_aload_n rfl dX8_switches_48) (xcons (s_iload_n rfl dX8_switches_49) (xcons (s_bipush dX8_switches_50 rfl) (xcons (s_iload_n rfl dX8_switches_52) (xcons (s_iadd dX8_switches_53) (xcons (s_iload_n rfl dX8_switches_54) (xcons (s_bipush dX8_switches_55 rfl) (xcons (s_irem dX8_switches_57) (xcons (s_inv (mid := 172) xC8 cal_172 xw_472 xw_473 xw_474 dX8_switches_58) (xcons (s_aload_n rfl dX8_switches_61) (xcons (s_iload_n rfl dX8_switches_62) (xcons (s_bipush dX8_switches_63 rfl) (xnil))))))))))))))))))))
theorem dX8_switches_65 : decode cX8_switches 65 = .ok (.iload_n 3, 1) := by decide +kernel
theorem dX8_switches_66 : decode cX8_switches 66 = .ok (.iconst 1, 1) := by decide +kernel
theorem dX8_switches_67 : decode cX8_switches 67 = .ok (.iadd, 1) := by decide +kernel
theorem dX8_switches_68 : decode cX8_switches 68 = .ok (.invokevirtual 63, 3) := by decide +kernel
theorem dX8_switches_71 : decode cX8_switches 71 = .ok (.return_, 1) := by decide +kernel
def k178_2 : List (Nat × XI) := [(65, x_iload 3 66), (66, x_push (1) 67), (67, x_iadd 68), (68, x_inv 172 8 3 71), (71, x_ret)]
theorem o178_2 (scr : Nat × (Nat → Int32)) : ∀ q ∈ k178_2, XSnd xm scr Y178 q.1 q.2 := xcons (s_iload_n rfl dX8_switches_65) (xcons (s_iconst dX8_switches_66 rfl) (xcons (s_iadd dX8_switches_67) (xcons (s_inv (mid := 172) xC8 cal_172 xw_472 xw_473 xw_474 dX8_switches_68) (xcons (s_ret dX8_switches_71 rfl) (xnil)))))
def k178 (pc : Nat) : XI := if pc < 34 then xlk k178_0 pc else if pc < 65 then xlk k178_1 pc else xlk k178_2 pc
theorem o178 (scr : Nat × (Nat → Int32)) (pc : Nat) : XSnd xm scr Y178 pc (k178 pc) := by
  unfold k178
  exact xite (xlk_ok (o178_0 scr) pc) (xite (xlk_ok (o178_1 scr) pc) (xlk_ok (o178_2 scr) pc))
theorem dX8_take_0 : decode cX8_take 0 = .ok (.iconst 0, 1) := by decide +kernel
theorem dX8_take_1 : decode cX8_take 1 = .ok (.istore_n 2, 1) := by decide +kernel
theorem dX8_take_2 : decode cX8_take 2 = .ok (.iload_n 2, 1) := by decide +kernel
theorem dX8_take_3 : decode cX8_take 3 = .ok (.sipush 1018, 3) := by decide +kernel
theorem dX8_take_6 : decode cX8_take 6 = .ok (.if_icmp .ge 15, 3) := by decide +kernel
theorem dX8_take_9 : decode cX8_take 9 = .ok (.aload_n 1, 1) := by decide +kernel
theorem dX8_take_10 : decode cX8_take 10 = .ok (.iload_n 2, 1) := by decide +kernel
theorem dX8_take_11 : decode cX8_take 11 = .ok (.aload_n 0, 1) := by decide +kernel
theorem dX8_take_12 : decode cX8_take 12 = .ok (.iload_n 2, 1) := by decide +kernel
theorem dX8_take_13 : decode cX8_take 13 = .ok (.iaload, 1) := by decide +kernel
theorem dX8_take_14 : decode cX8_take 14 = .ok (.iastore, 1) := by decide +kernel
theorem dX8_take_15 : decode cX8_take 15 = .ok (.iinc 2 1, 3) := by decide +kernel
theorem dX8_take_18 : decode cX8_take 18 = .ok (.goto (-16), 3) := by decide +kernel
theorem dX8_take_21 : decode cX8_take 21 = .ok (.return_, 1) := by decide +kernel
def k179_0 : List (Nat × XI) := [(0, x_push (0) 1), (1, x_istore 2 2), (2, x_iload 2 3), (3, x_push (1018) 6), (6, x_icge 21 9), (9, x_aload 1 10), (10, x_iload 2 11), (11, x_aload 0 12), (12, x_iload 2 13), (13, x_iald 14), (14, x_iast 15), (15, x_iinc 2 (1) 18), (18, x_goto 2), (21, x_ret)]
theorem o179_0 (scr : Nat × (Nat → Int32)) : ∀ q ∈ k179_0, XSnd xm scr Y179 q.1 q.2 := xcons (s_iconst dX8_take_0 rfl) (xcons (s_istore_n rfl dX8_take_1 (by decide)) (xcons (s_iload_n rfl dX8_take_2) (xcons (s_sipush dX8_take_3 rfl) (xcons (s_icge dX8_take_6 rfl) (xcons (s_aload_n rfl dX8_take_9) (xcons (s_iload_n rfl dX8_take_10) (xcons (s_aload_n rfl dX8_take_11) (xcons (s_iload_n rfl dX8_take_12) (xcons (s_iald dX8_take_13) (xcons (s_iast dX8_take_14) (xcons (s_iinc dX8_take_15 rfl (by decide)) (xcons (s_goto dX8_take_18 rfl) (xcons (s_ret dX8_take_21 rfl) (xnil))))))))))))))
def k179 (pc : Nat) : XI := xlk k179_0 pc
theorem o179 (scr : Nat × (Nat → Int32)) (pc : Nat) : XSnd xm scr Y179 pc (k179 pc) := by
  unfold k179
  exact xlk_ok (o179_0 scr) pc
theorem dX8_tell_0 : decode cX8_tell 0 = .ok (.aload_n 0, 1) := by decide +kernel
theorem dX8_tell_1 : decode cX8_tell 1 = .ok (.iload_n 1, 1) := by decide +kernel
theorem dX8_tell_2 : decode cX8_tell 2 = .ok (.invokevirtual 167, 3) := by decide +kernel
theorem dX8_tell_5 : decode cX8_tell 5 = .ok (.ifCond .eq 23, 3) := by decide +kernel
theorem dX8_tell_8 : decode cX8_tell 8 = .ok (.iload_n 2, 1) := by decide +kernel
theorem dX8_tell_9 : decode cX8_tell 9 = .ok (.iconst (-1), 1) := by decide +kernel
theorem dX8_tell_10 : decode cX8_tell 10 = .ok (.if_icmp .eq 11, 3) := by decide +kernel
theorem dX8_tell_13 : decode cX8_tell 13 = .ok (.aload_n 0, 1) := by decide +kernel
theorem dX8_tell_14 : decode cX8_tell 14 = .ok (.iload_n 2, 1) := by decide +kernel
theorem dX8_tell_15 : decode cX8_tell 15 = .ok (.invokevirtual 167, 3) := by decide +kernel
theorem dX8_tell_18 : decode cX8_tell 18 = .ok (.ifCond .eq 10, 3) := by decide +kernel
theorem dX8_tell_21 : decode cX8_tell 21 = .ok (.iload_n 3, 1) := by decide +kernel
theorem dX8_tell_22 : decode cX8_tell 22 = .ok (.invokestatic 177, 3) := by decide +kernel
theorem dX8_tell_25 : decode cX8_tell 25 = .ok (.ifCond .ne 5, 3) := by decide +kernel
theorem dX8_tell_28 : decode cX8_tell 28 = .ok (.iconst (-1), 1) := by decide +kernel
theorem dX8_tell_29 : decode cX8_tell 29 = .ok (.ireturn, 1) := by decide +kernel
theorem dX8_tell_30 : decode cX8_tell 30 = .ok (.aload_n 0, 1) := by decide +kernel
theorem dX8_tell_31 : decode cX8_tell 31 = .ok (.iload_n 1, 1) := by decide +kernel
theorem dX8_tell_32 : decode cX8_tell 32 = .ok (.iload_n 2, 1) := by decide +kernel
theorem dX8_tell_33 : decode cX8_tell 33 = .ok (.iload_n 3, 1) := by decide +kernel
def k180_0 : List (Nat × XI) := [(0, x_aload 0 1), (1, x_iload 1 2), (2, x_inv 136 8 1 5), (5, x_ifeq 28 8), (8, x_iload 2 9), (9, x_push (-1) 10), (10, x_iceq 21 13), (13, x_aload 0 14), (14, x_iload 2 15), (15, x_inv 136 8 1 18), (18, x_ifeq 28 21), (21, x_iload 3 22), (22, x_invS 143 1 25), (25, x_ifne 30 28), (28, x_push (-1) 29), (29, x_iret), (30, x_aload 0 31), (31, x_iload 1 32), (32, x_iload 2 33), (33, x_iload 3 34)]
theorem o180_0 (scr : Nat × (Nat → Int32)) : ∀ q ∈ k180_0, XSnd xm scr Y180 q.1 q.2 := xcons (s_aload_n rfl dX8_tell_0) (xcons (s_iload_n rfl dX8_tell_1) (xcons (s_inv (mid := 136) xC8 cal_136 xw_483 xw_484 xw_485 dX8_tell_2) (xcons (s_ifeq dX8_tell_5 rfl) (xcons (s_iload_n rfl dX8_tell_8) (xcons (s_iconst dX8_tell_9 rfl) (xcons (s_iceq dX8_tell_10 rfl) (xcons (s_aload_n rfl dX8_tell_13) (xcons (s_iload_n rfl dX8_tell_14) (xcons (s_inv (mid := 136) xC8 cal_136 xw_483 xw_484 xw_485 dX8_tell_15) (xcons (s_ifeq dX8_tell_18 rfl) (xcons (s_iload_n rfl dX8_tell_21) (xcons (s_invS (mid := 143) cal_143 xw_688 xw_689 dX8_tell_22) (xcons (s_ifne dX8_tell_25 rfl) (xcons (s_iconst dX8_tell_28 rfl) (xcons (s_iret dX8_tell_29 rfl) (xcons (s_aload_n rfl dX8_tell_30) (xcons (s_iload_n rfl dX8_tell_31) (xcons (s_iload_n rfl dX8_tell_32) (xcons (s_iload_n rfl dX8_tell_33) (xnil))))))))))))))))))))
theorem dX8_tell_34 : decode cX8_tell 34 = .ok (.invokevirtual 84, 3) := by decide +kernel
theorem dX8_tell_37 : decode cX8_tell 37 = .ok (.ifCond .eq 13, 3) := by decide +kernel
theorem dX8_tell_40 : decode cX8_tell 40 = .ok (.aload_n 0, 1) := by decide +kernel
theorem dX8_tell_41 : decode cX8_tell 41 = .ok (.iload_n 1, 1) := by decide +kernel
theorem dX8_tell_42 : decode cX8_tell 42 = .ok (.bipush 13, 2) := by decide +kernel
theorem dX8_tell_44 : decode cX8_tell 44 = .ok (.invokevirtual 55, 3) := by decide +kernel
theorem dX8_tell_47 : decode cX8_tell 47 = .ok (.goto 5, 3) := by decide +kernel
theorem dX8_tell_50 : decode cX8_tell 50 = .ok (.bipush (-5), 2) := by decide +kernel
theorem dX8_tell_52 : decode cX8_tell 52 = .ok (.ireturn, 1) := by decide +kernel
def k180_1 : List (Nat × XI) := [(34, x_inv 171 8 3 37), (37, x_ifeq 50 40), (40, x_aload 0 41), (41, x_iload 1 42), (42, x_push (13) 44), (44, x_inv 108 8 2 47), (47, x_goto 52), (50, x_push (-5) 52), (52, x_iret)]
theorem o180_1 (scr : Nat × (Nat → Int32)) : ∀ q ∈ k180_1, XSnd xm scr Y180 q.1 q.2 := xcons (s_inv (mid := 171) xC8 cal_171 xw_524 xw_525 xw_526 dX8_tell_34) (xcons (s_ifeq dX8_tell_37 rfl) (xcons (s_aload_n rfl dX8_tell_40) (xcons (s_iload_n rfl dX8_tell_41) (xcons (s_bipush dX8_tell_42 rfl) (xcons (s_inv (mid := 108) xC8 cal_108 xw_508 xw_509 xw_510 dX8_tell_44) (xcons (s_goto dX8_tell_47 rfl) (xcons (s_bipush dX8_tell_50 rfl) (xcons (s_iret dX8_tell_52 rfl) (xnil)))))))))
def k180 (pc : Nat) : XI := if pc < 34 then xlk k180_0 pc else xlk k180_1 pc
theorem o180 (scr : Nat × (Nat → Int32)) (pc : Nat) : XSnd xm scr Y180 pc (k180 pc) := by
  unfold k180
  exact xite (xlk_ok (o180_0 scr) pc) (xlk_ok (o180_1 scr) pc)
theorem dX8_tells_0 : decode cX8_tells 0 = .ok (.aload_n 0, 1) := by decide +kernel
theorem dX8_tells_1 : decode cX8_tells 1 = .ok (.iload_n 1, 1) := by decide +kernel
theorem dX8_tells_2 : decode cX8_tells 2 = .ok (.invokevirtual 242, 3) := by decide +kernel
theorem dX8_tells_5 : decode cX8_tells 5 = .ok (.ifCond .eq 21, 3) := by decide +kernel
theorem dX8_tells_8 : decode cX8_tells 8 = .ok (.iload_n 2, 1) := by decide +kernel
theorem dX8_tells_9 : decode cX8_tells 9 = .ok (.iconst 0, 1) := by decide +kernel
theorem dX8_tells_10 : decode cX8_tells 10 = .ok (.iconst 3, 1) := by decide +kernel
theorem dX8_tells_11 : decode cX8_tells 11 = .ok (.invokestatic 51, 3) := by decide +kernel
theorem dX8_tells_14 : decode cX8_tells 14 = .ok (.ifCond .eq 12, 3) := by decide +kernel
theorem dX8_tells_17 : decode cX8_tells 17 = .ok (.aload_n 0, 1) := by decide +kernel
theorem dX8_tells_18 : decode cX8_tells 18 = .ok (.getfield 28, 3) := by decide +kernel
theorem dX8_tells_21 : decode cX8_tells 21 = .ok (.iload_n 1, 1) := by decide +kernel
theorem dX8_tells_22 : decode cX8_tells 22 = .ok (.iaload, 1) := by decide +kernel
theorem dX8_tells_23 : decode cX8_tells 23 = .ok (.ifCond .ne 6, 3) := by decide +kernel
theorem dX8_tells_26 : decode cX8_tells 26 = .ok (.ldc 186, 2) := by decide +kernel
theorem dX8_tells_28 : decode cX8_tells 28 = .ok (.ireturn, 1) := by decide +kernel
theorem dX8_tells_29 : decode cX8_tells 29 = .ok (.aload_n 0, 1) := by decide +kernel
theorem dX8_tells_30 : decode cX8_tells 30 = .ok (.getfield 31, 3) := by decide +kernel
theorem dX8_tells_33 : decode cX8_tells 33 = .ok (.iload_n 1, 1) := by decide +kernel
theorem dX8_tells_34 : decode cX8_tells 34 = .ok (.iaload, 1) := by decide +kernel
def k181_0 : List (Nat × XI) := [(0, x_aload 0 1), (1, x_iload 1 2), (2, x_inv 139 8 1 5), (5, x_ifeq 26 8), (8, x_iload 2 9), (9, x_push (0) 10), (10, x_push (3) 11), (11, x_invS 134 3 14), (14, x_ifeq 26 17), (17, x_aload 0 18), (18, x_getR 8 12 21), (21, x_iload 1 22), (22, x_iald 23), (23, x_ifne 29 26), (26, x_push (-2000000000) 28), (28, x_iret), (29, x_aload 0 30), (30, x_getR 8 13 33), (33, x_iload 1 34), (34, x_iald 35)]
theorem o181_0 (scr : Nat × (Nat → Int32)) : ∀ q ∈ k181_0, XSnd xm scr Y181 q.1 q.2 := xcons (s_aload_n rfl dX8_tells_0) (xcons (s_iload_n rfl dX8_tells_1) (xcons (s_inv (mid := 139) xC8 cal_139 xw_591 xw_592 xw_593 dX8_tells_2) (xcons (s_ifeq dX8_tells_5 rfl) (xcons (s_iload_n rfl dX8_tells_8) (xcons (s_iconst dX8_tells_9 rfl) (xcons (s_iconst dX8_tells_10 rfl) (xcons (s_invS (mid := 134) cal_134 xw_487 xw_488 dX8_tells_11) (xcons (s_ifeq dX8_tells_14 rfl) (xcons (s_aload_n rfl dX8_tells_17) (xcons (s_getR (f := 12) xC8 (by decide) xw_480 rfl dX8_tells_18) (xcons (s_iload_n rfl dX8_tells_21) (xcons (s_iald dX8_tells_22) (xcons (s_ifne dX8_tells_23 rfl) (xcons (s_ldc dX8_tells_26 xw_493) (xcons (s_iret dX8_tells_28 rfl) (xcons (s_aload_n rfl dX8_tells_29) (xcons (s_getR (f := 13) xC8 (by decide) xw_481 rfl dX8_tells_30) (xcons (s_iload_n rfl dX8_tells_33) (xcons (s_iald dX8_tells_34) (xnil))))))))))))))))))))
theorem dX8_tells_35 : decode cX8_tells 35 = .ok (.istore_n 3, 1) := by decide +kernel
theorem dX8_tells_36 : decode cX8_tells 36 = .ok (.aload_n 0, 1) := by decide +kernel
theorem dX8_tells_37 : decode cX8_tells 37 = .ok (.getfield 28, 3) := by decide +kernel
theorem dX8_tells_40 : decode cX8_tells 40 = .ok (.iload_n 1, 1) := by decide +kernel
theorem dX8_tells_41 : decode cX8_tells 41 = .ok (.iaload, 1) := by decide +kernel
theorem dX8_tells_42 : decode cX8_tells 42 = .ok (.iconst 1, 1) := by decide +kernel
theorem dX8_tells_43 : decode cX8_tells 43 = .ok (.if_icmp .ne 7, 3) := by decide +kernel
theorem dX8_tells_46 : decode cX8_tells 46 = .ok (.iconst 1, 1) := by decide +kernel
theorem dX8_tells_47 : decode cX8_tells 47 = .ok (.goto 4, 3) := by decide +kernel
theorem dX8_tells_50 : decode cX8_tells 50 = .ok (.iconst 0, 1) := by decide +kernel
theorem dX8_tells_51 : decode cX8_tells 51 = .ok (.istore 4, 2) := by decide +kernel
theorem dX8_tells_53 : decode cX8_tells 53 = .ok (.iload 4, 2) := by decide +kernel
theorem dX8_tells_55 : decode cX8_tells 55 = .ok (.iload_n 2, 1) := by decide +kernel
theorem dX8_tells_56 : decode cX8_tells 56 = .ok (.ifCond .eq 60, 3) := by decide +kernel
theorem dX8_tells_59 : decode cX8_tells 59 = .ok (.iload 4, 2) := by decide +kernel
theorem dX8_tells_61 : decode cX8_tells 61 = .ok (.ifCond .eq 59, 3) := by decide +kernel
theorem dX8_tells_64 : decode cX8_tells 64 = .ok (.iload_n 2, 1) := by decide +kernel
theorem dX8_tells_65 : decode cX8_tells 65 = .ok (.iconst 3, 1) := by decide +kernel
theorem dX8_tells_66 : decode cX8_tells 66 = .ok (.if_icmp .ne 24, 3) := by decide +kernel
theorem dX8_tells_69 : decode cX8_tells 69 = .ok (.aload_n 0, 1) := by decide +kernel
def k181_1 : List (Nat × XI) := [(35, x_istore 3 36), (36, x_aload 0 37), (37, x_getR 8 12 40), (40, x_iload 1 41), (41, x_iald 42), (42, x_push (1) 43), (43, x_icne 50 46), (46, x_push (1) 47), (47, x_goto 51), (50, x_push (0) 51), (51, x_istore 4 53), (53, x_iload 4 55), (55, x_iload 2 56), (56, x_ifeq 116 59), (59, x_iload 4 61), (61, x_ifeq 120 64), (64, x_iload 2 65), (65, x_push (3) 66), (66, x_icne 90 69), (69, x_aload 0 70)]
theorem o181_1 (scr : Nat × (Nat → Int32)) : ∀ q ∈ k181_1, XSnd xm scr Y181 q.1 q.2 := xcons (s_istore_n rfl dX8_tells_35 (by decide)) (xcons (s_aload_n rfl dX8_tells_36) (xcons (s_getR (f := 12) xC8 (by decide) xw_480 rfl dX8_tells_37) (xcons (s_iload_n rfl dX8_tells_40) (xcons (s_iald dX8_tells_41) (xcons (s_iconst dX8_tells_42 rfl) (xcons (s_icne dX8_tells_43 rfl) (xcons (s_iconst dX8_tells_46 rfl) (xcons (s_goto dX8_tells_47 rfl) (xcons (s_iconst dX8_tells_50 rfl) (xcons (s_istore dX8_tells_51 (by decide)) (xcons (s_iload dX8_tells_53) (xcons (s_iload_n rfl dX8_tells_55) (xcons (s_ifeq dX8_tells_56 rfl) (xcons (s_iload dX8_tells_59) (xcons (s_ifeq dX8_tells_61 rfl) (xcons (s_iload_n rfl dX8_tells_64) (xcons (s_iconst dX8_tells_65 rfl) (xcons (s_icne dX8_tells_66 rfl) (xcons (s_aload_n rfl dX8_tells_69) (xnil))))))))))))))))))))
theorem dX8_tells_70 : decode cX8_tells 70 = .ok (.iload_n 3, 1) := by decide +kernel
theorem dX8_tells_71 : decode cX8_tells 71 = .ok (.invokevirtual 59, 3) := by decide +kernel
theorem dX8_tells_74 : decode cX8_tells 74 = .ok (.ifCond .eq 46, 3) := by decide +kernel
theorem dX8_tells_77 : decode cX8_tells 77 = .ok (.aload_n 0, 1) := by decide +kernel
theorem dX8_tells_78 : decode cX8_tells 78 = .ok (.iload_n 3, 1) := by decide +kernel
theorem dX8_tells_79 : decode cX8_tells 79 = .ok (.bipush 13, 2) := by decide +kernel
theorem dX8_tells_81 : decode cX8_tells 81 = .ok (.invokevirtual 55, 3) := by decide +kernel
theorem dX8_tells_84 : decode cX8_tells 84 = .ok (.ifCond .ne 36, 3) := by decide +kernel
theorem dX8_tells_87 : decode cX8_tells 87 = .ok (.goto 29, 3) := by decide +kernel
theorem dX8_tells_90 : decode cX8_tells 90 = .ok (.iload_n 2, 1) := by decide +kernel
theorem dX8_tells_91 : decode cX8_tells 91 = .ok (.iconst 1, 1) := by decide +kernel
theorem dX8_tells_92 : decode cX8_tells 92 = .ok (.if_icmp .ne 7, 3) := by decide +kernel
theorem dX8_tells_95 : decode cX8_tells 95 = .ok (.iconst 1, 1) := by decide +kernel
theorem dX8_tells_96 : decode cX8_tells 96 = .ok (.goto 4, 3) := by decide +kernel
theorem dX8_tells_99 : decode cX8_tells 99 = .ok (.iconst 0, 1) := by decide +kernel
theorem dX8_tells_100 : decode cX8_tells 100 = .ok (.aload_n 0, 1) := by decide +kernel
theorem dX8_tells_101 : decode cX8_tells 101 = .ok (.iload_n 3, 1) := by decide +kernel
theorem dX8_tells_102 : decode cX8_tells 102 = .ok (.invokevirtual 183, 3) := by decide +kernel
theorem dX8_tells_105 : decode cX8_tells 105 = .ok (.ifCond .ne 7, 3) := by decide +kernel
theorem dX8_tells_108 : decode cX8_tells 108 = .ok (.iconst 1, 1) := by decide +kernel
def k181_2 : List (Nat × XI) := [(70, x_iload 3 71), (71, x_inv 140 8 1 74), (74, x_ifeq 120 77), (77, x_aload 0 78), (78, x_iload 3 79), (79, x_push (13) 81), (81, x_inv 108 8 2 84), (84, x_ifne 120 87), (87, x_goto 116), (90, x_iload 2 91), (91, x_push (1) 92), (92, x_icne 99 95), (95, x_push (1) 96), (96, x_goto 100), (99, x_push (0) 100), (100, x_aload 0 101), (101, x_iload 3 102), (102, x_inv 114 8 1 105), (105, x_ifne 112 108), (108, x_push (1) 109)]
theorem o181_2 (scr : Nat × (Nat → Int32)) : ∀ q ∈ k181_2, XSnd xm scr Y181 q.1 q.2 := xcons (s_iload_n rfl dX8_tells_70) (xcons (s_inv (mid := 140) xC8 cal_140 xw_490 xw_491 xw_492 dX8_tells_71) (xcons (s_ifeq dX8_tells_74 rfl) (xcons (s_aload_n rfl dX8_tells_77) (xcons (s_iload_n rfl dX8_tells_78) (xcons (s_bipush dX8_tells_79 rfl) (xcons (s_inv (mid := 108) xC8 cal_108 xw_508 xw_509 xw_510 dX8_tells_81) (xcons (s_ifne dX8_tells_84 rfl) (xcons (s_goto dX8_tells_87 rfl) (xcons (s_iload_n rfl dX8_tells_90) (xcons (s_iconst dX8_tells_91 rfl) (xcons (s_icne dX8_tells_92 rfl) (xcons (s_iconst dX8_tells_95 rfl) (xcons (s_goto dX8_tells_96 rfl) (xcons (s_iconst dX8_tells_99 rfl) (xcons (s_aload_n rfl dX8_tells_100) (xcons (s_iload_n rfl dX8_tells_101) (xcons (s_inv (mid := 114) xC8 cal_114 xw_644 xw_645 xw_646 dX8_tells_102) (xcons (s_ifne dX8_tells_105 rfl) (xcons (s_iconst dX8_tells_108 rfl) (xnil))))))))))))))))))))
theorem dX8_tells_109 : decode cX8_tells 109 = .ok (.goto 4, 3) := by decide +kernel
theorem dX8_tells_112 : decode cX8_tells 112 = .ok (.iconst 0, 1) := by decide +kernel
theorem dX8_tells_113 : decode cX8_tells 113 = .ok (.if_icmp .ne 7, 3) := by decide +kernel
theorem dX8_tells_116 : decode cX8_tells 116 = .ok (.iconst 1, 1) := by decide +kernel
theorem dX8_tells_117 : decode cX8_tells 117 = .ok (.goto 4, 3) := by decide +kernel
theorem dX8_tells_120 : decode cX8_tells 120 = .ok (.iconst 0, 1) := by decide +kernel
theorem dX8_tells_121 : decode cX8_tells 121 = .ok (.iand, 1) := by decide +kernel
theorem dX8_tells_122 : decode cX8_tells 122 = .ok (.istore 4, 2) := by decide +kernel
theorem dX8_tells_124 : decode cX8_tells 124 = .ok (.iload 4, 2) := by decide +kernel
theorem dX8_tells_126 : decode cX8_tells 126 = .ok (.ifCond .ne 6, 3) := by decide +kernel
theorem dX8_tells_129 : decode cX8_tells 129 = .ok (.ldc 251, 2) := by decide +kernel
theorem dX8_tells_131 : decode cX8_tells 131 = .ok (.ireturn, 1) := by decide +kernel
theorem dX8_tells_132 : decode cX8_tells 132 = .ok (.iload_n 2, 1) := by decide +kernel
theorem dX8_tells_133 : decode cX8_tells 133 = .ok (.ifCond .ne 7, 3) := by decide +kernel
theorem dX8_tells_136 : decode cX8_tells 136 = .ok (.iload_n 3, 1) := by decide +kernel
theorem dX8_tells_137 : decode cX8_tells 137 = .ok (.goto 46, 3) := by decide +kernel
theorem dX8_tells_140 : decode cX8_tells 140 = .ok (.iload_n 2, 1) := by decide +kernel
theorem dX8_tells_141 : decode cX8_tells 141 = .ok (.iconst 1, 1) := by decide +kernel
theorem dX8_tells_142 : decode cX8_tells 142 = .ok (.if_icmp .ne 13, 3) := by decide +kernel
theorem dX8_tells_145 : decode cX8_tells 145 = .ok (.aload_n 0, 1) := by decide +kernel
def k181_3 : List (Nat × XI) := [(109, x_goto 113), (112, x_push (0) 113), (113, x_icne 120 116), (116, x_push (1) 117), (117, x_goto 121), (120, x_push (0) 121), (121, x_iand 122), (122, x_istore 4 124), (124, x_iload 4 126), (126, x_ifne 132 129), (129, x_push (-2000000012) 131), (131, x_iret), (132, x_iload 2 133), (133, x_ifne 140 136), (136, x_iload 3 137), (137, x_goto 183), (140, x_iload 2 141), (141, x_push (1) 142), (142, x_icne 155 145), (145, x_aload 0 146)]
theorem o181_3 (scr : Nat × (Nat → Int32)) : ∀ q ∈ k181_3, XSnd xm scr Y181 q.1 q.2 := xcons (s_goto dX8_tells_109 rfl) (xcons (s_iconst dX8_tells_112 rfl) (xcons (s_icne dX8_tells_113 rfl) (xcons (s_iconst dX8_tells_116 rfl) (xcons (s_goto dX8_tells_117 rfl) (xcons (s_iconst dX8_tells_120 rfl) (xcons (s_iand dX8_tells_121) (xcons (s_istore dX8_tells_122 (by decide)) (xcons (s_iload dX8_tells_124) (xcons (s_ifne dX8_tells_126 rfl) (xcons (s_ldc dX8_tells_129 xw_690) (xcons (s_iret dX8_tells_131 rfl) (xcons (s_iload_n rfl dX8_tells_132) (xcons (s_ifne dX8_tells_133 rfl) (xcons (s_iload_n rfl dX8_tells_136) (xcons (s_goto dX8_tells_137 rfl) (xcons (s_iload_n rfl dX8_tells_140) (xcons (s_iconst dX8_tells_141 rfl) (xcons (s_icne dX8_tells_142 rfl) (xcons (s_aload_n rfl dX8_tells_145) (xnil))))))))))))))))))))
theorem dX8_tells_146 : decode cX8_tells 146 = .ok (.iload_n 3, 1) := by decide +kernel
theorem dX8_tells_147 : decode cX8_tells 147 = .ok (.bipush 6, 2) := by decide +kernel
theorem dX8_tells_149 : decode cX8_tells 149 = .ok (.invokevirtual 55, 3) := by decide +kernel
theorem dX8_tells_152 : decode cX8_tells 152 = .ok (.goto 31, 3) := by decide +kernel
theorem dX8_tells_155 : decode cX8_tells 155 = .ok (.iload_n 2, 1) := by decide +kernel
theorem dX8_tells_156 : decode cX8_tells 156 = .ok (.iconst 2, 1) := by decide +kernel
theorem dX8_tells_157 : decode cX8_tells 157 = .ok (.if_icmp .ne 19, 3) := by decide +kernel
theorem dX8_tells_160 : decode cX8_tells 160 = .ok (.aload_n 0, 1) := by decide +kernel
theorem dX8_tells_161 : decode cX8_tells 161 = .ok (.iload_n 3, 1) := by decide +kernel
theorem dX8_tells_162 : decode cX8_tells 162 = .ok (.invokevirtual 183, 3) := by decide +kernel
theorem dX8_tells_165 : decode cX8_tells 165 = .ok (.aload_n 0, 1) := by decide +kernel
theorem dX8_tells_166 : decode cX8_tells 166 = .ok (.invokevirtual 191, 3) := by decide +kernel
theorem dX8_tells_169 : decode cX8_tells 169 = .ok (.iand, 1) := by decide +kernel
theorem dX8_tells_170 : decode cX8_tells 170 = .ok (.invokestatic 194, 3) := by decide +kernel
theorem dX8_tells_173 : decode cX8_tells 173 = .ok (.goto 10, 3) := by decide +kernel
theorem dX8_tells_176 : decode cX8_tells 176 = .ok (.aload_n 0, 1) := by decide +kernel
theorem dX8_tells_177 : decode cX8_tells 177 = .ok (.iload_n 3, 1) := by decide +kernel
theorem dX8_tells_178 : decode cX8_tells 178 = .ok (.bipush 38, 2) := by decide +kernel
theorem dX8_tells_180 : decode cX8_tells 180 = .ok (.invokevirtual 55, 3) := by decide +kernel
theorem dX8_tells_183 : decode cX8_tells 183 = .ok (.ireturn, 1) := by decide +kernel
def k181_4 : List (Nat × XI) := [(146, x_iload 3 147), (147, x_push (6) 149), (149, x_inv 108 8 2 152), (152, x_goto 183), (155, x_iload 2 156), (156, x_push (2) 157), (157, x_icne 176 160), (160, x_aload 0 161), (161, x_iload 3 162), (162, x_inv 114 8 1 165), (165, x_aload 0 166), (166, x_inv 147 8 0 169), (169, x_iand 170), (170, x_invS 110 1 173), (173, x_goto 183), (176, x_aload 0 177), (177, x_iload 3 178), (178, x_push (38) 180), (180, x_inv 108 8 2 183), (183, x_iret)]
theorem o181_4 (scr : Nat × (Nat → Int32)) : ∀ q ∈ k181_4, XSnd xm scr Y181 q.1 q.2 := xcons (s_iload_n rfl dX8_tells_146) (xcons (s_bipush dX8_tells_147 rfl) (xcons (s_inv (mid := 108) xC8 cal_108 xw_508 xw_509 xw_510 dX8_tells_149) (xcons (s_goto dX8_tells_152 rfl) (xcons (s_iload_n rfl dX8_tells_155) (xcons (s_iconst dX8_tells_156 rfl) (xcons (s_icne dX8_tells_157 rfl) (xcons (s_aload_n rfl dX8_tells_160) (xcons (s_iload_n rfl dX8_tells_161) (xcons (s_inv (mid := 114) xC8 cal_114 xw_644 xw_645 xw_646 dX8_tells_162) (xcons (s_aload_n rfl dX8_tells_165) (xcons (s_inv (mid := 147) xC8 cal_147 xw_496 xw_497 xw_498 dX8_tells_166) (xcons (s_iand dX8_tells_169) (xcons (s_invS (mid := 110) cal_110 xw_512 xw_513 dX8_tells_170) (xcons (s_goto dX8_tells_173 rfl) (xcons (s_aload_n rfl dX8_tells_176) (xcons (s_iload_n rfl dX8_tells_177) (xcons (s_bipush dX8_tells_178 rfl) (xcons (s_inv (mid := 108) xC8 cal_108 xw_508 xw_509 xw_510 dX8_tells_180) (xcons (s_iret dX8_tells_183 rfl) (xnil))))))))))))))))))))
def k181 (pc : Nat) : XI := if pc < 70 then if pc < 35 then xlk k181_0 pc else xlk k181_1 pc else if pc < 109 then xlk k181_2 pc else if pc < 146 then xlk k181_3 pc else xlk k181_4 pc
theorem o181 (scr : Nat × (Nat → Int32)) (pc : Nat) : XSnd xm scr Y181 pc (k181 pc) := by
  unfold k181
  exact xite (xite (xlk_ok (o181_0 scr) pc) (xlk_ok (o181_1 scr) pc)) (xite (xlk_ok (o181_2 scr) pc) (xite (xlk_ok (o181_3 scr) pc) (xlk_ok (o181_4 scr) pc)))
