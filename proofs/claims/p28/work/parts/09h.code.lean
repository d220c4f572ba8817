/-! 09h: the code, instruction by instruction -/
theorem dX8_timer_0 : decode cX8_timer 0 = .ok (.iload_n 1, 1) := by decide +kernel
theorem dX8_timer_1 : decode cX8_timer 1 = .ok (.ifCond .lt 12, 3) := by decide +kernel
theorem dX8_timer_4 : decode cX8_timer 4 = .ok (.iload_n 2, 1) := by decide +kernel
theorem dX8_timer_5 : decode cX8_timer 5 = .ok (.iconst 0, 1) := by decide +kernel
theorem dX8_timer_6 : decode cX8_timer 6 = .ok (.iconst 2, 1) := by decide +kernel
theorem dX8_timer_7 : decode cX8_timer 7 = .ok (.invokestatic 51, 3) := by decide +kernel
theorem dX8_timer_10 : decode cX8_timer 10 = .ok (.ifCond .ne 5, 3) := by decide +kernel
theorem dX8_timer_13 : decode cX8_timer 13 = .ok (.iconst (-1), 1) := by decide +kernel
theorem dX8_timer_14 : decode cX8_timer 14 = .ok (.ireturn, 1) := by decide +kernel
theorem dX8_timer_15 : decode cX8_timer 15 = .ok (.iconst 0, 1) := by decide +kernel
theorem dX8_timer_16 : decode cX8_timer 16 = .ok (.istore_n 3, 1) := by decide +kernel
theorem dX8_timer_17 : decode cX8_timer 17 = .ok (.iload_n 3, 1) := by decide +kernel
theorem dX8_timer_18 : decode cX8_timer 18 = .ok (.aload_n 0, 1) := by decide +kernel
theorem dX8_timer_19 : decode cX8_timer 19 = .ok (.getfield 9, 3) := by decide +kernel
theorem dX8_timer_22 : decode cX8_timer 22 = .ok (.sipush 931, 3) := by decide +kernel
theorem dX8_timer_25 : decode cX8_timer 25 = .ok (.iaload, 1) := by decide +kernel
theorem dX8_timer_26 : decode cX8_timer 26 = .ok (.if_icmp .ge 130, 3) := by decide +kernel
theorem dX8_timer_29 : decode cX8_timer 29 = .ok (.iconst 0, 1) := by decide +kernel
theorem dX8_timer_30 : decode cX8_timer 30 = .ok (.istore 4, 2) := by decide +kernel
theorem dX8_timer_32 : decode cX8_timer 32 = .ok (.aload_n 0, 1) := by decide +kernel
def k182_0 : List (Nat × XI) := [(0, x_iload 1 1), (1, x_iflt 13 4), (4, x_iload 2 5), (5, x_push (0) 6), (6, x_push (2) 7), (7, x_invS 134 3 10), (10, x_ifne 15 13), (13, x_push (-1) 14), (14, x_iret), (15, x_push (0) 16), (16, x_istore 3 17), (17, x_iload 3 18), (18, x_aload 0 19), (19, x_getR 8 0 22), (22, x_push (931) 25), (25, x_iald 26), (26, x_icge 156 29), (29, x_push (0) 30), (30, x_istore 4 32), (32, x_aload 0 33)]
theorem o182_0 (scr : Nat × (Nat → Int32)) : ∀ q ∈ k182_0, XSnd xm scr Y182 q.1 q.2 := xcons (s_iload_n rfl dX8_timer_0) (xcons (s_iflt dX8_timer_1 rfl) (xcons (s_iload_n rfl dX8_timer_4) (xcons (s_iconst dX8_timer_5 rfl) (xcons (s_iconst dX8_timer_6 rfl) (xcons (s_invS (mid := 134) cal_134 xw_487 xw_488 dX8_timer_7) (xcons (s_ifne dX8_timer_10 rfl) (xcons (s_iconst dX8_timer_13 rfl) (xcons (s_iret dX8_timer_14 rfl) (xcons (s_iconst dX8_timer_15 rfl) (xcons (s_istore_n rfl dX8_timer_16 (by decide)) (xcons (s_iload_n rfl dX8_timer_17) (xcons (s_aload_n rfl dX8_timer_18) (xcons (s_getR (f := 0) xC8 (by decide) xw_470 rfl dX8_timer_19) (xcons (s_sipush dX8_timer_22 rfl) (xcons (s_iald dX8_timer_25) (xcons (s_icge dX8_timer_26 rfl) (xcons (s_iconst dX8_timer_29 rfl) (xcons (s_istore dX8_timer_30 (by decide)) (xcons (s_aload_n rfl dX8_timer_32) (xnil))))))))))))))))))))
theorem dX8_timer_33 : decode cX8_timer 33 = .ok (.getfield 9, 3) := by decide +kernel
theorem dX8_timer_36 : decode cX8_timer 36 = .ok (.sipush 932, 3) := by decide +kernel
theorem dX8_timer_39 : decode cX8_timer 39 = .ok (.iconst 3, 1) := by decide +kernel
theorem dX8_timer_40 : decode cX8_timer 40 = .ok (.iload_n 3, 1) := by decide +kernel
theorem dX8_timer_41 : decode cX8_timer 41 = .ok (.imul, 1) := by decide +kernel
theorem dX8_timer_42 : decode cX8_timer 42 = .ok (.iadd, 1) := by decide +kernel
theorem dX8_timer_43 : decode cX8_timer 43 = .ok (.iconst 1, 1) := by decide +kernel
theorem dX8_timer_44 : decode cX8_timer 44 = .ok (.iadd, 1) := by decide +kernel
theorem dX8_timer_45 : decode cX8_timer 45 = .ok (.iaload, 1) := by decide +kernel
theorem dX8_timer_46 : decode cX8_timer 46 = .ok (.istore 5, 2) := by decide +kernel
theorem dX8_timer_48 : decode cX8_timer 48 = .ok (.iconst 0, 1) := by decide +kernel
theorem dX8_timer_49 : decode cX8_timer 49 = .ok (.istore 6, 2) := by decide +kernel
theorem dX8_timer_51 : decode cX8_timer 51 = .ok (.iload 6, 2) := by decide +kernel
theorem dX8_timer_53 : decode cX8_timer 53 = .ok (.aload_n 0, 1) := by decide +kernel
theorem dX8_timer_54 : decode cX8_timer 54 = .ok (.getfield 9, 3) := by decide +kernel
theorem dX8_timer_57 : decode cX8_timer 57 = .ok (.sipush 931, 3) := by decide +kernel
theorem dX8_timer_60 : decode cX8_timer 60 = .ok (.iaload, 1) := by decide +kernel
theorem dX8_timer_61 : decode cX8_timer 61 = .ok (.if_icmp .ge 56, 3) := by decide +kernel
theorem dX8_timer_64 : decode cX8_timer 64 = .ok (.aload_n 0, 1) := by decide +kernel
theorem dX8_timer_65 : decode cX8_timer 65 = .ok (.getfield 9, 3) := by decide +kernel
def k182_1 : List (Nat × XI) := [(33, x_getR 8 0 36), (36, x_push (932) 39), (39, x_push (3) 40), (40, x_iload 3 41), (41, x_imul 42), (42, x_iadd 43), (43, x_push (1) 44), (44, x_iadd 45), (45, x_iald 46), (46, x_istore 5 48), (48, x_push (0) 49), (49, x_istore 6 51), (51, x_iload 6 53), (53, x_aload 0 54), (54, x_getR 8 0 57), (57, x_push (931) 60), (60, x_iald 61), (61, x_icge 117 64), (64, x_aload 0 65), (65, x_getR 8 0 68)]
theorem o182_1 (scr : Nat × (Nat → Int32)) : ∀ q ∈ k182_1, XSnd xm scr Y182 q.1 q.2 := xcons (s_getR (f := 0) xC8 (by decide) xw_470 rfl dX8_timer_33) (xcons (s_sipush dX8_timer_36 rfl) (xcons (s_iconst dX8_timer_39 rfl) (xcons (s_iload_n rfl dX8_timer_40) (xcons (s_imul dX8_timer_41) (xcons (s_iadd dX8_timer_42) (xcons (s_iconst dX8_timer_43 rfl) (xcons (s_iadd dX8_timer_44) (xcons (s_iald dX8_timer_45) (xcons (s_istore dX8_timer_46 (by decide)) (xcons (s_iconst dX8_timer_48 rfl) (xcons (s_istore dX8_timer_49 (by decide)) (xcons (s_iload dX8_timer_51) (xcons (s_aload_n rfl dX8_timer_53) (xcons (s_getR (f := 0) xC8 (by decide) xw_470 rfl dX8_timer_54) (xcons (s_sipush dX8_timer_57 rfl) (xcons (s_iald dX8_timer_60) (xcons (s_icge dX8_timer_61 rfl) (xcons (s_aload_n rfl dX8_timer_64) (xcons (s_getR (f := 0) xC8 (by decide) xw_470 rfl dX8_timer_65) (xnil))))))))))))))))))))
theorem dX8_timer_68 : decode cX8_timer 68 = .ok (.sipush 932, 3) := by decide +kernel
theorem dX8_timer_71 : decode cX8_timer 71 = .ok (.iconst 3, 1) := by decide +kernel
theorem dX8_timer_72 : decode cX8_timer 72 = .ok (.iload 6, 2) := by decide +kernel
theorem dX8_timer_74 : decode cX8_timer 74 = .ok (.imul, 1) := by decide +kernel
theorem dX8_timer_75 : decode cX8_timer 75 = .ok (.iadd, 1) := by decide +kernel
theorem dX8_timer_76 : decode cX8_timer 76 = .ok (.iconst 1, 1) := by decide +kernel
theorem dX8_timer_77 : decode cX8_timer 77 = .ok (.iadd, 1) := by decide +kernel
theorem dX8_timer_78 : decode cX8_timer 78 = .ok (.iaload, 1) := by decide +kernel
theorem dX8_timer_79 : decode cX8_timer 79 = .ok (.istore 7, 2) := by decide +kernel
theorem dX8_timer_81 : decode cX8_timer 81 = .ok (.iload 4, 2) := by decide +kernel
theorem dX8_timer_83 : decode cX8_timer 83 = .ok (.iload 7, 2) := by decide +kernel
theorem dX8_timer_85 : decode cX8_timer 85 = .ok (.iload 5, 2) := by decide +kernel
theorem dX8_timer_87 : decode cX8_timer 87 = .ok (.if_icmp .lt 16, 3) := by decide +kernel
theorem dX8_timer_90 : decode cX8_timer 90 = .ok (.iload 7, 2) := by decide +kernel
theorem dX8_timer_92 : decode cX8_timer 92 = .ok (.iload 5, 2) := by decide +kernel
theorem dX8_timer_94 : decode cX8_timer 94 = .ok (.if_icmp .ne 13, 3) := by decide +kernel
theorem dX8_timer_97 : decode cX8_timer 97 = .ok (.iload 6, 2) := by decide +kernel
theorem dX8_timer_99 : decode cX8_timer 99 = .ok (.iload_n 3, 1) := by decide +kernel
theorem dX8_timer_100 : decode cX8_timer 100 = .ok (.if_icmp .ge 7, 3) := by decide +kernel
theorem dX8_timer_103 : decode cX8_timer 103 = .ok (.iconst 1, 1) := by decide +kernel
def k182_2 : List (Nat × XI) := [(68, x_push (932) 71), (71, x_push (3) 72), (72, x_iload 6 74), (74, x_imul 75), (75, x_iadd 76), (76, x_push (1) 77), (77, x_iadd 78), (78, x_iald 79), (79, x_istore 7 81), (81, x_iload 4 83), (83, x_iload 7 85), (85, x_iload 5 87), (87, x_iclt 103 90), (90, x_iload 7 92), (92, x_iload 5 94), (94, x_icne 107 97), (97, x_iload 6 99), (99, x_iload 3 100), (100, x_icge 107 103), (103, x_push (1) 104)]
theorem o182_2 (scr : Nat × (Nat → Int32)) : ∀ q ∈ k182_2, XSnd xm scr Y182 q.1 q.2 := xcons (s_sipush dX8_timer_68 rfl) (xcons (s_iconst dX8_timer_71 rfl) (xcons (s_iload dX8_timer_72) (xcons (s_imul dX8_timer_74) (xcons (s_iadd dX8_timer_75) (xcons (s_iconst dX8_timer_76 rfl) (xcons (s_iadd dX8_timer_77) (xcons (s_iald dX8_timer_78) (xcons (s_istore dX8_timer_79 (by decide)) (xcons (s_iload dX8_timer_81) (xcons (s_iload dX8_timer_83) (xcons (s_iload dX8_timer_85) (xcons (s_iclt dX8_timer_87 rfl) (xcons (s_iload dX8_timer_90) (xcons (s_iload dX8_timer_92) (xcons (s_icne dX8_timer_94 rfl) (xcons (s_iload dX8_timer_97) (xcons (s_iload_n rfl dX8_timer_99) (xcons (s_icge dX8_timer_100 rfl) (xcons (s_iconst dX8_timer_103 rfl) (xnil))))))))))))))))))))
theorem dX8_timer_104 : decode cX8_timer 104 = .ok (.goto 4, 3) := by decide +kernel
theorem dX8_timer_107 : decode cX8_timer 107 = .ok (.iconst 0, 1) := by decide +kernel
theorem dX8_timer_108 : decode cX8_timer 108 = .ok (.iadd, 1) := by decide +kernel
theorem dX8_timer_109 : decode cX8_timer 109 = .ok (.istore 4, 2) := by decide +kernel
theorem dX8_timer_111 : decode cX8_timer 111 = .ok (.iinc 6 1, 3) := by decide +kernel
theorem dX8_timer_114 : decode cX8_timer 114 = .ok (.goto (-63), 3) := by decide +kernel
theorem dX8_timer_117 : decode cX8_timer 117 = .ok (.iload 4, 2) := by decide +kernel
theorem dX8_timer_119 : decode cX8_timer 119 = .ok (.iload_n 1, 1) := by decide +kernel
theorem dX8_timer_120 : decode cX8_timer 120 = .ok (.if_icmp .ne 30, 3) := by decide +kernel
theorem dX8_timer_123 : decode cX8_timer 123 = .ok (.aload_n 0, 1) := by decide +kernel
theorem dX8_timer_124 : decode cX8_timer 124 = .ok (.getfield 9, 3) := by decide +kernel
theorem dX8_timer_127 : decode cX8_timer 127 = .ok (.sipush 932, 3) := by decide +kernel
theorem dX8_timer_130 : decode cX8_timer 130 = .ok (.iconst 3, 1) := by decide +kernel
theorem dX8_timer_131 : decode cX8_timer 131 = .ok (.iload_n 3, 1) := by decide +kernel
theorem dX8_timer_132 : decode cX8_timer 132 = .ok (.imul, 1) := by decide +kernel
theorem dX8_timer_133 : decode cX8_timer 133 = .ok (.iadd, 1) := by decide +kernel
theorem dX8_timer_134 : decode cX8_timer 134 = .ok (.iload_n 2, 1) := by decide +kernel
theorem dX8_timer_135 : decode cX8_timer 135 = .ok (.iadd, 1) := by decide +kernel
theorem dX8_timer_136 : decode cX8_timer 136 = .ok (.iaload, 1) := by decide +kernel
theorem dX8_timer_137 : decode cX8_timer 137 = .ok (.iload_n 2, 1) := by decide +kernel
def k182_3 : List (Nat × XI) := [(104, x_goto 108), (107, x_push (0) 108), (108, x_iadd 109), (109, x_istore 4 111), (111, x_iinc 6 (1) 114), (114, x_goto 51), (117, x_iload 4 119), (119, x_iload 1 120), (120, x_icne 150 123), (123, x_aload 0 124), (124, x_getR 8 0 127), (127, x_push (932) 130), (130, x_push (3) 131), (131, x_iload 3 132), (132, x_imul 133), (133, x_iadd 134), (134, x_iload 2 135), (135, x_iadd 136), (136, x_iald 137), (137, x_iload 2 138)]
theorem o182_3 (scr : Nat × (Nat → Int32)) : ∀ q ∈ k182_3, XSnd xm scr Y182 q.1 q.2 := xcons (s_goto dX8_timer_104 rfl) (xcons (s_iconst dX8_timer_107 rfl) (xcons (s_iadd dX8_timer_108) (xcons (s_istore dX8_timer_109 (by decide)) (xcons (s_iinc dX8_timer_111 rfl (by decide)) (xcons (s_goto dX8_timer_114 rfl) (xcons (s_iload dX8_timer_117) (xcons (s_iload_n rfl dX8_timer_119) (xcons (s_icne dX8_timer_120 rfl) (xcons (s_aload_n rfl dX8_timer_123) (xcons (s_getR (f := 0) xC8 (by decide) xw_470 rfl dX8_timer_124) (xcons (s_sipush dX8_timer_127 rfl) (xcons (s_iconst dX8_timer_130 rfl) (xcons (s_iload_n rfl dX8_timer_131) (xcons (s_imul dX8_timer_132) (xcons (s_iadd dX8_timer_133) (xcons (s_iload_n rfl dX8_timer_134) (xcons (s_iadd dX8_timer_135) (xcons (s_iald dX8_timer_136) (xcons (s_iload_n rfl dX8_timer_137) (xnil))))))))))))))))))))
theorem dX8_timer_138 : decode cX8_timer 138 = .ok (.iconst 2, 1) := by decide +kernel
theorem dX8_timer_139 : decode cX8_timer 139 = .ok (.if_icmp .ne 8, 3) := by decide +kernel
theorem dX8_timer_142 : decode cX8_timer 142 = .ok (.bipush 100, 2) := by decide +kernel
theorem dX8_timer_144 : decode cX8_timer 144 = .ok (.goto 4, 3) := by decide +kernel
theorem dX8_timer_147 : decode cX8_timer 147 = .ok (.iconst 0, 1) := by decide +kernel
theorem dX8_timer_148 : decode cX8_timer 148 = .ok (.iadd, 1) := by decide +kernel
theorem dX8_timer_149 : decode cX8_timer 149 = .ok (.ireturn, 1) := by decide +kernel
theorem dX8_timer_150 : decode cX8_timer 150 = .ok (.iinc 3 1, 3) := by decide +kernel
theorem dX8_timer_153 : decode cX8_timer 153 = .ok (.goto (-136), 3) := by decide +kernel
theorem dX8_timer_156 : decode cX8_timer 156 = .ok (.bipush (-2), 2) := by decide +kernel
theorem dX8_timer_158 : decode cX8_timer 158 = .ok (.ireturn, 1) := by decide +kernel
def k182_4 : List (Nat × XI) := [(138, x_push (2) 139), (139, x_icne 147 142), (142, x_push (100) 144), (144, x_goto 148), (147, x_push (0) 148), (148, x_iadd 149), (149, x_iret), (150, x_iinc 3 (1) 153), (153, x_goto 17), (156, x_push (-2) 158), (158, x_iret)]
theorem o182_4 (scr : Nat × (Nat → Int32)) : ∀ q ∈ k182_4, XSnd xm scr Y182 q.1 q.2 := xcons (s_iconst dX8_timer_138 rfl) (xcons (s_icne dX8_timer_139 rfl) (xcons (s_bipush dX8_timer_142 rfl) (xcons (s_goto dX8_timer_144 rfl) (xcons (s_iconst dX8_timer_147 rfl) (xcons (s_iadd dX8_timer_148) (xcons (s_iret dX8_timer_149 rfl) (xcons (s_iinc dX8_timer_150 rfl (by decide)) (xcons (s_goto dX8_timer_153 rfl) (xcons (s_bipush dX8_timer_156 rfl) (xcons (s_iret dX8_timer_158 rfl) (xnil)))))))))))
def k182 (pc : Nat) : XI := if pc < 68 then if pc < 33 then xlk k182_0 pc else xlk k182_1 pc else if pc < 104 then xlk k182_2 pc else if pc < 138 then xlk k182_3 pc else xlk k182_4 pc
theorem o182 (scr : Nat × (Nat → Int32)) (pc : Nat) : XSnd xm scr Y182 pc (k182 pc) := by
  unfold k182
  exact xite (xite (xlk_ok (o182_0 scr) pc) (xlk_ok (o182_1 scr) pc)) (xite (xlk_ok (o182_2 scr) pc) (xite (xlk_ok (o182_3 scr) pc) (xlk_ok (o182_4 scr) pc)))
theorem dX8_timersOf_0 : decode cX8_timersOf 0 = .ok (.iconst 0, 1) := by decide +kernel
theorem dX8_timersOf_1 : decode cX8_timersOf 1 = .ok (.istore_n 2, 1) := by decide +kernel
theorem dX8_timersOf_2 : decode cX8_timersOf 2 = .ok (.iconst 0, 1) := by decide +kernel
theorem dX8_timersOf_3 : decode cX8_timersOf 3 = .ok (.istore_n 3, 1) := by decide +kernel
theorem dX8_timersOf_4 : decode cX8_timersOf 4 = .ok (.iload_n 3, 1) := by decide +kernel
theorem dX8_timersOf_5 : decode cX8_timersOf 5 = .ok (.aload_n 0, 1) := by decide +kernel
theorem dX8_timersOf_6 : decode cX8_timersOf 6 = .ok (.getfield 9, 3) := by decide +kernel
theorem dX8_timersOf_9 : decode cX8_timersOf 9 = .ok (.sipush 931, 3) := by decide +kernel
theorem dX8_timersOf_12 : decode cX8_timersOf 12 = .ok (.iaload, 1) := by decide +kernel
theorem dX8_timersOf_13 : decode cX8_timersOf 13 = .ok (.if_icmp .ge 33, 3) := by decide +kernel
theorem dX8_timersOf_16 : decode cX8_timersOf 16 = .ok (.iload_n 2, 1) := by decide +kernel
theorem dX8_timersOf_17 : decode cX8_timersOf 17 = .ok (.aload_n 0, 1) := by decide +kernel
theorem dX8_timersOf_18 : decode cX8_timersOf 18 = .ok (.getfield 9, 3) := by decide +kernel
theorem dX8_timersOf_21 : decode cX8_timersOf 21 = .ok (.sipush 932, 3) := by decide +kernel
theorem dX8_timersOf_24 : decode cX8_timersOf 24 = .ok (.iconst 3, 1) := by decide +kernel
theorem dX8_timersOf_25 : decode cX8_timersOf 25 = .ok (.iload_n 3, 1) := by decide +kernel
theorem dX8_timersOf_26 : decode cX8_timersOf 26 = .ok (.imul, 1) := by decide +kernel
theorem dX8_timersOf_27 : decode cX8_timersOf 27 = .ok (.iadd, 1) := by decide +kernel
theorem dX8_timersOf_28 : decode cX8_timersOf 28 = .ok (.iaload, 1) := by decide +kernel
theorem dX8_timersOf_29 : decode cX8_timersOf 29 = .ok (.iload_n 1, 1) := by decide +kernel
def k183_0 : List (Nat × XI) := [(0, x_push (0) 1), (1, x_istore 2 2), (2, x_push (0) 3), (3, x_istore 3 4), (4, x_iload 3 5), (5, x_aload 0 6), (6, x_getR 8 0 9), (9, x_push (931) 12), (12, x_iald 13), (13, x_icge 46 16), (16, x_iload 2 17), (17, x_aload 0 18), (18, x_getR 8 0 21), (21, x_push (932) 24), (24, x_push (3) 25), (25, x_iload 3 26), (26, x_imul 27), (27, x_iadd 28), (28, x_iald 29), (29, x_iload 1 30)]
theorem o183_0 (scr : Nat × (Nat → Int32)) : ∀ q ∈ k183_0, XSnd xm scr Y183 q.1 q.2 := xcons (s_iconst dX8_timersOf_0 rfl) (xcons (s_istore_n rfl dX8_timersOf_1 (by decide)) (xcons (s_iconst dX8_timersOf_2 rfl) (xcons (s_istore_n rfl dX8_timersOf_3 (by decide)) (xcons (s_iload_n rfl dX8_timersOf_4) (xcons (s_aload_n rfl dX8_timersOf_5) (xcons (s_getR (f := 0) xC8 (by decide) xw_470 rfl dX8_timersOf_6) (xcons (s_sipush dX8_timersOf_9 rfl) (xcons (s_iald dX8_timersOf_12) (xcons (s_icge dX8_timersOf_13 rfl) (xcons (s_iload_n rfl dX8_timersOf_16) (xcons (s_aload_n rfl dX8_timersOf_17) (xcons (s_getR (f := 0) xC8 (by decide) xw_470 rfl dX8_timersOf_18) (xcons (s_sipush dX8_timersOf_21 rfl) (xcons (s_iconst dX8_timersOf_24 rfl) (xcons (s_iload_n rfl dX8_timersOf_25) (xcons (s_imul dX8_timersOf_26) (xcons (s_iadd dX8_timersOf_27) (xcons (s_iald dX8_timersOf_28) (xcons (s_iload_n rfl dX8_timersOf_29) (xnil))))))))))))))))))))
theorem dX8_timersOf_30 : decode cX8_timersOf 30 = .ok (.if_icmp .ne 7, 3) := by decide +kernel
theorem dX8_timersOf_33 : decode cX8_timersOf 33 = .ok (.iconst 1, 1) := by decide +kernel
theorem dX8_timersOf_34 : decode cX8_timersOf 34 = .ok (.goto 4, 3) := by decide +kernel
theorem dX8_timersOf_37 : decode cX8_timersOf 37 = .ok (.iconst 0, 1) := by decide +kernel
theorem dX8_timersOf_38 : decode cX8_timersOf 38 = .ok (.iadd, 1) := by decide +kernel
theorem dX8_timersOf_39 : decode cX8_timersOf 39 = .ok (.istore_n 2, 1) := by decide +kernel
theorem dX8_timersOf_40 : decode cX8_timersOf 40 = .ok (.iinc 3 1, 3) := by decide +kernel
theorem dX8_timersOf_43 : decode cX8_timersOf 43 = .ok (.goto (-39), 3) := by decide +kernel
theorem dX8_timersOf_46 : decode cX8_timersOf 46 = .ok (.iload_n 2, 1) := by decide +kernel
theorem dX8_timersOf_47 : decode cX8_timersOf 47 = .ok (.ireturn, 1) := by decide +kernel
def k183_1 : List (Nat × XI) := [(30, x_icne 37 33), (33, x_push (1) 34), (34, x_goto 38), (37, x_push (0) 38), (38, x_iadd 39), (39, x_istore 2 40), (40, x_iinc 3 (1) 43), (43, x_goto 4), (46, x_iload 2 47), (47, x_iret)]
theorem o183_1 (scr : Nat × (Nat → Int32)) : ∀ q ∈ k183_1, XSnd xm scr Y183 q.1 q.2 := xcons (s_icne dX8_timersOf_30 rfl) (xcons (s_iconst dX8_timersOf_33 rfl) (xcons (s_goto dX8_timersOf_34 rfl) (xcons (s_iconst dX8_timersOf_37 rfl) (xcons (s_iadd dX8_timersOf_38) (xcons (s_istore_n rfl dX8_timersOf_39 (by decide)) (xcons (s_iinc dX8_timersOf_40 rfl (by decide)) (xcons (s_goto dX8_timersOf_43 rfl) (xcons (s_iload_n rfl dX8_timersOf_46) (xcons (s_iret dX8_timersOf_47 rfl) (xnil))))))))))
def k183 (pc : Nat) : XI := if pc < 30 then xlk k183_0 pc else xlk k183_1 pc
theorem o183 (scr : Nat × (Nat → Int32)) (pc : Nat) : XSnd xm scr Y183 pc (k183 pc) := by
  unfold k183
  exact xite (xlk_ok (o183_0 scr) pc) (xlk_ok (o183_1 scr) pc)
theorem dX8_toldAs_0 : decode cX8_toldAs 0 = .ok (.iload_n 0, 1) := by decide +kernel
theorem dX8_toldAs_1 : decode cX8_toldAs 1 = .ok (.sipush 1000, 3) := by decide +kernel
theorem dX8_toldAs_4 : decode cX8_toldAs 4 = .ok (.if_icmp .lt 15, 3) := by decide +kernel
theorem dX8_toldAs_7 : decode cX8_toldAs 7 = .ok (.sipush 200, 3) := by decide +kernel
theorem dX8_toldAs_10 : decode cX8_toldAs 10 = .ok (.iload_n 0, 1) := by decide +kernel
theorem dX8_toldAs_11 : decode cX8_toldAs 11 = .ok (.iadd, 1) := by decide +kernel
theorem dX8_toldAs_12 : decode cX8_toldAs 12 = .ok (.sipush 1000, 3) := by decide +kernel
theorem dX8_toldAs_15 : decode cX8_toldAs 15 = .ok (.isub, 1) := by decide +kernel
theorem dX8_toldAs_16 : decode cX8_toldAs 16 = .ok (.goto 4, 3) := by decide +kernel
theorem dX8_toldAs_19 : decode cX8_toldAs 19 = .ok (.iload_n 0, 1) := by decide +kernel
theorem dX8_toldAs_20 : decode cX8_toldAs 20 = .ok (.ireturn, 1) := by decide +kernel
def k184_0 : List (Nat × XI) := [(0, x_iload 0 1), (1, x_push (1000) 4), (4, x_iclt 19 7), (7, x_push (200) 10), (10, x_iload 0 11), (11, x_iadd 12), (12, x_push (1000) 15), (15, x_isub 16), (16, x_goto 20), (19, x_iload 0 20), (20, x_iret)]
theorem o184_0 (scr : Nat × (Nat → Int32)) : ∀ q ∈ k184_0, XSnd xm scr Y184 q.1 q.2 := xcons (s_iload_n rfl dX8_toldAs_0) (xcons (s_sipush dX8_toldAs_1 rfl) (xcons (s_iclt dX8_toldAs_4 rfl) (xcons (s_sipush dX8_toldAs_7 rfl) (xcons (s_iload_n rfl dX8_toldAs_10) (xcons (s_iadd dX8_toldAs_11) (xcons (s_sipush dX8_toldAs_12 rfl) (xcons (s_isub dX8_toldAs_15) (xcons (s_goto dX8_toldAs_16 rfl) (xcons (s_iload_n rfl dX8_toldAs_19) (xcons (s_iret dX8_toldAs_20 rfl) (xnil)))))))))))
def k184 (pc : Nat) : XI := xlk k184_0 pc
theorem o184 (scr : Nat × (Nat → Int32)) (pc : Nat) : XSnd xm scr Y184 pc (k184 pc) := by
  unfold k184
  exact xlk_ok (o184_0 scr) pc
theorem dX8_unwatches_0 : decode cX8_unwatches 0 = .ok (.iconst 0, 1) := by decide +kernel
theorem dX8_unwatches_1 : decode cX8_unwatches 1 = .ok (.istore_n 2, 1) := by decide +kernel
theorem dX8_unwatches_2 : decode cX8_unwatches 2 = .ok (.iload_n 2, 1) := by decide +kernel
theorem dX8_unwatches_3 : decode cX8_unwatches 3 = .ok (.aload_n 0, 1) := by decide +kernel
theorem dX8_unwatches_4 : decode cX8_unwatches 4 = .ok (.getfield 9, 3) := by decide +kernel
theorem dX8_unwatches_7 : decode cX8_unwatches 7 = .ok (.sipush 924, 3) := by decide +kernel
theorem dX8_unwatches_10 : decode cX8_unwatches 10 = .ok (.iaload, 1) := by decide +kernel
theorem dX8_unwatches_11 : decode cX8_unwatches 11 = .ok (.if_icmp .ge 80, 3) := by decide +kernel
theorem dX8_unwatches_14 : decode cX8_unwatches 14 = .ok (.iconst 0, 1) := by decide +kernel
theorem dX8_unwatches_15 : decode cX8_unwatches 15 = .ok (.istore_n 3, 1) := by decide +kernel
theorem dX8_unwatches_16 : decode cX8_unwatches 16 = .ok (.aload_n 0, 1) := by decide +kernel
theorem dX8_unwatches_17 : decode cX8_unwatches 17 = .ok (.iload_n 2, 1) := by decide +kernel
theorem dX8_unwatches_18 : decode cX8_unwatches 18 = .ok (.bipush 51, 2) := by decide +kernel
theorem dX8_unwatches_20 : decode cX8_unwatches 20 = .ok (.invokevirtual 55, 3) := by decide +kernel
theorem dX8_unwatches_23 : decode cX8_unwatches 23 = .ok (.istore 4, 2) := by decide +kernel
theorem dX8_unwatches_25 : decode cX8_unwatches 25 = .ok (.iconst 0, 1) := by decide +kernel
theorem dX8_unwatches_26 : decode cX8_unwatches 26 = .ok (.istore 5, 2) := by decide +kernel
theorem dX8_unwatches_28 : decode cX8_unwatches 28 = .ok (.iload 5, 2) := by decide +kernel
theorem dX8_unwatches_30 : decode cX8_unwatches 30 = .ok (.iload 4, 2) := by decide +kernel
theorem dX8_unwatches_32 : decode cX8_unwatches 32 = .ok (.if_icmp .ge 45, 3) := by decide +kernel
def k185_0 : List (Nat × XI) := [(0, x_push (0) 1), (1, x_istore 2 2), (2, x_iload 2 3), (3, x_aload 0 4), (4, x_getR 8 0 7), (7, x_push (924) 10), (10, x_iald 11), (11, x_icge 91 14), (14, x_push (0) 15), (15, x_istore 3 16), (16, x_aload 0 17), (17, x_iload 2 18), (18, x_push (51) 20), (20, x_inv 108 8 2 23), (23, x_istore 4 25), (25, x_push (0) 26), (26, x_istore 5 28), (28, x_iload 5 30), (30, x_iload 4 32), (32, x_icge 77 35)]
theorem o185_0 (scr : Nat × (Nat → Int32)) : ∀ q ∈ k185_0, XSnd xm scr Y185 q.1 q.2 := xcons (s_iconst dX8_unwatches_0 rfl) (xcons (s_istore_n rfl dX8_unwatches_1 (by decide)) (xcons (s_iload_n rfl dX8_unwatches_2) (xcons (s_aload_n rfl dX8_unwatches_3) (xcons (s_getR (f := 0) xC8 (by decide) xw_470 rfl dX8_unwatches_4) (xcons (s_sipush dX8_unwatches_7 rfl) (xcons (s_iald dX8_unwatches_10) (xcons (s_icge dX8_unwatches_11 rfl) (xcons (s_iconst dX8_unwatches_14 rfl) (xcons (s_istore_n rfl dX8_unwatches_15 (by decide)) (xcons (s_aload_n rfl dX8_unwatches_16) (xcons (s_iload_n rfl dX8_unwatches_17) (xcons (s_bipush dX8_unwatches_18 rfl) (xcons (s_inv (mid := 108) xC8 cal_108 xw_508 xw_509 xw_510 dX8_unwatches_20) (xcons (s_istore dX8_unwatches_23 (by decide)) (xcons (s_iconst dX8_unwatches_25 rfl) (xcons (s_istore dX8_unwatches_26 (by decide)) (xcons (s_iload dX8_unwatches_28) (xcons (s_iload dX8_unwatches_30) (xcons (s_icge dX8_unwatches_32 rfl) (xnil))))))))))))))))))))
theorem dX8_unwatches_35 : decode cX8_unwatches 35 = .ok (.aload_n 0, 1) := by decide +kernel
theorem dX8_unwatches_36 : decode cX8_unwatches 36 = .ok (.iload_n 2, 1) := by decide +kernel
theorem dX8_unwatches_37 : decode cX8_unwatches 37 = .ok (.bipush 52, 2) := by decide +kernel
theorem dX8_unwatches_39 : decode cX8_unwatches 39 = .ok (.iload 5, 2) := by decide +kernel
theorem dX8_unwatches_41 : decode cX8_unwatches 41 = .ok (.iadd, 1) := by decide +kernel
theorem dX8_unwatches_42 : decode cX8_unwatches 42 = .ok (.invokevirtual 55, 3) := by decide +kernel
theorem dX8_unwatches_45 : decode cX8_unwatches 45 = .ok (.iload_n 1, 1) := by decide +kernel
theorem dX8_unwatches_46 : decode cX8_unwatches 46 = .ok (.if_icmp .eq 25, 3) := by decide +kernel
theorem dX8_unwatches_49 : decode cX8_unwatches 49 = .ok (.aload_n 0, 1) := by decide +kernel
theorem dX8_unwatches_50 : decode cX8_unwatches 50 = .ok (.iload_n 2, 1) := by decide +kernel
theorem dX8_unwatches_51 : decode cX8_unwatches 51 = .ok (.bipush 52, 2) := by decide +kernel
theorem dX8_unwatches_53 : decode cX8_unwatches 53 = .ok (.iload_n 3, 1) := by decide +kernel
theorem dX8_unwatches_54 : decode cX8_unwatches 54 = .ok (.iadd, 1) := by decide +kernel
theorem dX8_unwatches_55 : decode cX8_unwatches 55 = .ok (.aload_n 0, 1) := by decide +kernel
theorem dX8_unwatches_56 : decode cX8_unwatches 56 = .ok (.iload_n 2, 1) := by decide +kernel
theorem dX8_unwatches_57 : decode cX8_unwatches 57 = .ok (.bipush 52, 2) := by decide +kernel
theorem dX8_unwatches_59 : decode cX8_unwatches 59 = .ok (.iload 5, 2) := by decide +kernel
theorem dX8_unwatches_61 : decode cX8_unwatches 61 = .ok (.iadd, 1) := by decide +kernel
theorem dX8_unwatches_62 : decode cX8_unwatches 62 = .ok (.invokevirtual 55, 3) := by decide +kernel
theorem dX8_unwatches_65 : decode cX8_unwatches 65 = .ok (.invokevirtual 63, 3) := by decide +kernel
def k185_1 : List (Nat × XI) := [(35, x_aload 0 36), (36, x_iload 2 37), (37, x_push (52) 39), (39, x_iload 5 41), (41, x_iadd 42), (42, x_inv 108 8 2 45), (45, x_iload 1 46), (46, x_iceq 71 49), (49, x_aload 0 50), (50, x_iload 2 51), (51, x_push (52) 53), (53, x_iload 3 54), (54, x_iadd 55), (55, x_aload 0 56), (56, x_iload 2 57), (57, x_push (52) 59), (59, x_iload 5 61), (61, x_iadd 62), (62, x_inv 108 8 2 65), (65, x_inv 172 8 3 68)]
theorem o185_1 (scr : Nat × (Nat → Int32)) : ∀ q ∈ k185_1, XSnd xm scr Y185 q.1 q.2 := xcons (s_aload_n rfl dX8_unwatches_35) (xcons (s_iload_n rfl dX8_unwatches_36) (xcons (s_bipush dX8_unwatches_37 rfl) (xcons (s_iload dX8_unwatches_39) (xcons (s_iadd dX8_unwatches_41) (xcons (s_inv (mid := 108) xC8 cal_108 xw_508 xw_509 xw_510 dX8_unwatches_42) (xcons (s_iload_n rfl dX8_unwatches_45) (xcons (s_iceq dX8_unwatches_46 rfl) (xcons (s_aload_n rfl dX8_unwatches_49) (xcons (s_iload_n rfl dX8_unwatches_50) (xcons (s_bipush dX8_unwatches_51 rfl) (xcons (s_iload_n rfl dX8_unwatches_53) (xcons (s_iadd dX8_unwatches_54) (xcons (s_aload_n rfl dX8_unwatches_55) (xcons (s_iload_n rfl dX8_unwatches_56) (xcons (s_bipush dX8_unwatches_57 rfl) (xcons (s_iload dX8_unwatches_59) (xcons (s_iadd dX8_unwatches_61) (xcons (s_inv (mid := 108) xC8 cal_108 xw_508 xw_509 xw_510 dX8_unwatches_62) (xcons (s_inv (mid := 172) xC8 cal_172 xw_472 xw_473 xw_474 dX8_unwatches_65) (xnil))))))))))))))))))))
theorem dX8_unwatches_68 : decode cX8_unwatches 68 = .ok (.iinc 3 1, 3) := by decide +kernel
theorem dX8_unwatches_71 : decode cX8_unwatches 71 = .ok (.iinc 5 1, 3) := by decide +kernel
theorem dX8_unwatches_74 : decode cX8_unwatches 74 = .ok (.goto (-46), 3) := by decide +kernel
theorem dX8_unwatches_77 : decode cX8_unwatches 77 = .ok (.aload_n 0, 1) := by decide +kernel
theorem dX8_unwatches_78 : decode cX8_unwatches 78 = .ok (.iload_n 2, 1) := by decide +kernel
theorem dX8_unwatches_79 : decode cX8_unwatches 79 = .ok (.bipush 51, 2) := by decide +kernel
theorem dX8_unwatches_81 : decode cX8_unwatches 81 = .ok (.iload_n 3, 1) := by decide +kernel
theorem dX8_unwatches_82 : decode cX8_unwatches 82 = .ok (.invokevirtual 63, 3) := by decide +kernel
theorem dX8_unwatches_85 : decode cX8_unwatches 85 = .ok (.iinc 2 1, 3) := by decide +kernel
theorem dX8_unwatches_88 : decode cX8_unwatches 88 = .ok (.goto (-86), 3) := by decide +kernel
theorem dX8_unwatches_91 : decode cX8_unwatches 91 = .ok (.return_, 1) := by decide +kernel
def k185_2 : List (Nat × XI) := [(68, x_iinc 3 (1) 71), (71, x_iinc 5 (1) 74), (74, x_goto 28), (77, x_aload 0 78), (78, x_iload 2 79), (79, x_push (51) 81), (81, x_iload 3 82), (82, x_inv 172 8 3 85), (85, x_iinc 2 (1) 88), (88, x_goto 2), (91, x_ret)]
theorem o185_2 (scr : Nat × (Nat → Int32)) : ∀ q ∈ k185_2, XSnd xm scr Y185 q.1 q.2 := xcons (s_iinc dX8_unwatches_68 rfl (by decide)) (xcons (s_iinc dX8_unwatches_71 rfl (by decide)) (xcons (s_goto dX8_unwatches_74 rfl) (xcons (s_aload_n rfl dX8_unwatches_77) (xcons (s_iload_n rfl dX8_unwatches_78) (xcons (s_bipush dX8_unwatches_79 rfl) (xcons (s_iload_n rfl dX8_unwatches_81) (xcons (s_inv (mid := 172) xC8 cal_172 xw_472 xw_473 xw_474 dX8_unwatches_82) (xcons (s_iinc dX8_unwatches_85 rfl (by decide)) (xcons (s_goto dX8_unwatches_88 rfl) (xcons (s_ret dX8_unwatches_91 rfl) (xnil)))))))))))
def k185 (pc : Nat) : XI := if pc < 35 then xlk k185_0 pc else if pc < 68 then xlk k185_1 pc else xlk k185_2 pc
theorem o185 (scr : Nat × (Nat → Int32)) (pc : Nat) : XSnd xm scr Y185 pc (k185 pc) := by
  unfold k185
  exact xite (xlk_ok (o185_0 scr) pc) (xite (xlk_ok (o185_1 scr) pc) (xlk_ok (o185_2 scr) pc))
theorem dX8_watcher_0 : decode cX8_watcher 0 = .ok (.aload_n 0, 1) := by decide +kernel
theorem dX8_watcher_1 : decode cX8_watcher 1 = .ok (.iload_n 1, 1) := by decide +kernel
theorem dX8_watcher_2 : decode cX8_watcher 2 = .ok (.invokevirtual 167, 3) := by decide +kernel
theorem dX8_watcher_5 : decode cX8_watcher 5 = .ok (.ifCond .eq 7, 3) := by decide +kernel
theorem dX8_watcher_8 : decode cX8_watcher 8 = .ok (.iload_n 2, 1) := by decide +kernel
theorem dX8_watcher_9 : decode cX8_watcher 9 = .ok (.ifCond .ge 5, 3) := by decide +kernel
theorem dX8_watcher_12 : decode cX8_watcher 12 = .ok (.iconst (-1), 1) := by decide +kernel
theorem dX8_watcher_13 : decode cX8_watcher 13 = .ok (.ireturn, 1) := by decide +kernel
theorem dX8_watcher_14 : decode cX8_watcher 14 = .ok (.iload_n 2, 1) := by decide +kernel
theorem dX8_watcher_15 : decode cX8_watcher 15 = .ok (.aload_n 0, 1) := by decide +kernel
theorem dX8_watcher_16 : decode cX8_watcher 16 = .ok (.iload_n 1, 1) := by decide +kernel
theorem dX8_watcher_17 : decode cX8_watcher 17 = .ok (.bipush 51, 2) := by decide +kernel
theorem dX8_watcher_19 : decode cX8_watcher 19 = .ok (.invokevirtual 55, 3) := by decide +kernel
theorem dX8_watcher_22 : decode cX8_watcher 22 = .ok (.if_icmp .ge 15, 3) := by decide +kernel
theorem dX8_watcher_25 : decode cX8_watcher 25 = .ok (.aload_n 0, 1) := by decide +kernel
theorem dX8_watcher_26 : decode cX8_watcher 26 = .ok (.iload_n 1, 1) := by decide +kernel
theorem dX8_watcher_27 : decode cX8_watcher 27 = .ok (.bipush 52, 2) := by decide +kernel
theorem dX8_watcher_29 : decode cX8_watcher 29 = .ok (.iload_n 2, 1) := by decide +kernel
theorem dX8_watcher_30 : decode cX8_watcher 30 = .ok (.iadd, 1) := by decide +kernel
theorem dX8_watcher_31 : decode cX8_watcher 31 = .ok (.invokevirtual 55, 3) := by decide +kernel
def k186_0 : List (Nat × XI) := [(0, x_aload 0 1), (1, x_iload 1 2), (2, x_inv 136 8 1 5), (5, x_ifeq 12 8), (8, x_iload 2 9), (9, x_ifge 14 12), (12, x_push (-1) 13), (13, x_iret), (14, x_iload 2 15), (15, x_aload 0 16), (16, x_iload 1 17), (17, x_push (51) 19), (19, x_inv 108 8 2 22), (22, x_icge 37 25), (25, x_aload 0 26), (26, x_iload 1 27), (27, x_push (52) 29), (29, x_iload 2 30), (30, x_iadd 31), (31, x_inv 108 8 2 34)]
theorem o186_0 (scr : Nat × (Nat → Int32)) : ∀ q ∈ k186_0, XSnd xm scr Y186 q.1 q.2 := xcons (s_aload_n rfl dX8_watcher_0) (xcons (s_iload_n rfl dX8_watcher_1) (xcons (s_inv (mid := 136) xC8 cal_136 xw_483 xw_484 xw_485 dX8_watcher_2) (xcons (s_ifeq dX8_watcher_5 rfl) (xcons (s_iload_n rfl dX8_watcher_8) (xcons (s_ifge dX8_watcher_9 rfl) (xcons (s_iconst dX8_watcher_12 rfl) (xcons (s_iret dX8_watcher_13 rfl) (xcons (s_iload_n rfl dX8_watcher_14) (xcons (s_aload_n rfl dX8_watcher_15) (xcons (s_iload_n rfl dX8_watcher_16) (xcons (s_bipush dX8_watcher_17 rfl) (xcons (s_inv (mid := 108) xC8 cal_108 xw_508 xw_509 xw_510 dX8_watcher_19) (xcons (s_icge dX8_watcher_22 rfl) (xcons (s_aload_n rfl dX8_watcher_25) (xcons (s_iload_n rfl dX8_watcher_26) (xcons (s_bipush dX8_watcher_27 rfl) (xcons (s_iload_n rfl dX8_watcher_29) (xcons (s_iadd dX8_watcher_30) (xcons (s_inv (mid := 108) xC8 cal_108 xw_508 xw_509 xw_510 dX8_watcher_31) (xnil))))))))))))))))))))
theorem dX8_watcher_34 : decode cX8_watcher 34 = .ok (.goto 5, 3) := by decide +kernel
theorem dX8_watcher_37 : decode cX8_watcher 37 = .ok (.bipush (-2), 2) := by decide +kernel
theorem dX8_watcher_39 : decode cX8_watcher 39 = .ok (.ireturn, 1) := by decide +kernel
def k186_1 : List (Nat × XI) := [(34, x_goto 39), (37, x_push (-2) 39), (39, x_iret)]
theorem o186_1 (scr : Nat × (Nat → Int32)) : ∀ q ∈ k186_1, XSnd xm scr Y186 q.1 q.2 := xcons (s_goto dX8_watcher_34 rfl) (xcons (s_bipush dX8_watcher_37 rfl) (xcons (s_iret dX8_watcher_39 rfl) (xnil)))
def k186 (pc : Nat) : XI := if pc < 34 then xlk k186_0 pc else xlk k186_1 pc
theorem o186 (scr : Nat × (Nat → Int32)) (pc : Nat) : XSnd xm scr Y186 pc (k186 pc) := by
  unfold k186
  exact xite (xlk_ok (o186_0 scr) pc) (xlk_ok (o186_1 scr) pc)
theorem dX8_watches_0 : decode cX8_watches 0 = .ok (.iload_n 2, 1) := by decide +kernel
theorem dX8_watches_1 : decode cX8_watches 1 = .ok (.ifCond .ge 10, 3) := by decide +kernel
theorem dX8_watches_4 : decode cX8_watches 4 = .ok (.iload_n 2, 1) := by decide +kernel
theorem dX8_watches_5 : decode cX8_watches 5 = .ok (.bipush 99, 2) := by decide +kernel
theorem dX8_watches_7 : decode cX8_watches 7 = .ok (.iadd, 1) := by decide +kernel
theorem dX8_watches_8 : decode cX8_watches 8 = .ok (.goto 4, 3) := by decide +kernel
theorem dX8_watches_11 : decode cX8_watches 11 = .ok (.iload_n 2, 1) := by decide +kernel
theorem dX8_watches_12 : decode cX8_watches 12 = .ok (.aload_n 0, 1) := by decide +kernel
theorem dX8_watches_13 : decode cX8_watches 13 = .ok (.getfield 9, 3) := by decide +kernel
theorem dX8_watches_16 : decode cX8_watches 16 = .ok (.sipush 924, 3) := by decide +kernel
theorem dX8_watches_19 : decode cX8_watches 19 = .ok (.iaload, 1) := by decide +kernel
theorem dX8_watches_20 : decode cX8_watches 20 = .ok (.irem, 1) := by decide +kernel
theorem dX8_watches_21 : decode cX8_watches 21 = .ok (.istore_n 3, 1) := by decide +kernel
theorem dX8_watches_22 : decode cX8_watches 22 = .ok (.iload_n 3, 1) := by decide +kernel
theorem dX8_watches_23 : decode cX8_watches 23 = .ok (.iload_n 1, 1) := by decide +kernel
theorem dX8_watches_24 : decode cX8_watches 24 = .ok (.if_icmp .ne 4, 3) := by decide +kernel
theorem dX8_watches_27 : decode cX8_watches 27 = .ok (.return_, 1) := by decide +kernel
theorem dX8_watches_28 : decode cX8_watches 28 = .ok (.aload_n 0, 1) := by decide +kernel
theorem dX8_watches_29 : decode cX8_watches 29 = .ok (.iload_n 3, 1) := by decide +kernel
theorem dX8_watches_30 : decode cX8_watches 30 = .ok (.invokevirtual 59, 3) := by decide +kernel
def k187_0 : List (Nat × XI) := [(0, x_iload 2 1), (1, x_ifge 11 4), (4, x_iload 2 5), (5, x_push (99) 7), (7, x_iadd 8), (8, x_goto 12), (11, x_iload 2 12), (12, x_aload 0 13), (13, x_getR 8 0 16), (16, x_push (924) 19), (19, x_iald 20), (20, x_irem 21), (21, x_istore 3 22), (22, x_iload 3 23), (23, x_iload 1 24), (24, x_icne 28 27), (27, x_ret), (28, x_aload 0 29), (29, x_iload 3 30), (30, x_inv 140 8 1 33)]
theorem o187_0 (scr : Nat × (Nat → Int32)) : ∀ q ∈ k187_0, XSnd xm scr Y187 q.1 q.2 := xcons (s_iload_n rfl dX8_watches_0) (xcons (s_ifge dX8_watches_1 rfl) (xcons (s_iload_n rfl dX8_watches_4) (xcons (s_bipush dX8_watches_5 rfl) (xcons (s_iadd dX8_watches_7) (xcons (s_goto dX8_watches_8 rfl) (xcons (s_iload_n rfl dX8_watches_11) (xcons (s_aload_n rfl dX8_watches_12) (xcons (s_getR (f := 0) xC8 (by decide) xw_470 rfl dX8_watches_13) (xcons (s_sipush dX8_watches_16 rfl) (xcons (s_iald dX8_watches_19) (xcons (s_irem dX8_watches_20) (xcons (s_istore_n rfl dX8_watches_21 (by decide)) (xcons (s_iload_n rfl dX8_watches_22) (xcons (s_iload_n rfl dX8_watches_23) (xcons (s_icne dX8_watches_24 rfl) (xcons (s_ret dX8_watches_27 rfl) (xcons (s_aload_n rfl dX8_watches_28) (xcons (s_iload_n rfl dX8_watches_29) (xcons (s_inv (mid := 140) xC8 cal_140 xw_490 xw_491 xw_492 dX8_watches_30) (xnil))))))))))))))))))))
theorem dX8_watches_33 : decode cX8_watches 33 = .ok (.ifCond .ne 16, 3) := by decide +kernel
theorem dX8_watches_36 : decode cX8_watches 36 = .ok (.aload_n 0, 1) := by decide +kernel
theorem dX8_watches_37 : decode cX8_watches 37 = .ok (.iload_n 1, 1) := by decide +kernel
theorem dX8_watches_38 : decode cX8_watches 38 = .ok (.iconst (-1), 1) := by decide +kernel
theorem dX8_watches_39 : decode cX8_watches 39 = .ok (.sipush 1000, 3) := by decide +kernel
theorem dX8_watches_42 : decode cX8_watches 42 = .ok (.iload_n 3, 1) := by decide +kernel
theorem dX8_watches_43 : decode cX8_watches 43 = .ok (.iadd, 1) := by decide +kernel
theorem dX8_watches_44 : decode cX8_watches 44 = .ok (.invokevirtual 84, 3) := by decide +kernel
theorem dX8_watches_47 : decode cX8_watches 47 = .ok (.pop, 1) := by decide +kernel
theorem dX8_watches_48 : decode cX8_watches 48 = .ok (.return_, 1) := by decide +kernel
theorem dX8_watches_49 : decode cX8_watches 49 = .ok (.aload_n 0, 1) := by decide +kernel
theorem dX8_watches_50 : decode cX8_watches 50 = .ok (.iload_n 3, 1) := by decide +kernel
theorem dX8_watches_51 : decode cX8_watches 51 = .ok (.bipush 51, 2) := by decide +kernel
theorem dX8_watches_53 : decode cX8_watches 53 = .ok (.invokevirtual 55, 3) := by decide +kernel
theorem dX8_watches_56 : decode cX8_watches 56 = .ok (.istore 4, 2) := by decide +kernel
theorem dX8_watches_58 : decode cX8_watches 58 = .ok (.iconst 0, 1) := by decide +kernel
theorem dX8_watches_59 : decode cX8_watches 59 = .ok (.istore 5, 2) := by decide +kernel
theorem dX8_watches_61 : decode cX8_watches 61 = .ok (.iload 5, 2) := by decide +kernel
theorem dX8_watches_63 : decode cX8_watches 63 = .ok (.iload 4, 2) := by decide +kernel
theorem dX8_watches_65 : decode cX8_watches 65 = .ok (.if_icmp .ge 24, 3) := by decide +kernel
def k187_1 : List (Nat × XI) := [(33, x_ifne 49 36), (36, x_aload 0 37), (37, x_iload 1 38), (38, x_push (-1) 39), (39, x_push (1000) 42), (42, x_iload 3 43), (43, x_iadd 44), (44, x_inv 171 8 3 47), (47, x_pop 48), (48, x_ret), (49, x_aload 0 50), (50, x_iload 3 51), (51, x_push (51) 53), (53, x_inv 108 8 2 56), (56, x_istore 4 58), (58, x_push (0) 59), (59, x_istore 5 61), (61, x_iload 5 63), (63, x_iload 4 65), (65, x_icge 89 68)]
theorem o187_1 (scr : Nat × (Nat → Int32)) : ∀ q ∈ k187_1, XSnd xm scr Y187 q.1 q.2 := xcons (s_ifne dX8_watches_33 rfl) (xcons (s_aload_n rfl dX8_watches_36) (xcons (s_iload_n rfl dX8_watches_37) (xcons (s_iconst dX8_watches_38 rfl) (xcons (s_sipush dX8_watches_39 rfl) (xcons (s_iload_n rfl dX8_watches_42) (xcons (s_iadd dX8_watches_43) (xcons (s_inv (mid := 171) xC8 cal_171 xw_524 xw_525 xw_526 dX8_watches_44) (xcons (s_pop dX8_watches_47) (xcons (s_ret dX8_watches_48 rfl) (xcons (s_aload_n rfl dX8_watches_49) (xcons (s_iload_n rfl dX8_watches_50) (xcons (s_bipush dX8_watches_51 rfl) (xcons (s_inv (mid := 108) xC8 cal_108 xw_508 xw_509 xw_510 dX8_watches_53) (xcons (s_istore dX8_watches_56 (by decide)) (xcons (s_iconst dX8_watches_58 rfl) (xcons (s_istore dX8_watches_59 (by decide)) (xcons (s_iload dX8_watches_61) (xcons (s_iload dX8_watches_63) (xcons (s_icge dX8_watches_65 rfl) (xnil))))))))))))))))))))
theorem dX8_watches_68 : decode cX8_watches 68 = .ok (.aload_n 0, 1) := by decide +kernel
theorem dX8_watches_69 : decode cX8_watches 69 = .ok (.iload_n 3, 1) := by decide +kernel
theorem dX8_watches_70 : decode cX8_watches 70 = .ok (.bipush 52, 2) := by decide +kernel
theorem dX8_watches_72 : decode cX8_watches 72 = .ok (.iload 5, 2) := by decide +kernel
theorem dX8_watches_74 : decode cX8_watches 74 = .ok (.iadd, 1) := by decide +kernel
theorem dX8_watches_75 : decode cX8_watches 75 = .ok (.invokevirtual 55, 3) := by decide +kernel
theorem dX8_watches_78 : decode cX8_watches 78 = .ok (.iload_n 1, 1) := by decide +kernel
theorem dX8_watches_79 : decode cX8_watches 79 = .ok (.if_icmp .ne 4, 3) := by decide +kernel
theorem dX8_watches_82 : decode cX8_watches 82 = .ok (.return_, 1) := by decide +kernel
theorem dX8_watches_83 : decode cX8_watches 83 = .ok (.iinc 5 1, 3) := by decide +kernel
theorem dX8_watches_86 : decode cX8_watches 86 = .ok (.goto (-25), 3) := by decide +kernel
theorem dX8_watches_89 : decode cX8_watches 89 = .ok (.aload_n 0, 1) := by decide +kernel
theorem dX8_watches_90 : decode cX8_watches 90 = .ok (.iload_n 3, 1) := by decide +kernel
theorem dX8_watches_91 : decode cX8_watches 91 = .ok (.bipush 52, 2) := by decide +kernel
theorem dX8_watches_93 : decode cX8_watches 93 = .ok (.iload 4, 2) := by decide +kernel
theorem dX8_watches_95 : decode cX8_watches 95 = .ok (.iadd, 1) := by decide +kernel
theorem dX8_watches_96 : decode cX8_watches 96 = .ok (.iload_n 1, 1) := by decide +kernel
theorem dX8_watches_97 : decode cX8_watches 97 = .ok (.invokevirtual 63, 3) := by decide +kernel
theorem dX8_watches_100 : decode cX8_watches 100 = .ok (.aload_n 0, 1) := by decide +kernel
theorem dX8_watches_101 : decode cX8_watches 101 = .ok (.iload_n 3, 1) := by decide +kernel
def k187_2 : List (Nat × XI) := [(68, x_aload 0 69), (69, x_iload 3 70), (70, x_push (52) 72), (72, x_iload 5 74), (74, x_iadd 75), (75, x_inv 108 8 2 78), (78, x_iload 1 79), (79, x_icne 83 82), (82, x_ret), (83, x_iinc 5 (1) 86), (86, x_goto 61), (89, x_aload 0 90), (90, x_iload 3 91), (91, x_push (52) 93), (93, x_iload 4 95), (95, x_iadd 96), (96, x_iload 1 97), (97, x_inv 172 8 3 100), (100, x_aload 0 101), (101, x_iload 3 102)]
theorem o187_2 (scr : Nat × (Nat → Int32)) : ∀ q ∈ k187_2, XSnd xm scr Y187 q.1 q.2 := xcons (s_aload_n rfl dX8_watches_68) (xcons (s_iload_n rfl dX8_watches_69) (xcons (s_bipush dX8_watches_70 rfl) (xcons (s_iload dX8_watches_72) (xcons (s_iadd dX8_watches_74) (xcons (s_inv (mid := 108) xC8 cal_108 xw_508 xw_509 xw_510 dX8_watches_75) (xcons (s_iload_n rfl dX8_watches_78) (xcons (s_icne dX8_watches_79 rfl) (xcons (s_ret dX8_watches_82 rfl) (xcons (s_iinc dX8_watches_83 rfl (by decide)) (xcons (s_goto dX8_watches_86 rfl) (xcons (s_aload_n rfl dX8_watches_89) (xcons (s_iload_n rfl dX8_watches_90) (xcons (s_bipush dX8_watches_91 rfl) (xcons (s_iload dX8_watches_93) (xcons (s_iadd dX8_watches_95) (xcons (s_iload_n rfl dX8_watches_96) (xcons (s_inv (mid := 172) xC8 cal_172 xw_472 xw_473 xw_474 dX8_watches_97) (xcons (s_aload_n rfl dX8_watches_100) (xcons (s_iload_n rfl dX8_watches_101) (xnil))))))))))))))))))))
theorem dX8_watches_102 : decode cX8_watches 102 = .ok (.bipush 51, 2) := by decide +kernel
theorem dX8_watches_104 : decode cX8_watches 104 = .ok (.iload 4, 2) := by decide +kernel
theorem dX8_watches_106 : decode cX8_watches 106 = .ok (.iconst 1, 1) := by decide +kernel
theorem dX8_watches_107 : decode cX8_watches 107 = .ok (.iadd, 1) := by decide +kernel
theorem dX8_watches_108 : decode cX8_watches 108 = .ok (.invokevirtual 63, 3) := by decide +kernel
theorem dX8_watches_111 : decode cX8_watches 111 = .ok (.return_, 1) := by decide +kernel
def k187_3 : List (Nat × XI) := [(102, x_push (51) 104), (104, x_iload 4 106), (106, x_push (1) 107), (107, x_iadd 108), (108, x_inv 172 8 3 111), (111, x_ret)]
theorem o187_3 (scr : Nat × (Nat → Int32)) : ∀ q ∈ k187_3, XSnd xm scr Y187 q.1 q.2 := xcons (s_bipush dX8_watches_102 rfl) (xcons (s_iload dX8_watches_104) (xcons (s_iconst dX8_watches_106 rfl) (xcons (s_iadd dX8_watches_107) (xcons (s_inv (mid := 172) xC8 cal_172 xw_472 xw_473 xw_474 dX8_watches_108) (xcons (s_ret dX8_watches_111 rfl) (xnil))))))
def k187 (pc : Nat) : XI := if pc < 68 then if pc < 33 then xlk k187_0 pc else xlk k187_1 pc else if pc < 102 then xlk k187_2 pc else xlk k187_3 pc
theorem o187 (scr : Nat × (Nat → Int32)) (pc : Nat) : XSnd xm scr Y187 pc (k187 pc) := by
  unfold k187
  exact xite (xite (xlk_ok (o187_0 scr) pc) (xlk_ok (o187_1 scr) pc)) (xite (xlk_ok (o187_2 scr) pc) (xlk_ok (o187_3 scr) pc))
theorem dX8_would_0 : decode cX8_would 0 = .ok (.aload_n 0, 1) := by decide +kernel
theorem dX8_would_1 : decode cX8_would 1 = .ok (.iload_n 1, 1) := by decide +kernel
theorem dX8_would_2 : decode cX8_would 2 = .ok (.invokevirtual 167, 3) := by decide +kernel
theorem dX8_would_5 : decode cX8_would 5 = .ok (.ifCond .eq 27, 3) := by decide +kernel
theorem dX8_would_8 : decode cX8_would 8 = .ok (.iload_n 2, 1) := by decide +kernel
theorem dX8_would_9 : decode cX8_would 9 = .ok (.invokestatic 177, 3) := by decide +kernel
theorem dX8_would_12 : decode cX8_would 12 = .ok (.ifCond .eq 20, 3) := by decide +kernel
theorem dX8_would_15 : decode cX8_would 15 = .ok (.iload_n 3, 1) := by decide +kernel
theorem dX8_would_16 : decode cX8_would 16 = .ok (.iconst 0, 1) := by decide +kernel
theorem dX8_would_17 : decode cX8_would 17 = .ok (.iconst 2, 1) := by decide +kernel
theorem dX8_would_18 : decode cX8_would 18 = .ok (.invokestatic 51, 3) := by decide +kernel
theorem dX8_would_21 : decode cX8_would 21 = .ok (.ifCond .eq 11, 3) := by decide +kernel
theorem dX8_would_24 : decode cX8_would 24 = .ok (.aload_n 0, 1) := by decide +kernel
theorem dX8_would_25 : decode cX8_would 25 = .ok (.iload_n 1, 1) := by decide +kernel
theorem dX8_would_26 : decode cX8_would 26 = .ok (.invokevirtual 59, 3) := by decide +kernel
theorem dX8_would_29 : decode cX8_would 29 = .ok (.ifCond .ne 6, 3) := by decide +kernel
theorem dX8_would_32 : decode cX8_would 32 = .ok (.ldc 186, 2) := by decide +kernel
theorem dX8_would_34 : decode cX8_would 34 = .ok (.ireturn, 1) := by decide +kernel
theorem dX8_would_35 : decode cX8_would 35 = .ok (.aload_n 0, 1) := by decide +kernel
theorem dX8_would_36 : decode cX8_would 36 = .ok (.getfield 9, 3) := by decide +kernel
def k188_0 : List (Nat × XI) := [(0, x_aload 0 1), (1, x_iload 1 2), (2, x_inv 136 8 1 5), (5, x_ifeq 32 8), (8, x_iload 2 9), (9, x_invS 143 1 12), (12, x_ifeq 32 15), (15, x_iload 3 16), (16, x_push (0) 17), (17, x_push (2) 18), (18, x_invS 134 3 21), (21, x_ifeq 32 24), (24, x_aload 0 25), (25, x_iload 1 26), (26, x_inv 140 8 1 29), (29, x_ifne 35 32), (32, x_push (-2000000000) 34), (34, x_iret), (35, x_aload 0 36), (36, x_getR 8 0 39)]
theorem o188_0 (scr : Nat × (Nat → Int32)) : ∀ q ∈ k188_0, XSnd xm scr Y188 q.1 q.2 := xcons (s_aload_n rfl dX8_would_0) (xcons (s_iload_n rfl dX8_would_1) (xcons (s_inv (mid := 136) xC8 cal_136 xw_483 xw_484 xw_485 dX8_would_2) (xcons (s_ifeq dX8_would_5 rfl) (xcons (s_iload_n rfl dX8_would_8) (xcons (s_invS (mid := 143) cal_143 xw_688 xw_689 dX8_would_9) (xcons (s_ifeq dX8_would_12 rfl) (xcons (s_iload_n rfl dX8_would_15) (xcons (s_iconst dX8_would_16 rfl) (xcons (s_iconst dX8_would_17 rfl) (xcons (s_invS (mid := 134) cal_134 xw_487 xw_488 dX8_would_18) (xcons (s_ifeq dX8_would_21 rfl) (xcons (s_aload_n rfl dX8_would_24) (xcons (s_iload_n rfl dX8_would_25) (xcons (s_inv (mid := 140) xC8 cal_140 xw_490 xw_491 xw_492 dX8_would_26) (xcons (s_ifne dX8_would_29 rfl) (xcons (s_ldc dX8_would_32 xw_493) (xcons (s_iret dX8_would_34 rfl) (xcons (s_aload_n rfl dX8_would_35) (xcons (s_getR (f := 0) xC8 (by decide) xw_470 rfl dX8_would_36) (xnil))))))))))))))))))))
theorem dX8_would_39 : decode cX8_would 39 = .ok (.aload_n 0, 1) := by decide +kernel
theorem dX8_would_40 : decode cX8_would 40 = .ok (.getfield 13, 3) := by decide +kernel
theorem dX8_would_43 : decode cX8_would 43 = .ok (.invokestatic 200, 3) := by decide +kernel
theorem dX8_would_46 : decode cX8_would 46 = .ok (.aload_n 0, 1) := by decide +kernel
theorem dX8_would_47 : decode cX8_would 47 = .ok (.iconst 0, 1) := by decide +kernel
theorem dX8_would_48 : decode cX8_would 48 = .ok (.putfield 98, 3) := by decide +kernel
theorem dX8_would_51 : decode cX8_would 51 = .ok (.aload_n 0, 1) := by decide +kernel
theorem dX8_would_52 : decode cX8_would 52 = .ok (.iload_n 1, 1) := by decide +kernel
theorem dX8_would_53 : decode cX8_would 53 = .ok (.iconst (-1), 1) := by decide +kernel
theorem dX8_would_54 : decode cX8_would 54 = .ok (.iload_n 2, 1) := by decide +kernel
theorem dX8_would_55 : decode cX8_would 55 = .ok (.invokevirtual 148, 3) := by decide +kernel
theorem dX8_would_58 : decode cX8_would 58 = .ok (.iload_n 3, 1) := by decide +kernel
theorem dX8_would_59 : decode cX8_would 59 = .ok (.ifCond .ne 13, 3) := by decide +kernel
theorem dX8_would_62 : decode cX8_would 62 = .ok (.aload_n 0, 1) := by decide +kernel
theorem dX8_would_63 : decode cX8_would 63 = .ok (.iload_n 1, 1) := by decide +kernel
theorem dX8_would_64 : decode cX8_would 64 = .ok (.bipush 6, 2) := by decide +kernel
theorem dX8_would_66 : decode cX8_would 66 = .ok (.invokevirtual 55, 3) := by decide +kernel
theorem dX8_would_69 : decode cX8_would 69 = .ok (.goto 34, 3) := by decide +kernel
theorem dX8_would_72 : decode cX8_would 72 = .ok (.iload_n 3, 1) := by decide +kernel
theorem dX8_would_73 : decode cX8_would 73 = .ok (.iconst 1, 1) := by decide +kernel
def k188_1 : List (Nat × XI) := [(39, x_aload 0 40), (40, x_getR 8 1 43), (43, x_invS 179 2 46), (46, x_aload 0 47), (47, x_push (0) 48), (48, x_putZ 8 5 51), (51, x_aload 0 52), (52, x_iload 1 53), (53, x_push (-1) 54), (54, x_iload 2 55), (55, x_inv 118 8 3 58), (58, x_iload 3 59), (59, x_ifne 72 62), (62, x_aload 0 63), (63, x_iload 1 64), (64, x_push (6) 66), (66, x_inv 108 8 2 69), (69, x_goto 103), (72, x_iload 3 73), (73, x_push (1) 74)]
theorem o188_1 (scr : Nat × (Nat → Int32)) : ∀ q ∈ k188_1, XSnd xm scr Y188 q.1 q.2 := xcons (s_aload_n rfl dX8_would_39) (xcons (s_getR (f := 1) xC8 (by decide) xw_494 rfl dX8_would_40) (xcons (s_invS (mid := 179) cal_179 xw_478 xw_479 dX8_would_43) (xcons (s_aload_n rfl dX8_would_46) (xcons (s_iconst dX8_would_47 rfl) (xcons (s_putZ (f := 5) xC8 (by decide) xw_562 rfl (Or.inl rfl) dX8_would_48) (xcons (s_aload_n rfl dX8_would_51) (xcons (s_iload_n rfl dX8_would_52) (xcons (s_iconst dX8_would_53 rfl) (xcons (s_iload_n rfl dX8_would_54) (xcons (s_inv (mid := 118) xC8 cal_118 xw_676 xw_677 xw_678 dX8_would_55) (xcons (s_iload_n rfl dX8_would_58) (xcons (s_ifne dX8_would_59 rfl) (xcons (s_aload_n rfl dX8_would_62) (xcons (s_iload_n rfl dX8_would_63) (xcons (s_bipush dX8_would_64 rfl) (xcons (s_inv (mid := 108) xC8 cal_108 xw_508 xw_509 xw_510 dX8_would_66) (xcons (s_goto dX8_would_69 rfl) (xcons (s_iload_n rfl dX8_would_72) (xcons (s_iconst dX8_would_73 rfl) (xnil))))))))))))))))))))
theorem dX8_would_74 : decode cX8_would 74 = .ok (.if_icmp .ne 12, 3) := by decide +kernel
theorem dX8_would_77 : decode cX8_would 77 = .ok (.aload_n 0, 1) := by decide +kernel
theorem dX8_would_78 : decode cX8_would 78 = .ok (.iload_n 1, 1) := by decide +kernel
theorem dX8_would_79 : decode cX8_would 79 = .ok (.iconst 5, 1) := by decide +kernel
theorem dX8_would_80 : decode cX8_would 80 = .ok (.invokevirtual 55, 3) := by decide +kernel
theorem dX8_would_83 : decode cX8_would 83 = .ok (.goto 20, 3) := by decide +kernel
theorem dX8_would_86 : decode cX8_would 86 = .ok (.aload_n 0, 1) := by decide +kernel
theorem dX8_would_87 : decode cX8_would 87 = .ok (.getfield 98, 3) := by decide +kernel
theorem dX8_would_90 : decode cX8_would 90 = .ok (.ifCond .eq 12, 3) := by decide +kernel
theorem dX8_would_93 : decode cX8_would 93 = .ok (.aload_n 0, 1) := by decide +kernel
theorem dX8_would_94 : decode cX8_would 94 = .ok (.getfield 22, 3) := by decide +kernel
theorem dX8_would_97 : decode cX8_would 97 = .ok (.iconst 1, 1) := by decide +kernel
theorem dX8_would_98 : decode cX8_would 98 = .ok (.iaload, 1) := by decide +kernel
theorem dX8_would_99 : decode cX8_would 99 = .ok (.goto 4, 3) := by decide +kernel
theorem dX8_would_102 : decode cX8_would 102 = .ok (.iconst 0, 1) := by decide +kernel
theorem dX8_would_103 : decode cX8_would 103 = .ok (.istore 4, 2) := by decide +kernel
theorem dX8_would_105 : decode cX8_would 105 = .ok (.aload_n 0, 1) := by decide +kernel
theorem dX8_would_106 : decode cX8_would 106 = .ok (.getfield 13, 3) := by decide +kernel
theorem dX8_would_109 : decode cX8_would 109 = .ok (.aload_n 0, 1) := by decide +kernel
theorem dX8_would_110 : decode cX8_would 110 = .ok (.getfield 9, 3) := by decide +kernel
def k188_2 : List (Nat × XI) := [(74, x_icne 86 77), (77, x_aload 0 78), (78, x_iload 1 79), (79, x_push (5) 80), (80, x_inv 108 8 2 83), (83, x_goto 103), (86, x_aload 0 87), (87, x_getI 8 5 90), (90, x_ifeq 102 93), (93, x_aload 0 94), (94, x_getR 8 8 97), (97, x_push (1) 98), (98, x_iald 99), (99, x_goto 103), (102, x_push (0) 103), (103, x_istore 4 105), (105, x_aload 0 106), (106, x_getR 8 1 109), (109, x_aload 0 110), (110, x_getR 8 0 113)]
theorem o188_2 (scr : Nat × (Nat → Int32)) : ∀ q ∈ k188_2, XSnd xm scr Y188 q.1 q.2 := xcons (s_icne dX8_would_74 rfl) (xcons (s_aload_n rfl dX8_would_77) (xcons (s_iload_n rfl dX8_would_78) (xcons (s_iconst dX8_would_79 rfl) (xcons (s_inv (mid := 108) xC8 cal_108 xw_508 xw_509 xw_510 dX8_would_80) (xcons (s_goto dX8_would_83 rfl) (xcons (s_aload_n rfl dX8_would_86) (xcons (s_getI (f := 5) xC8 (by decide) xw_562 rfl dX8_would_87) (xcons (s_ifeq dX8_would_90 rfl) (xcons (s_aload_n rfl dX8_would_93) (xcons (s_getR (f := 8) xC8 (by decide) xw_564 rfl dX8_would_94) (xcons (s_iconst dX8_would_97 rfl) (xcons (s_iald dX8_would_98) (xcons (s_goto dX8_would_99 rfl) (xcons (s_iconst dX8_would_102 rfl) (xcons (s_istore dX8_would_103 (by decide)) (xcons (s_aload_n rfl dX8_would_105) (xcons (s_getR (f := 1) xC8 (by decide) xw_494 rfl dX8_would_106) (xcons (s_aload_n rfl dX8_would_109) (xcons (s_getR (f := 0) xC8 (by decide) xw_470 rfl dX8_would_110) (xnil))))))))))))))))))))
theorem dX8_would_113 : decode cX8_would 113 = .ok (.invokestatic 200, 3) := by decide +kernel
theorem dX8_would_116 : decode cX8_would 116 = .ok (.iload 4, 2) := by decide +kernel
theorem dX8_would_118 : decode cX8_would 118 = .ok (.ireturn, 1) := by decide +kernel
def k188_3 : List (Nat × XI) := [(113, x_invS 179 2 116), (116, x_iload 4 118), (118, x_iret)]
theorem o188_3 (scr : Nat × (Nat → Int32)) : ∀ q ∈ k188_3, XSnd xm scr Y188 q.1 q.2 := xcons (s_invS (mid := 179) cal_179 xw_478 xw_479 dX8_would_113) (xcons (s_iload dX8_would_116) (xcons (s_iret dX8_would_118 rfl) (xnil)))
def k188 (pc : Nat) : XI := if pc < 74 then if pc < 39 then xlk k188_0 pc else xlk k188_1 pc else if pc < 113 then xlk k188_2 pc else xlk k188_3 pc
theorem o188 (scr : Nat × (Nat → Int32)) (pc : Nat) : XSnd xm scr Y188 pc (k188 pc) := by
  unfold k188
  exact xite (xite (xlk_ok (o188_0 scr) pc) (xlk_ok (o188_1 scr) pc)) (xite (xlk_ok (o188_2 scr) pc) (xlk_ok (o188_3 scr) pc))
theorem dJ6_bitCount_0f7a4_0 : decode cJ6_bitCount_0f7a4 0 = .ok (.iload_n 0, 1) := by decide +kernel
theorem dJ6_bitCount_0f7a4_1 : decode cJ6_bitCount_0f7a4 1 = .ok (.iload_n 0, 1) := by decide +kernel
theorem dJ6_bitCount_0f7a4_2 : decode cJ6_bitCount_0f7a4 2 = .ok (.iconst 1, 1) := by decide +kernel
theorem dJ6_bitCount_0f7a4_3 : decode cJ6_bitCount_0f7a4 3 = .ok (.iushr, 1) := by decide +kernel
theorem dJ6_bitCount_0f7a4_4 : decode cJ6_bitCount_0f7a4 4 = .ok (.ldc_w 265, 3) := by decide +kernel
theorem dJ6_bitCount_0f7a4_7 : decode cJ6_bitCount_0f7a4 7 = .ok (.iand, 1) := by decide +kernel
theorem dJ6_bitCount_0f7a4_8 : decode cJ6_bitCount_0f7a4 8 = .ok (.isub, 1) := by decide +kernel
theorem dJ6_bitCount_0f7a4_9 : decode cJ6_bitCount_0f7a4 9 = .ok (.istore_n 0, 1) := by decide +kernel
theorem dJ6_bitCount_0f7a4_10 : decode cJ6_bitCount_0f7a4 10 = .ok (.iload_n 0, 1) := by decide +kernel
theorem dJ6_bitCount_0f7a4_11 : decode cJ6_bitCount_0f7a4 11 = .ok (.ldc_w 266, 3) := by decide +kernel
theorem dJ6_bitCount_0f7a4_14 : decode cJ6_bitCount_0f7a4 14 = .ok (.iand, 1) := by decide +kernel
theorem dJ6_bitCount_0f7a4_15 : decode cJ6_bitCount_0f7a4 15 = .ok (.iload_n 0, 1) := by decide +kernel
theorem dJ6_bitCount_0f7a4_16 : decode cJ6_bitCount_0f7a4 16 = .ok (.iconst 2, 1) := by decide +kernel
theorem dJ6_bitCount_0f7a4_17 : decode cJ6_bitCount_0f7a4 17 = .ok (.iushr, 1) := by decide +kernel
theorem dJ6_bitCount_0f7a4_18 : decode cJ6_bitCount_0f7a4 18 = .ok (.ldc_w 266, 3) := by decide +kernel
theorem dJ6_bitCount_0f7a4_21 : decode cJ6_bitCount_0f7a4 21 = .ok (.iand, 1) := by decide +kernel
theorem dJ6_bitCount_0f7a4_22 : decode cJ6_bitCount_0f7a4 22 = .ok (.iadd, 1) := by decide +kernel
theorem dJ6_bitCount_0f7a4_23 : decode cJ6_bitCount_0f7a4 23 = .ok (.istore_n 0, 1) := by decide +kernel
theorem dJ6_bitCount_0f7a4_24 : decode cJ6_bitCount_0f7a4 24 = .ok (.iload_n 0, 1) := by decide +kernel
theorem dJ6_bitCount_0f7a4_25 : decode cJ6_bitCount_0f7a4 25 = .ok (.iload_n 0, 1) := by decide +kernel
def k189_0 : List (Nat × XI) := [(0, x_iload 0 1), (1, x_iload 0 2), (2, x_push (1) 3), (3, x_iushr 4), (4, x_push (1431655765) 7), (7, x_iand 8), (8, x_isub 9), (9, x_istore 0 10), (10, x_iload 0 11), (11, x_push (858993459) 14), (14, x_iand 15), (15, x_iload 0 16), (16, x_push (2) 17), (17, x_iushr 18), (18, x_push (858993459) 21), (21, x_iand 22), (22, x_iadd 23), (23, x_istore 0 24), (24, x_iload 0 25), (25, x_iload 0 26)]
theorem o189_0 (scr : Nat × (Nat → Int32)) : ∀ q ∈ k189_0, XSnd xm scr Y189 q.1 q.2 := xcons (s_iload_n rfl dJ6_bitCount_0f7a4_0) (xcons (s_iload_n rfl dJ6_bitCount_0f7a4_1) (xcons (s_iconst dJ6_bitCount_0f7a4_2 rfl) (xcons (s_iushr dJ6_bitCount_0f7a4_3) (xcons (s_ldcw dJ6_bitCount_0f7a4_4 xw_691) (xcons (s_iand dJ6_bitCount_0f7a4_7) (xcons (s_isub dJ6_bitCount_0f7a4_8) (xcons (s_istore_n rfl dJ6_bitCount_0f7a4_9 (by decide)) (xcons (s_iload_n rfl dJ6_bitCount_0f7a4_10) (xcons (s_ldcw dJ6_bitCount_0f7a4_11 xw_692) (xcons (s_iand dJ6_bitCount_0f7a4_14) (xcons (s_iload_n rfl dJ6_bitCount_0f7a4_15) (xcons (s_iconst dJ6_bitCount_0f7a4_16 rfl) (xcons (s_iushr dJ6_bitCount_0f7a4_17) (xcons (s_ldcw dJ6_bitCount_0f7a4_18 xw_692) (xcons (s_iand dJ6_bitCount_0f7a4_21) (xcons (s_iadd dJ6_bitCount_0f7a4_22) (xcons (s_istore_n rfl dJ6_bitCount_0f7a4_23 (by decide)) (xcons (s_iload_n rfl dJ6_bitCount_0f7a4_24) (xcons (s_iload_n rfl dJ6_bitCount_0f7a4_25) (xnil))))))))))))))))))))
theorem dJ6_bitCount_0f7a4_26 : decode cJ6_bitCount_0f7a4 26 = .ok (.iconst 4, 1) := by decide +kernel
theorem dJ6_bitCount_0f7a4_27 : decode cJ6_bitCount_0f7a4 27 = .ok (.iushr, 1) := by decide +kernel
theorem dJ6_bitCount_0f7a4_28 : decode cJ6_bitCount_0f7a4 28 = .ok (.iadd, 1) := by decide +kernel
theorem dJ6_bitCount_0f7a4_29 : decode cJ6_bitCount_0f7a4 29 = .ok (.ldc_w 267, 3) := by decide +kernel
theorem dJ6_bitCount_0f7a4_32 : decode cJ6_bitCount_0f7a4 32 = .ok (.iand, 1) := by decide +kernel
theorem dJ6_bitCount_0f7a4_33 : decode cJ6_bitCount_0f7a4 33 = .ok (.istore_n 0, 1) := by decide +kernel
theorem dJ6_bitCount_0f7a4_34 : decode cJ6_bitCount_0f7a4 34 = .ok (.iload_n 0, 1) := by decide +kernel
theorem dJ6_bitCount_0f7a4_35 : decode cJ6_bitCount_0f7a4 35 = .ok (.iload_n 0, 1) := by decide +kernel
theorem dJ6_bitCount_0f7a4_36 : decode cJ6_bitCount_0f7a4 36 = .ok (.bipush 8, 2) := by decide +kernel
theorem dJ6_bitCount_0f7a4_38 : decode cJ6_bitCount_0f7a4 38 = .ok (.iushr, 1) := by decide +kernel
theorem dJ6_bitCount_0f7a4_39 : decode cJ6_bitCount_0f7a4 39 = .ok (.iadd, 1) := by decide +kernel
theorem dJ6_bitCount_0f7a4_40 : decode cJ6_bitCount_0f7a4 40 = .ok (.istore_n 0, 1) := by decide +kernel
theorem dJ6_bitCount_0f7a4_41 : decode cJ6_bitCount_0f7a4 41 = .ok (.iload_n 0, 1) := by decide +kernel
theorem dJ6_bitCount_0f7a4_42 : decode cJ6_bitCount_0f7a4 42 = .ok (.iload_n 0, 1) := by decide +kernel
theorem dJ6_bitCount_0f7a4_43 : decode cJ6_bitCount_0f7a4 43 = .ok (.bipush 16, 2) := by decide +kernel
theorem dJ6_bitCount_0f7a4_45 : decode cJ6_bitCount_0f7a4 45 = .ok (.iushr, 1) := by decide +kernel
theorem dJ6_bitCount_0f7a4_46 : decode cJ6_bitCount_0f7a4 46 = .ok (.iadd, 1) := by decide +kernel
theorem dJ6_bitCount_0f7a4_47 : decode cJ6_bitCount_0f7a4 47 = .ok (.istore_n 0, 1) := by decide +kernel
theorem dJ6_bitCount_0f7a4_48 : decode cJ6_bitCount_0f7a4 48 = .ok (.iload_n 0, 1) := by decide +kernel
theorem dJ6_bitCount_0f7a4_49 : decode cJ6_bitCount_0f7a4 49 = .ok (.bipush 63, 2) := by decide +kernel
def k189_1 : List (Nat × XI) := [(26, x_push (4) 27), (27, x_iushr 28), (28, x_iadd 29), (29, x_push (252645135) 32), (32, x_iand 33), (33, x_istore 0 34), (34, x_iload 0 35), (35, x_iload 0 36), (36, x_push (8) 38), (38, x_iushr 39), (39, x_iadd 40), (40, x_istore 0 41), (41, x_iload 0 42), (42, x_iload 0 43), (43, x_push (16) 45), (45, x_iushr 46), (46, x_iadd 47), (47, x_istore 0 48), (48, x_iload 0 49), (49, x_push (63) 51)]
theorem o189_1 (scr : Nat × (Nat → Int32)) : ∀ q ∈ k189_1, XSnd xm scr Y189 q.1 q.2 := xcons (s_iconst dJ6_bitCount_0f7a4_26 rfl) (xcons (s_iushr dJ6_bitCount_0f7a4_27) (xcons (s_iadd dJ6_bitCount_0f7a4_28) (xcons (s_ldcw dJ6_bitCount_0f7a4_29 xw_693) (xcons (s_iand dJ6_bitCount_0f7a4_32) (xcons (s_istore_n rfl dJ6_bitCount_0f7a4_33 (by decide)) (xcons (s_iload_n rfl dJ6_bitCount_0f7a4_34) (xcons (s_iload_n rfl dJ6_bitCount_0f7a4_35) (xcons (s_bipush dJ6_bitCount_0f7a4_36 rfl) (xcons (s_iushr dJ6_bitCount_0f7a4_38) (xcons (s_iadd dJ6_bitCount_0f7a4_39) (xcons (s_istore_n rfl dJ6_bitCount_0f7a4_40 (by decide)) (xcons (s_iload_n rfl dJ6_bitCount_0f7a4_41) (xcons (s_iload_n rfl dJ6_bitCount_0f7a4_42) (xcons (s_bipush dJ6_bitCount_0f7a4_43 rfl) (xcons (s_iushr dJ6_bitCount_0f7a4_45) (xcons (s_iadd dJ6_bitCount_0f7a4_46) (xcons (s_istore_n rfl dJ6_bitCount_0f7a4_47 (by decide)) (xcons (s_iload_n rfl dJ6_bitCount_0f7a4_48) (xcons (s_bipush dJ6_bitCount_0f7a4_49 rfl) (xnil))))))))))))))))))))
theorem dJ6_bitCount_0f7a4_51 : decode cJ6_bitCount_0f7a4 51 = .ok (.iand, 1) := by decide +kernel
theorem dJ6_bitCount_0f7a4_52 : decode cJ6_bitCount_0f7a4 52 = .ok (.ireturn, 1) := by decide +kernel
def k189_2 : List (Nat × XI) := [(51, x_iand 52), (52, x_iret)]
theorem o189_2 (scr : Nat × (Nat → Int32)) : ∀ q ∈ k189_2, XSnd xm scr Y189 q.1 q.2 := xcons (s_iand dJ6_bitCount_0f7a4_51) (xcons (s_iret dJ6_bitCount_0f7a4_52 rfl) (xnil))
def k189 (pc : Nat) : XI := if pc < 26 then xlk k189_0 pc else if pc < 51 then xlk k189_1 pc else xlk k189_2 pc
theorem o189 (scr : Nat × (Nat → Int32)) (pc : Nat) : XSnd xm scr Y189 pc (k189 pc) := by
  unfold k189
  exact xite (xlk_ok (o189_0 scr) pc) (xite (xlk_ok (o189_1 scr) pc) (xlk_ok (o189_2 scr) pc))
