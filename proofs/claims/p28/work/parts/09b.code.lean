/-! 09b: the code, instruction by instruction -/
theorem dX5_removeFirst_0 : decode cX5_removeFirst 0 = .ok (.aload_n 0, 1) := by decide +kernel
theorem dX5_removeFirst_1 : decode cX5_removeFirst 1 = .ok (.getfield 21, 3) := by decide +kernel
theorem dX5_removeFirst_4 : decode cX5_removeFirst 4 = .ok (.ifCond .le 37, 3) := by decide +kernel
theorem dX5_removeFirst_7 : decode cX5_removeFirst 7 = .ok (.iconst 1, 1) := by decide +kernel
theorem dX5_removeFirst_8 : decode cX5_removeFirst 8 = .ok (.istore_n 1, 1) := by decide +kernel
theorem dX5_removeFirst_9 : decode cX5_removeFirst 9 = .ok (.iload_n 1, 1) := by decide +kernel
theorem dX5_removeFirst_10 : decode cX5_removeFirst 10 = .ok (.aload_n 0, 1) := by decide +kernel
theorem dX5_removeFirst_11 : decode cX5_removeFirst 11 = .ok (.getfield 21, 3) := by decide +kernel
theorem dX5_removeFirst_14 : decode cX5_removeFirst 14 = .ok (.if_icmp .ge 17, 3) := by decide +kernel
theorem dX5_removeFirst_17 : decode cX5_removeFirst 17 = .ok (.aload_n 0, 1) := by decide +kernel
theorem dX5_removeFirst_18 : decode cX5_removeFirst 18 = .ok (.iload_n 1, 1) := by decide +kernel
theorem dX5_removeFirst_19 : decode cX5_removeFirst 19 = .ok (.iload_n 1, 1) := by decide +kernel
theorem dX5_removeFirst_20 : decode cX5_removeFirst 20 = .ok (.iconst 1, 1) := by decide +kernel
theorem dX5_removeFirst_21 : decode cX5_removeFirst 21 = .ok (.isub, 1) := by decide +kernel
theorem dX5_removeFirst_22 : decode cX5_removeFirst 22 = .ok (.invokevirtual 25, 3) := by decide +kernel
theorem dX5_removeFirst_25 : decode cX5_removeFirst 25 = .ok (.iinc 1 1, 3) := by decide +kernel
theorem dX5_removeFirst_28 : decode cX5_removeFirst 28 = .ok (.goto (-19), 3) := by decide +kernel
theorem dX5_removeFirst_31 : decode cX5_removeFirst 31 = .ok (.aload_n 0, 1) := by decide +kernel
theorem dX5_removeFirst_32 : decode cX5_removeFirst 32 = .ok (.dup, 1) := by decide +kernel
theorem dX5_removeFirst_33 : decode cX5_removeFirst 33 = .ok (.getfield 21, 3) := by decide +kernel
def k37_0 : List (Nat × XI) := [(0, x_aload 0 1), (1, x_getI 5 3 4), (4, x_ifle 41 7), (7, x_push (1) 8), (8, x_istore 1 9), (9, x_iload 1 10), (10, x_aload 0 11), (11, x_getI 5 3 14), (14, x_icge 31 17), (17, x_aload 0 18), (18, x_iload 1 19), (19, x_iload 1 20), (20, x_push (1) 21), (21, x_isub 22), (22, x_inv 34 5 2 25), (25, x_iinc 1 (1) 28), (28, x_goto 9), (31, x_aload 0 32), (32, x_dup 33), (33, x_getI 5 3 36)]
theorem o37_0 (scr : Nat × (Nat → Int32)) : ∀ q ∈ k37_0, XSnd xm scr Y37 q.1 q.2 := xcons (s_aload_n rfl dX5_removeFirst_0) (xcons (s_getI (f := 3) xC5 (by decide) xw_114 rfl dX5_removeFirst_1) (xcons (s_ifle dX5_removeFirst_4 rfl) (xcons (s_iconst dX5_removeFirst_7 rfl) (xcons (s_istore_n rfl dX5_removeFirst_8 (by decide)) (xcons (s_iload_n rfl dX5_removeFirst_9) (xcons (s_aload_n rfl dX5_removeFirst_10) (xcons (s_getI (f := 3) xC5 (by decide) xw_114 rfl dX5_removeFirst_11) (xcons (s_icge dX5_removeFirst_14 rfl) (xcons (s_aload_n rfl dX5_removeFirst_17) (xcons (s_iload_n rfl dX5_removeFirst_18) (xcons (s_iload_n rfl dX5_removeFirst_19) (xcons (s_iconst dX5_removeFirst_20 rfl) (xcons (s_isub dX5_removeFirst_21) (xcons (s_inv (mid := 34) xC5 cal_34 xw_124 xw_125 xw_126 dX5_removeFirst_22) (xcons (s_iinc dX5_removeFirst_25 rfl (by decide)) (xcons (s_goto dX5_removeFirst_28 rfl) (xcons (s_aload_n rfl dX5_removeFirst_31) (xcons (s_dup dX5_removeFirst_32) (xcons (s_getI (f := 3) xC5 (by decide) xw_114 rfl dX5_removeFirst_33) (xnil))))))))))))))))))))
theorem dX5_removeFirst_36 : decode cX5_removeFirst 36 = .ok (.iconst 1, 1) := by decide +kernel
theorem dX5_removeFirst_37 : decode cX5_removeFirst 37 = .ok (.isub, 1) := by decide +kernel
theorem dX5_removeFirst_38 : decode cX5_removeFirst 38 = .ok (.putfield 21, 3) := by decide +kernel
theorem dX5_removeFirst_41 : decode cX5_removeFirst 41 = .ok (.return_, 1) := by decide +kernel
def k37_1 : List (Nat × XI) := [(36, x_push (1) 37), (37, x_isub 38), (38, x_putI 5 3 41), (41, x_ret)]
theorem o37_1 (scr : Nat × (Nat → Int32)) : ∀ q ∈ k37_1, XSnd xm scr Y37 q.1 q.2 := xcons (s_iconst dX5_removeFirst_36 rfl) (xcons (s_isub dX5_removeFirst_37) (xcons (s_putI (f := 3) xC5 (by decide) xw_114 rfl (Or.inl rfl) dX5_removeFirst_38) (xcons (s_ret dX5_removeFirst_41 rfl) (xnil))))
def k37 (pc : Nat) : XI := if pc < 36 then xlk k37_0 pc else xlk k37_1 pc
theorem o37 (scr : Nat × (Nat → Int32)) (pc : Nat) : XSnd xm scr Y37 pc (k37 pc) := by
  unfold k37
  exact xite (xlk_ok (o37_0 scr) pc) (xlk_ok (o37_1 scr) pc)
theorem dX5_removeOf_0 : decode cX5_removeOf 0 = .ok (.iconst 0, 1) := by decide +kernel
theorem dX5_removeOf_1 : decode cX5_removeOf 1 = .ok (.istore_n 2, 1) := by decide +kernel
theorem dX5_removeOf_2 : decode cX5_removeOf 2 = .ok (.iconst 0, 1) := by decide +kernel
theorem dX5_removeOf_3 : decode cX5_removeOf 3 = .ok (.istore_n 3, 1) := by decide +kernel
theorem dX5_removeOf_4 : decode cX5_removeOf 4 = .ok (.iload_n 3, 1) := by decide +kernel
theorem dX5_removeOf_5 : decode cX5_removeOf 5 = .ok (.aload_n 0, 1) := by decide +kernel
theorem dX5_removeOf_6 : decode cX5_removeOf 6 = .ok (.getfield 21, 3) := by decide +kernel
theorem dX5_removeOf_9 : decode cX5_removeOf 9 = .ok (.if_icmp .ge 34, 3) := by decide +kernel
theorem dX5_removeOf_12 : decode cX5_removeOf 12 = .ok (.iload_n 3, 1) := by decide +kernel
theorem dX5_removeOf_13 : decode cX5_removeOf 13 = .ok (.bipush 10, 2) := by decide +kernel
theorem dX5_removeOf_15 : decode cX5_removeOf 15 = .ok (.if_icmp .ge 28, 3) := by decide +kernel
theorem dX5_removeOf_18 : decode cX5_removeOf 18 = .ok (.aload_n 0, 1) := by decide +kernel
theorem dX5_removeOf_19 : decode cX5_removeOf 19 = .ok (.getfield 9, 3) := by decide +kernel
theorem dX5_removeOf_22 : decode cX5_removeOf 22 = .ok (.iload_n 3, 1) := by decide +kernel
theorem dX5_removeOf_23 : decode cX5_removeOf 23 = .ok (.iaload, 1) := by decide +kernel
theorem dX5_removeOf_24 : decode cX5_removeOf 24 = .ok (.iload_n 1, 1) := by decide +kernel
theorem dX5_removeOf_25 : decode cX5_removeOf 25 = .ok (.if_icmp .eq 12, 3) := by decide +kernel
theorem dX5_removeOf_28 : decode cX5_removeOf 28 = .ok (.aload_n 0, 1) := by decide +kernel
theorem dX5_removeOf_29 : decode cX5_removeOf 29 = .ok (.iload_n 3, 1) := by decide +kernel
theorem dX5_removeOf_30 : decode cX5_removeOf 30 = .ok (.iload_n 2, 1) := by decide +kernel
def k38_0 : List (Nat × XI) := [(0, x_push (0) 1), (1, x_istore 2 2), (2, x_push (0) 3), (3, x_istore 3 4), (4, x_iload 3 5), (5, x_aload 0 6), (6, x_getI 5 3 9), (9, x_icge 43 12), (12, x_iload 3 13), (13, x_push (10) 15), (15, x_icge 43 18), (18, x_aload 0 19), (19, x_getR 5 0 22), (22, x_iload 3 23), (23, x_iald 24), (24, x_iload 1 25), (25, x_iceq 37 28), (28, x_aload 0 29), (29, x_iload 3 30), (30, x_iload 2 31)]
theorem o38_0 (scr : Nat × (Nat → Int32)) : ∀ q ∈ k38_0, XSnd xm scr Y38 q.1 q.2 := xcons (s_iconst dX5_removeOf_0 rfl) (xcons (s_istore_n rfl dX5_removeOf_1 (by decide)) (xcons (s_iconst dX5_removeOf_2 rfl) (xcons (s_istore_n rfl dX5_removeOf_3 (by decide)) (xcons (s_iload_n rfl dX5_removeOf_4) (xcons (s_aload_n rfl dX5_removeOf_5) (xcons (s_getI (f := 3) xC5 (by decide) xw_114 rfl dX5_removeOf_6) (xcons (s_icge dX5_removeOf_9 rfl) (xcons (s_iload_n rfl dX5_removeOf_12) (xcons (s_bipush dX5_removeOf_13 rfl) (xcons (s_icge dX5_removeOf_15 rfl) (xcons (s_aload_n rfl dX5_removeOf_18) (xcons (s_getR (f := 0) xC5 (by decide) xw_117 rfl dX5_removeOf_19) (xcons (s_iload_n rfl dX5_removeOf_22) (xcons (s_iald dX5_removeOf_23) (xcons (s_iload_n rfl dX5_removeOf_24) (xcons (s_iceq dX5_removeOf_25 rfl) (xcons (s_aload_n rfl dX5_removeOf_28) (xcons (s_iload_n rfl dX5_removeOf_29) (xcons (s_iload_n rfl dX5_removeOf_30) (xnil))))))))))))))))))))
theorem dX5_removeOf_31 : decode cX5_removeOf 31 = .ok (.invokevirtual 25, 3) := by decide +kernel
theorem dX5_removeOf_34 : decode cX5_removeOf 34 = .ok (.iinc 2 1, 3) := by decide +kernel
theorem dX5_removeOf_37 : decode cX5_removeOf 37 = .ok (.iinc 3 1, 3) := by decide +kernel
theorem dX5_removeOf_40 : decode cX5_removeOf 40 = .ok (.goto (-36), 3) := by decide +kernel
theorem dX5_removeOf_43 : decode cX5_removeOf 43 = .ok (.aload_n 0, 1) := by decide +kernel
theorem dX5_removeOf_44 : decode cX5_removeOf 44 = .ok (.iload_n 2, 1) := by decide +kernel
theorem dX5_removeOf_45 : decode cX5_removeOf 45 = .ok (.putfield 21, 3) := by decide +kernel
theorem dX5_removeOf_48 : decode cX5_removeOf 48 = .ok (.return_, 1) := by decide +kernel
def k38_1 : List (Nat × XI) := [(31, x_inv 34 5 2 34), (34, x_iinc 2 (1) 37), (37, x_iinc 3 (1) 40), (40, x_goto 4), (43, x_aload 0 44), (44, x_iload 2 45), (45, x_putI 5 3 48), (48, x_ret)]
theorem o38_1 (scr : Nat × (Nat → Int32)) : ∀ q ∈ k38_1, XSnd xm scr Y38 q.1 q.2 := xcons (s_inv (mid := 34) xC5 cal_34 xw_124 xw_125 xw_126 dX5_removeOf_31) (xcons (s_iinc dX5_removeOf_34 rfl (by decide)) (xcons (s_iinc dX5_removeOf_37 rfl (by decide)) (xcons (s_goto dX5_removeOf_40 rfl) (xcons (s_aload_n rfl dX5_removeOf_43) (xcons (s_iload_n rfl dX5_removeOf_44) (xcons (s_putI (f := 3) xC5 (by decide) xw_114 rfl (Or.inl rfl) dX5_removeOf_45) (xcons (s_ret dX5_removeOf_48 rfl) (xnil))))))))
def k38 (pc : Nat) : XI := if pc < 31 then xlk k38_0 pc else xlk k38_1 pc
theorem o38 (scr : Nat × (Nat → Int32)) (pc : Nat) : XSnd xm scr Y38 pc (k38 pc) := by
  unfold k38
  exact xite (xlk_ok (o38_0 scr) pc) (xlk_ok (o38_1 scr) pc)
theorem dX5_set_0 : decode cX5_set 0 = .ok (.aload_n 0, 1) := by decide +kernel
theorem dX5_set_1 : decode cX5_set 1 = .ok (.getfield 21, 3) := by decide +kernel
theorem dX5_set_4 : decode cX5_set 4 = .ok (.ifCond .lt 12, 3) := by decide +kernel
theorem dX5_set_7 : decode cX5_set 7 = .ok (.aload_n 0, 1) := by decide +kernel
theorem dX5_set_8 : decode cX5_set 8 = .ok (.getfield 21, 3) := by decide +kernel
theorem dX5_set_11 : decode cX5_set 11 = .ok (.bipush 10, 2) := by decide +kernel
theorem dX5_set_13 : decode cX5_set 13 = .ok (.if_icmp .lt 4, 3) := by decide +kernel
theorem dX5_set_16 : decode cX5_set 16 = .ok (.return_, 1) := by decide +kernel
theorem dX5_set_17 : decode cX5_set 17 = .ok (.aload_n 0, 1) := by decide +kernel
theorem dX5_set_18 : decode cX5_set 18 = .ok (.getfield 21, 3) := by decide +kernel
theorem dX5_set_21 : decode cX5_set 21 = .ok (.istore 4, 2) := by decide +kernel
theorem dX5_set_23 : decode cX5_set 23 = .ok (.iload 4, 2) := by decide +kernel
theorem dX5_set_25 : decode cX5_set 25 = .ok (.ifCond .le 32, 3) := by decide +kernel
theorem dX5_set_28 : decode cX5_set 28 = .ok (.aload_n 0, 1) := by decide +kernel
theorem dX5_set_29 : decode cX5_set 29 = .ok (.getfield 15, 3) := by decide +kernel
theorem dX5_set_32 : decode cX5_set 32 = .ok (.iload 4, 2) := by decide +kernel
theorem dX5_set_34 : decode cX5_set 34 = .ok (.iconst 1, 1) := by decide +kernel
theorem dX5_set_35 : decode cX5_set 35 = .ok (.isub, 1) := by decide +kernel
theorem dX5_set_36 : decode cX5_set 36 = .ok (.iaload, 1) := by decide +kernel
theorem dX5_set_37 : decode cX5_set 37 = .ok (.iload_n 2, 1) := by decide +kernel
def k39_0 : List (Nat × XI) := [(0, x_aload 0 1), (1, x_getI 5 3 4), (4, x_iflt 16 7), (7, x_aload 0 8), (8, x_getI 5 3 11), (11, x_push (10) 13), (13, x_iclt 17 16), (16, x_ret), (17, x_aload 0 18), (18, x_getI 5 3 21), (21, x_istore 4 23), (23, x_iload 4 25), (25, x_ifle 57 28), (28, x_aload 0 29), (29, x_getR 5 1 32), (32, x_iload 4 34), (34, x_push (1) 35), (35, x_isub 36), (36, x_iald 37), (37, x_iload 2 38)]
theorem o39_0 (scr : Nat × (Nat → Int32)) : ∀ q ∈ k39_0, XSnd xm scr Y39 q.1 q.2 := xcons (s_aload_n rfl dX5_set_0) (xcons (s_getI (f := 3) xC5 (by decide) xw_114 rfl dX5_set_1) (xcons (s_iflt dX5_set_4 rfl) (xcons (s_aload_n rfl dX5_set_7) (xcons (s_getI (f := 3) xC5 (by decide) xw_114 rfl dX5_set_8) (xcons (s_bipush dX5_set_11 rfl) (xcons (s_iclt dX5_set_13 rfl) (xcons (s_ret dX5_set_16 rfl) (xcons (s_aload_n rfl dX5_set_17) (xcons (s_getI (f := 3) xC5 (by decide) xw_114 rfl dX5_set_18) (xcons (s_istore dX5_set_21 (by decide)) (xcons (s_iload dX5_set_23) (xcons (s_ifle dX5_set_25 rfl) (xcons (s_aload_n rfl dX5_set_28) (xcons (s_getR (f := 1) xC5 (by decide) xw_119 rfl dX5_set_29) (xcons (s_iload dX5_set_32) (xcons (s_iconst dX5_set_34 rfl) (xcons (s_isub dX5_set_35) (xcons (s_iald dX5_set_36) (xcons (s_iload_n rfl dX5_set_37) (xnil))))))))))))))))))))
theorem dX5_set_38 : decode cX5_set 38 = .ok (.if_icmp .le 19, 3) := by decide +kernel
theorem dX5_set_41 : decode cX5_set 41 = .ok (.aload_n 0, 1) := by decide +kernel
theorem dX5_set_42 : decode cX5_set 42 = .ok (.iload 4, 2) := by decide +kernel
theorem dX5_set_44 : decode cX5_set 44 = .ok (.iconst 1, 1) := by decide +kernel
theorem dX5_set_45 : decode cX5_set 45 = .ok (.isub, 1) := by decide +kernel
theorem dX5_set_46 : decode cX5_set 46 = .ok (.iload 4, 2) := by decide +kernel
theorem dX5_set_48 : decode cX5_set 48 = .ok (.invokevirtual 25, 3) := by decide +kernel
theorem dX5_set_51 : decode cX5_set 51 = .ok (.iinc 4 (-1), 3) := by decide +kernel
theorem dX5_set_54 : decode cX5_set 54 = .ok (.goto (-31), 3) := by decide +kernel
theorem dX5_set_57 : decode cX5_set 57 = .ok (.aload_n 0, 1) := by decide +kernel
theorem dX5_set_58 : decode cX5_set 58 = .ok (.getfield 9, 3) := by decide +kernel
theorem dX5_set_61 : decode cX5_set 61 = .ok (.iload 4, 2) := by decide +kernel
theorem dX5_set_63 : decode cX5_set 63 = .ok (.iload_n 1, 1) := by decide +kernel
theorem dX5_set_64 : decode cX5_set 64 = .ok (.iastore, 1) := by decide +kernel
theorem dX5_set_65 : decode cX5_set 65 = .ok (.aload_n 0, 1) := by decide +kernel
theorem dX5_set_66 : decode cX5_set 66 = .ok (.getfield 15, 3) := by decide +kernel
theorem dX5_set_69 : decode cX5_set 69 = .ok (.iload 4, 2) := by decide +kernel
theorem dX5_set_71 : decode cX5_set 71 = .ok (.iload_n 2, 1) := by decide +kernel
theorem dX5_set_72 : decode cX5_set 72 = .ok (.iastore, 1) := by decide +kernel
theorem dX5_set_73 : decode cX5_set 73 = .ok (.aload_n 0, 1) := by decide +kernel
def k39_1 : List (Nat × XI) := [(38, x_icle 57 41), (41, x_aload 0 42), (42, x_iload 4 44), (44, x_push (1) 45), (45, x_isub 46), (46, x_iload 4 48), (48, x_inv 34 5 2 51), (51, x_iinc 4 (-1) 54), (54, x_goto 23), (57, x_aload 0 58), (58, x_getR 5 0 61), (61, x_iload 4 63), (63, x_iload 1 64), (64, x_iast 65), (65, x_aload 0 66), (66, x_getR 5 1 69), (69, x_iload 4 71), (71, x_iload 2 72), (72, x_iast 73), (73, x_aload 0 74)]
theorem o39_1 (scr : Nat × (Nat → Int32)) : ∀ q ∈ k39_1, XSnd xm scr Y39 q.1 q.2 := xcons (s_icle dX5_set_38 rfl) (xcons (s_aload_n rfl dX5_set_41) (xcons (s_iload dX5_set_42) (xcons (s_iconst dX5_set_44 rfl) (xcons (s_isub dX5_set_45) (xcons (s_iload dX5_set_46) (xcons (s_inv (mid := 34) xC5 cal_34 xw_124 xw_125 xw_126 dX5_set_48) (xcons (s_iinc dX5_set_51 rfl (by decide)) (xcons (s_goto dX5_set_54 rfl) (xcons (s_aload_n rfl dX5_set_57) (xcons (s_getR (f := 0) xC5 (by decide) xw_117 rfl dX5_set_58) (xcons (s_iload dX5_set_61) (xcons (s_iload_n rfl dX5_set_63) (xcons (s_iast dX5_set_64) (xcons (s_aload_n rfl dX5_set_65) (xcons (s_getR (f := 1) xC5 (by decide) xw_119 rfl dX5_set_66) (xcons (s_iload dX5_set_69) (xcons (s_iload_n rfl dX5_set_71) (xcons (s_iast dX5_set_72) (xcons (s_aload_n rfl dX5_set_73) (xnil))))))))))))))))))))
theorem dX5_set_74 : decode cX5_set 74 = .ok (.getfield 18, 3) := by decide +kernel
theorem dX5_set_77 : decode cX5_set 77 = .ok (.iload 4, 2) := by decide +kernel
theorem dX5_set_79 : decode cX5_set 79 = .ok (.iload_n 3, 1) := by decide +kernel
theorem dX5_set_80 : decode cX5_set 80 = .ok (.iastore, 1) := by decide +kernel
theorem dX5_set_81 : decode cX5_set 81 = .ok (.aload_n 0, 1) := by decide +kernel
theorem dX5_set_82 : decode cX5_set 82 = .ok (.dup, 1) := by decide +kernel
theorem dX5_set_83 : decode cX5_set 83 = .ok (.getfield 21, 3) := by decide +kernel
theorem dX5_set_86 : decode cX5_set 86 = .ok (.iconst 1, 1) := by decide +kernel
theorem dX5_set_87 : decode cX5_set 87 = .ok (.iadd, 1) := by decide +kernel
theorem dX5_set_88 : decode cX5_set 88 = .ok (.putfield 21, 3) := by decide +kernel
theorem dX5_set_91 : decode cX5_set 91 = .ok (.return_, 1) := by decide +kernel
def k39_2 : List (Nat × XI) := [(74, x_getR 5 2 77), (77, x_iload 4 79), (79, x_iload 3 80), (80, x_iast 81), (81, x_aload 0 82), (82, x_dup 83), (83, x_getI 5 3 86), (86, x_push (1) 87), (87, x_iadd 88), (88, x_putI 5 3 91), (91, x_ret)]
theorem o39_2 (scr : Nat × (Nat → Int32)) : ∀ q ∈ k39_2, XSnd xm scr Y39 q.1 q.2 := xcons (s_getR (f := 2) xC5 (by decide) xw_120 rfl dX5_set_74) (xcons (s_iload dX5_set_77) (xcons (s_iload_n rfl dX5_set_79) (xcons (s_iast dX5_set_80) (xcons (s_aload_n rfl dX5_set_81) (xcons (s_dup dX5_set_82) (xcons (s_getI (f := 3) xC5 (by decide) xw_114 rfl dX5_set_83) (xcons (s_iconst dX5_set_86 rfl) (xcons (s_iadd dX5_set_87) (xcons (s_putI (f := 3) xC5 (by decide) xw_114 rfl (Or.inl rfl) dX5_set_88) (xcons (s_ret dX5_set_91 rfl) (xnil)))))))))))
def k39 (pc : Nat) : XI := if pc < 38 then xlk k39_0 pc else if pc < 74 then xlk k39_1 pc else xlk k39_2 pc
theorem o39 (scr : Nat × (Nat → Int32)) (pc : Nat) : XSnd xm scr Y39 pc (k39 pc) := by
  unfold k39
  exact xite (xlk_ok (o39_0 scr) pc) (xite (xlk_ok (o39_1 scr) pc) (xlk_ok (o39_2 scr) pc))
theorem dX6_addActor_0 : decode cX6_addActor 0 = .ok (.iload_n 1, 1) := by decide +kernel
theorem dX6_addActor_1 : decode cX6_addActor 1 = .ok (.iconst (-1), 1) := by decide +kernel
theorem dX6_addActor_2 : decode cX6_addActor 2 = .ok (.if_icmp .ne 18, 3) := by decide +kernel
theorem dX6_addActor_5 : decode cX6_addActor 5 = .ok (.aload_n 0, 1) := by decide +kernel
theorem dX6_addActor_6 : decode cX6_addActor 6 = .ok (.getfield 44, 3) := by decide +kernel
theorem dX6_addActor_9 : decode cX6_addActor 9 = .ok (.ifCond .ne 7, 3) := by decide +kernel
theorem dX6_addActor_12 : decode cX6_addActor 12 = .ok (.iconst 1, 1) := by decide +kernel
theorem dX6_addActor_13 : decode cX6_addActor 13 = .ok (.goto 12, 3) := by decide +kernel
theorem dX6_addActor_16 : decode cX6_addActor 16 = .ok (.iconst 0, 1) := by decide +kernel
theorem dX6_addActor_17 : decode cX6_addActor 17 = .ok (.goto 8, 3) := by decide +kernel
theorem dX6_addActor_20 : decode cX6_addActor 20 = .ok (.aload_n 0, 1) := by decide +kernel
theorem dX6_addActor_21 : decode cX6_addActor 21 = .ok (.iload_n 1, 1) := by decide +kernel
theorem dX6_addActor_22 : decode cX6_addActor 22 = .ok (.invokevirtual 82, 3) := by decide +kernel
theorem dX6_addActor_25 : decode cX6_addActor 25 = .ok (.istore 6, 2) := by decide +kernel
theorem dX6_addActor_27 : decode cX6_addActor 27 = .ok (.iload 6, 2) := by decide +kernel
theorem dX6_addActor_29 : decode cX6_addActor 29 = .ok (.ifCond .eq 47, 3) := by decide +kernel
theorem dX6_addActor_32 : decode cX6_addActor 32 = .ok (.iload_n 2, 1) := by decide +kernel
theorem dX6_addActor_33 : decode cX6_addActor 33 = .ok (.ifCond .lt 43, 3) := by decide +kernel
theorem dX6_addActor_36 : decode cX6_addActor 36 = .ok (.iload_n 2, 1) := by decide +kernel
theorem dX6_addActor_37 : decode cX6_addActor 37 = .ok (.bipush 9, 2) := by decide +kernel
def k40_0 : List (Nat × XI) := [(0, x_iload 1 1), (1, x_push (-1) 2), (2, x_icne 20 5), (5, x_aload 0 6), (6, x_getI 6 4 9), (9, x_ifne 16 12), (12, x_push (1) 13), (13, x_goto 25), (16, x_push (0) 17), (17, x_goto 25), (20, x_aload 0 21), (21, x_iload 1 22), (22, x_inv 53 6 1 25), (25, x_istore 6 27), (27, x_iload 6 29), (29, x_ifeq 76 32), (32, x_iload 2 33), (33, x_iflt 76 36), (36, x_iload 2 37), (37, x_push (9) 39)]
theorem o40_0 (scr : Nat × (Nat → Int32)) : ∀ q ∈ k40_0, XSnd xm scr Y40 q.1 q.2 := xcons (s_iload_n rfl dX6_addActor_0) (xcons (s_iconst dX6_addActor_1 rfl) (xcons (s_icne dX6_addActor_2 rfl) (xcons (s_aload_n rfl dX6_addActor_5) (xcons (s_getI (f := 4) xC6 (by decide) xw_127 rfl dX6_addActor_6) (xcons (s_ifne dX6_addActor_9 rfl) (xcons (s_iconst dX6_addActor_12 rfl) (xcons (s_goto dX6_addActor_13 rfl) (xcons (s_iconst dX6_addActor_16 rfl) (xcons (s_goto dX6_addActor_17 rfl) (xcons (s_aload_n rfl dX6_addActor_20) (xcons (s_iload_n rfl dX6_addActor_21) (xcons (s_inv (mid := 53) xC6 cal_53 xw_130 xw_131 xw_132 dX6_addActor_22) (xcons (s_istore dX6_addActor_25 (by decide)) (xcons (s_iload dX6_addActor_27) (xcons (s_ifeq dX6_addActor_29 rfl) (xcons (s_iload_n rfl dX6_addActor_32) (xcons (s_iflt dX6_addActor_33 rfl) (xcons (s_iload_n rfl dX6_addActor_36) (xcons (s_bipush dX6_addActor_37 rfl) (xnil))))))))))))))))))))
theorem dX6_addActor_39 : decode cX6_addActor 39 = .ok (.if_icmp .gt 37, 3) := by decide +kernel
theorem dX6_addActor_42 : decode cX6_addActor 42 = .ok (.iload_n 3, 1) := by decide +kernel
theorem dX6_addActor_43 : decode cX6_addActor 43 = .ok (.ifCond .lt 33, 3) := by decide +kernel
theorem dX6_addActor_46 : decode cX6_addActor 46 = .ok (.iload_n 3, 1) := by decide +kernel
theorem dX6_addActor_47 : decode cX6_addActor 47 = .ok (.iconst 2, 1) := by decide +kernel
theorem dX6_addActor_48 : decode cX6_addActor 48 = .ok (.if_icmp .gt 28, 3) := by decide +kernel
theorem dX6_addActor_51 : decode cX6_addActor 51 = .ok (.iload 4, 2) := by decide +kernel
theorem dX6_addActor_53 : decode cX6_addActor 53 = .ok (.ifCond .lt 23, 3) := by decide +kernel
theorem dX6_addActor_56 : decode cX6_addActor 56 = .ok (.iload 4, 2) := by decide +kernel
theorem dX6_addActor_58 : decode cX6_addActor 58 = .ok (.bipush 9, 2) := by decide +kernel
theorem dX6_addActor_60 : decode cX6_addActor 60 = .ok (.if_icmp .gt 16, 3) := by decide +kernel
theorem dX6_addActor_63 : decode cX6_addActor 63 = .ok (.iload 5, 2) := by decide +kernel
theorem dX6_addActor_65 : decode cX6_addActor 65 = .ok (.iconst 1, 1) := by decide +kernel
theorem dX6_addActor_66 : decode cX6_addActor 66 = .ok (.if_icmp .lt 10, 3) := by decide +kernel
theorem dX6_addActor_69 : decode cX6_addActor 69 = .ok (.iload 5, 2) := by decide +kernel
theorem dX6_addActor_71 : decode cX6_addActor 71 = .ok (.bipush 50, 2) := by decide +kernel
theorem dX6_addActor_73 : decode cX6_addActor 73 = .ok (.if_icmp .le 5, 3) := by decide +kernel
theorem dX6_addActor_76 : decode cX6_addActor 76 = .ok (.iconst (-1), 1) := by decide +kernel
theorem dX6_addActor_77 : decode cX6_addActor 77 = .ok (.ireturn, 1) := by decide +kernel
theorem dX6_addActor_78 : decode cX6_addActor 78 = .ok (.iload_n 1, 1) := by decide +kernel
def k40_1 : List (Nat × XI) := [(39, x_icgt 76 42), (42, x_iload 3 43), (43, x_iflt 76 46), (46, x_iload 3 47), (47, x_push (2) 48), (48, x_icgt 76 51), (51, x_iload 4 53), (53, x_iflt 76 56), (56, x_iload 4 58), (58, x_push (9) 60), (60, x_icgt 76 63), (63, x_iload 5 65), (65, x_push (1) 66), (66, x_iclt 76 69), (69, x_iload 5 71), (71, x_push (50) 73), (73, x_icle 78 76), (76, x_push (-1) 77), (77, x_iret), (78, x_iload 1 79)]
theorem o40_1 (scr : Nat × (Nat → Int32)) : ∀ q ∈ k40_1, XSnd xm scr Y40 q.1 q.2 := xcons (s_icgt dX6_addActor_39 rfl) (xcons (s_iload_n rfl dX6_addActor_42) (xcons (s_iflt dX6_addActor_43 rfl) (xcons (s_iload_n rfl dX6_addActor_46) (xcons (s_iconst dX6_addActor_47 rfl) (xcons (s_icgt dX6_addActor_48 rfl) (xcons (s_iload dX6_addActor_51) (xcons (s_iflt dX6_addActor_53 rfl) (xcons (s_iload dX6_addActor_56) (xcons (s_bipush dX6_addActor_58 rfl) (xcons (s_icgt dX6_addActor_60 rfl) (xcons (s_iload dX6_addActor_63) (xcons (s_iconst dX6_addActor_65 rfl) (xcons (s_iclt dX6_addActor_66 rfl) (xcons (s_iload dX6_addActor_69) (xcons (s_bipush dX6_addActor_71 rfl) (xcons (s_icle dX6_addActor_73 rfl) (xcons (s_iconst dX6_addActor_76 rfl) (xcons (s_iret dX6_addActor_77 rfl) (xcons (s_iload_n rfl dX6_addActor_78) (xnil))))))))))))))))))))
theorem dX6_addActor_79 : decode cX6_addActor 79 = .ok (.iconst (-1), 1) := by decide +kernel
theorem dX6_addActor_80 : decode cX6_addActor 80 = .ok (.if_icmp .eq 14, 3) := by decide +kernel
theorem dX6_addActor_83 : decode cX6_addActor 83 = .ok (.aload_n 0, 1) := by decide +kernel
theorem dX6_addActor_84 : decode cX6_addActor 84 = .ok (.iload_n 1, 1) := by decide +kernel
theorem dX6_addActor_85 : decode cX6_addActor 85 = .ok (.invokevirtual 86, 3) := by decide +kernel
theorem dX6_addActor_88 : decode cX6_addActor 88 = .ok (.ifCond .ne 6, 3) := by decide +kernel
theorem dX6_addActor_91 : decode cX6_addActor 91 = .ok (.bipush (-5), 2) := by decide +kernel
theorem dX6_addActor_93 : decode cX6_addActor 93 = .ok (.ireturn, 1) := by decide +kernel
theorem dX6_addActor_94 : decode cX6_addActor 94 = .ok (.aload_n 0, 1) := by decide +kernel
theorem dX6_addActor_95 : decode cX6_addActor 95 = .ok (.getfield 44, 3) := by decide +kernel
theorem dX6_addActor_98 : decode cX6_addActor 98 = .ok (.ifCond .lt 12, 3) := by decide +kernel
theorem dX6_addActor_101 : decode cX6_addActor 101 = .ok (.aload_n 0, 1) := by decide +kernel
theorem dX6_addActor_102 : decode cX6_addActor 102 = .ok (.getfield 44, 3) := by decide +kernel
theorem dX6_addActor_105 : decode cX6_addActor 105 = .ok (.bipush 12, 2) := by decide +kernel
theorem dX6_addActor_107 : decode cX6_addActor 107 = .ok (.if_icmp .lt 6, 3) := by decide +kernel
theorem dX6_addActor_110 : decode cX6_addActor 110 = .ok (.bipush (-3), 2) := by decide +kernel
theorem dX6_addActor_112 : decode cX6_addActor 112 = .ok (.ireturn, 1) := by decide +kernel
theorem dX6_addActor_113 : decode cX6_addActor 113 = .ok (.aload_n 0, 1) := by decide +kernel
theorem dX6_addActor_114 : decode cX6_addActor 114 = .ok (.getfield 11, 3) := by decide +kernel
theorem dX6_addActor_117 : decode cX6_addActor 117 = .ok (.aload_n 0, 1) := by decide +kernel
def k40_2 : List (Nat × XI) := [(79, x_push (-1) 80), (80, x_iceq 94 83), (83, x_aload 0 84), (84, x_iload 1 85), (85, x_inv 54 6 1 88), (88, x_ifne 94 91), (91, x_push (-5) 93), (93, x_iret), (94, x_aload 0 95), (95, x_getI 6 4 98), (98, x_iflt 110 101), (101, x_aload 0 102), (102, x_getI 6 4 105), (105, x_push (12) 107), (107, x_iclt 113 110), (110, x_push (-3) 112), (112, x_iret), (113, x_aload 0 114), (114, x_getR 6 0 117), (117, x_aload 0 118)]
theorem o40_2 (scr : Nat × (Nat → Int32)) : ∀ q ∈ k40_2, XSnd xm scr Y40 q.1 q.2 := xcons (s_iconst dX6_addActor_79 rfl) (xcons (s_iceq dX6_addActor_80 rfl) (xcons (s_aload_n rfl dX6_addActor_83) (xcons (s_iload_n rfl dX6_addActor_84) (xcons (s_inv (mid := 54) xC6 cal_54 xw_134 xw_135 xw_136 dX6_addActor_85) (xcons (s_ifne dX6_addActor_88 rfl) (xcons (s_bipush dX6_addActor_91 rfl) (xcons (s_iret dX6_addActor_93 rfl) (xcons (s_aload_n rfl dX6_addActor_94) (xcons (s_getI (f := 4) xC6 (by decide) xw_127 rfl dX6_addActor_95) (xcons (s_iflt dX6_addActor_98 rfl) (xcons (s_aload_n rfl dX6_addActor_101) (xcons (s_getI (f := 4) xC6 (by decide) xw_127 rfl dX6_addActor_102) (xcons (s_bipush dX6_addActor_105 rfl) (xcons (s_iclt dX6_addActor_107 rfl) (xcons (s_bipush dX6_addActor_110 rfl) (xcons (s_iret dX6_addActor_112 rfl) (xcons (s_aload_n rfl dX6_addActor_113) (xcons (s_getR (f := 0) xC6 (by decide) xw_137 rfl dX6_addActor_114) (xcons (s_aload_n rfl dX6_addActor_117) (xnil))))))))))))))))))))
theorem dX6_addActor_118 : decode cX6_addActor 118 = .ok (.getfield 44, 3) := by decide +kernel
theorem dX6_addActor_121 : decode cX6_addActor 121 = .ok (.aaload, 1) := by decide +kernel
theorem dX6_addActor_122 : decode cX6_addActor 122 = .ok (.astore 7, 2) := by decide +kernel
theorem dX6_addActor_124 : decode cX6_addActor 124 = .ok (.aload 7, 2) := by decide +kernel
theorem dX6_addActor_126 : decode cX6_addActor 126 = .ok (.iload_n 1, 1) := by decide +kernel
theorem dX6_addActor_127 : decode cX6_addActor 127 = .ok (.iload_n 2, 1) := by decide +kernel
theorem dX6_addActor_128 : decode cX6_addActor 128 = .ok (.invokevirtual 89, 3) := by decide +kernel
theorem dX6_addActor_131 : decode cX6_addActor 131 = .ok (.aload 7, 2) := by decide +kernel
theorem dX6_addActor_133 : decode cX6_addActor 133 = .ok (.iload_n 3, 1) := by decide +kernel
theorem dX6_addActor_134 : decode cX6_addActor 134 = .ok (.putfield 93, 3) := by decide +kernel
theorem dX6_addActor_137 : decode cX6_addActor 137 = .ok (.aload 7, 2) := by decide +kernel
theorem dX6_addActor_139 : decode cX6_addActor 139 = .ok (.iload 4, 2) := by decide +kernel
theorem dX6_addActor_141 : decode cX6_addActor 141 = .ok (.putfield 96, 3) := by decide +kernel
theorem dX6_addActor_144 : decode cX6_addActor 144 = .ok (.aload 7, 2) := by decide +kernel
theorem dX6_addActor_146 : decode cX6_addActor 146 = .ok (.iload 5, 2) := by decide +kernel
theorem dX6_addActor_148 : decode cX6_addActor 148 = .ok (.putfield 99, 3) := by decide +kernel
theorem dX6_addActor_151 : decode cX6_addActor 151 = .ok (.aload_n 0, 1) := by decide +kernel
theorem dX6_addActor_152 : decode cX6_addActor 152 = .ok (.dup, 1) := by decide +kernel
theorem dX6_addActor_153 : decode cX6_addActor 153 = .ok (.getfield 44, 3) := by decide +kernel
theorem dX6_addActor_156 : decode cX6_addActor 156 = .ok (.iconst 1, 1) := by decide +kernel
def k40_3 : List (Nat × XI) := [(118, x_getI 6 4 121), (121, x_aald 122), (122, x_astore 7 124), (124, x_aload 7 126), (126, x_iload 1 127), (127, x_iload 2 128), (128, x_inv 0 0 2 131), (131, x_aload 7 133), (133, x_iload 3 134), (134, x_putI 0 2 137), (137, x_aload 7 139), (139, x_iload 4 141), (141, x_putI 0 3 144), (144, x_aload 7 146), (146, x_iload 5 148), (148, x_putI 0 4 151), (151, x_aload 0 152), (152, x_dup 153), (153, x_getI 6 4 156), (156, x_push (1) 157)]
theorem o40_3 (scr : Nat × (Nat → Int32)) : ∀ q ∈ k40_3, XSnd xm scr Y40 q.1 q.2 := xcons (s_getI (f := 4) xC6 (by decide) xw_127 rfl dX6_addActor_118) (xcons (s_aald dX6_addActor_121) (xcons (s_astore dX6_addActor_122 (by decide)) (xcons (s_aload dX6_addActor_124) (xcons (s_iload_n rfl dX6_addActor_126) (xcons (s_iload_n rfl dX6_addActor_127) (xcons (s_inv (mid := 0) xC0 cal_0 xw_139 xw_140 xw_141 dX6_addActor_128) (xcons (s_aload dX6_addActor_131) (xcons (s_iload_n rfl dX6_addActor_133) (xcons (s_putI (f := 2) xC0 (by decide) xw_142 rfl (Or.inl rfl) dX6_addActor_134) (xcons (s_aload dX6_addActor_137) (xcons (s_iload dX6_addActor_139) (xcons (s_putI (f := 3) xC0 (by decide) xw_143 rfl (Or.inl rfl) dX6_addActor_141) (xcons (s_aload dX6_addActor_144) (xcons (s_iload dX6_addActor_146) (xcons (s_putI (f := 4) xC0 (by decide) xw_144 rfl (Or.inl rfl) dX6_addActor_148) (xcons (s_aload_n rfl dX6_addActor_151) (xcons (s_dup dX6_addActor_152) (xcons (s_getI (f := 4) xC6 (by decide) xw_127 rfl dX6_addActor_153) (xcons (s_iconst dX6_addActor_156 rfl) (xnil))))))))))))))))))))
theorem dX6_addActor_157 : decode cX6_addActor 157 = .ok (.iadd, 1) := by decide +kernel
theorem dX6_addActor_158 : decode cX6_addActor 158 = .ok (.putfield 44, 3) := by decide +kernel
theorem dX6_addActor_161 : decode cX6_addActor 161 = .ok (.aload_n 0, 1) := by decide +kernel
theorem dX6_addActor_162 : decode cX6_addActor 162 = .ok (.getfield 44, 3) := by decide +kernel
theorem dX6_addActor_165 : decode cX6_addActor 165 = .ok (.iconst 1, 1) := by decide +kernel
theorem dX6_addActor_166 : decode cX6_addActor 166 = .ok (.isub, 1) := by decide +kernel
theorem dX6_addActor_167 : decode cX6_addActor 167 = .ok (.ireturn, 1) := by decide +kernel
def k40_4 : List (Nat × XI) := [(157, x_iadd 158), (158, x_putI 6 4 161), (161, x_aload 0 162), (162, x_getI 6 4 165), (165, x_push (1) 166), (166, x_isub 167), (167, x_iret)]
theorem o40_4 (scr : Nat × (Nat → Int32)) : ∀ q ∈ k40_4, XSnd xm scr Y40 q.1 q.2 := xcons (s_iadd dX6_addActor_157) (xcons (s_putI (f := 4) xC6 (by decide) xw_127 rfl (Or.inl rfl) dX6_addActor_158) (xcons (s_aload_n rfl dX6_addActor_161) (xcons (s_getI (f := 4) xC6 (by decide) xw_127 rfl dX6_addActor_162) (xcons (s_iconst dX6_addActor_165 rfl) (xcons (s_isub dX6_addActor_166) (xcons (s_iret dX6_addActor_167 rfl) (xnil)))))))
def k40 (pc : Nat) : XI := if pc < 79 then if pc < 39 then xlk k40_0 pc else xlk k40_1 pc else if pc < 118 then xlk k40_2 pc else if pc < 157 then xlk k40_3 pc else xlk k40_4 pc
theorem o40 (scr : Nat × (Nat → Int32)) (pc : Nat) : XSnd xm scr Y40 pc (k40 pc) := by
  unfold k40
  exact xite (xite (xlk_ok (o40_0 scr) pc) (xlk_ok (o40_1 scr) pc)) (xite (xlk_ok (o40_2 scr) pc) (xite (xlk_ok (o40_3 scr) pc) (xlk_ok (o40_4 scr) pc)))
theorem dX6_childBits_0 : decode cX6_childBits 0 = .ok (.iconst 0, 1) := by decide +kernel
theorem dX6_childBits_1 : decode cX6_childBits 1 = .ok (.istore_n 2, 1) := by decide +kernel
theorem dX6_childBits_2 : decode cX6_childBits 2 = .ok (.iconst 0, 1) := by decide +kernel
theorem dX6_childBits_3 : decode cX6_childBits 3 = .ok (.istore_n 3, 1) := by decide +kernel
theorem dX6_childBits_4 : decode cX6_childBits 4 = .ok (.iload_n 3, 1) := by decide +kernel
theorem dX6_childBits_5 : decode cX6_childBits 5 = .ok (.aload_n 0, 1) := by decide +kernel
theorem dX6_childBits_6 : decode cX6_childBits 6 = .ok (.getfield 44, 3) := by decide +kernel
theorem dX6_childBits_9 : decode cX6_childBits 9 = .ok (.if_icmp .ge 38, 3) := by decide +kernel
theorem dX6_childBits_12 : decode cX6_childBits 12 = .ok (.iload_n 3, 1) := by decide +kernel
theorem dX6_childBits_13 : decode cX6_childBits 13 = .ok (.bipush 12, 2) := by decide +kernel
theorem dX6_childBits_15 : decode cX6_childBits 15 = .ok (.if_icmp .ge 32, 3) := by decide +kernel
theorem dX6_childBits_18 : decode cX6_childBits 18 = .ok (.iload_n 2, 1) := by decide +kernel
theorem dX6_childBits_19 : decode cX6_childBits 19 = .ok (.aload_n 0, 1) := by decide +kernel
theorem dX6_childBits_20 : decode cX6_childBits 20 = .ok (.getfield 11, 3) := by decide +kernel
theorem dX6_childBits_23 : decode cX6_childBits 23 = .ok (.iload_n 3, 1) := by decide +kernel
theorem dX6_childBits_24 : decode cX6_childBits 24 = .ok (.aaload, 1) := by decide +kernel
theorem dX6_childBits_25 : decode cX6_childBits 25 = .ok (.getfield 73, 3) := by decide +kernel
theorem dX6_childBits_28 : decode cX6_childBits 28 = .ok (.iload_n 1, 1) := by decide +kernel
theorem dX6_childBits_29 : decode cX6_childBits 29 = .ok (.if_icmp .ne 9, 3) := by decide +kernel
theorem dX6_childBits_32 : decode cX6_childBits 32 = .ok (.iconst 1, 1) := by decide +kernel
def k41_0 : List (Nat × XI) := [(0, x_push (0) 1), (1, x_istore 2 2), (2, x_push (0) 3), (3, x_istore 3 4), (4, x_iload 3 5), (5, x_aload 0 6), (6, x_getI 6 4 9), (9, x_icge 47 12), (12, x_iload 3 13), (13, x_push (12) 15), (15, x_icge 47 18), (18, x_iload 2 19), (19, x_aload 0 20), (20, x_getR 6 0 23), (23, x_iload 3 24), (24, x_aald 25), (25, x_getI 0 0 28), (28, x_iload 1 29), (29, x_icne 38 32), (32, x_push (1) 33)]
theorem o41_0 (scr : Nat × (Nat → Int32)) : ∀ q ∈ k41_0, XSnd xm scr Y41 q.1 q.2 := xcons (s_iconst dX6_childBits_0 rfl) (xcons (s_istore_n rfl dX6_childBits_1 (by decide)) (xcons (s_iconst dX6_childBits_2 rfl) (xcons (s_istore_n rfl dX6_childBits_3 (by decide)) (xcons (s_iload_n rfl dX6_childBits_4) (xcons (s_aload_n rfl dX6_childBits_5) (xcons (s_getI (f := 4) xC6 (by decide) xw_127 rfl dX6_childBits_6) (xcons (s_icge dX6_childBits_9 rfl) (xcons (s_iload_n rfl dX6_childBits_12) (xcons (s_bipush dX6_childBits_13 rfl) (xcons (s_icge dX6_childBits_15 rfl) (xcons (s_iload_n rfl dX6_childBits_18) (xcons (s_aload_n rfl dX6_childBits_19) (xcons (s_getR (f := 0) xC6 (by decide) xw_137 rfl dX6_childBits_20) (xcons (s_iload_n rfl dX6_childBits_23) (xcons (s_aald dX6_childBits_24) (xcons (s_getI (f := 0) xC0 (by decide) xw_145 rfl dX6_childBits_25) (xcons (s_iload_n rfl dX6_childBits_28) (xcons (s_icne dX6_childBits_29 rfl) (xcons (s_iconst dX6_childBits_32 rfl) (xnil))))))))))))))))))))
theorem dX6_childBits_33 : decode cX6_childBits 33 = .ok (.iload_n 3, 1) := by decide +kernel
theorem dX6_childBits_34 : decode cX6_childBits 34 = .ok (.ishl, 1) := by decide +kernel
theorem dX6_childBits_35 : decode cX6_childBits 35 = .ok (.goto 4, 3) := by decide +kernel
theorem dX6_childBits_38 : decode cX6_childBits 38 = .ok (.iconst 0, 1) := by decide +kernel
theorem dX6_childBits_39 : decode cX6_childBits 39 = .ok (.ior, 1) := by decide +kernel
theorem dX6_childBits_40 : decode cX6_childBits 40 = .ok (.istore_n 2, 1) := by decide +kernel
theorem dX6_childBits_41 : decode cX6_childBits 41 = .ok (.iinc 3 1, 3) := by decide +kernel
theorem dX6_childBits_44 : decode cX6_childBits 44 = .ok (.goto (-40), 3) := by decide +kernel
theorem dX6_childBits_47 : decode cX6_childBits 47 = .ok (.iload_n 2, 1) := by decide +kernel
theorem dX6_childBits_48 : decode cX6_childBits 48 = .ok (.ireturn, 1) := by decide +kernel
def k41_1 : List (Nat × XI) := [(33, x_iload 3 34), (34, x_ishl 35), (35, x_goto 39), (38, x_push (0) 39), (39, x_ior 40), (40, x_istore 2 41), (41, x_iinc 3 (1) 44), (44, x_goto 4), (47, x_iload 2 48), (48, x_iret)]
theorem o41_1 (scr : Nat × (Nat → Int32)) : ∀ q ∈ k41_1, XSnd xm scr Y41 q.1 q.2 := xcons (s_iload_n rfl dX6_childBits_33) (xcons (s_ishl dX6_childBits_34) (xcons (s_goto dX6_childBits_35 rfl) (xcons (s_iconst dX6_childBits_38 rfl) (xcons (s_ior dX6_childBits_39) (xcons (s_istore_n rfl dX6_childBits_40 (by decide)) (xcons (s_iinc dX6_childBits_41 rfl (by decide)) (xcons (s_goto dX6_childBits_44 rfl) (xcons (s_iload_n rfl dX6_childBits_47) (xcons (s_iret dX6_childBits_48 rfl) (xnil))))))))))
def k41 (pc : Nat) : XI := if pc < 33 then xlk k41_0 pc else xlk k41_1 pc
theorem o41 (scr : Nat × (Nat → Int32)) (pc : Nat) : XSnd xm scr Y41 pc (k41 pc) := by
  unfold k41
  exact xite (xlk_ok (o41_0 scr) pc) (xlk_ok (o41_1 scr) pc)
theorem dX6_copyFrom_0 : decode cX6_copyFrom 0 = .ok (.aload_n 0, 1) := by decide +kernel
theorem dX6_copyFrom_1 : decode cX6_copyFrom 1 = .ok (.aload_n 1, 1) := by decide +kernel
theorem dX6_copyFrom_2 : decode cX6_copyFrom 2 = .ok (.getfield 44, 3) := by decide +kernel
theorem dX6_copyFrom_5 : decode cX6_copyFrom 5 = .ok (.putfield 44, 3) := by decide +kernel
theorem dX6_copyFrom_8 : decode cX6_copyFrom 8 = .ok (.iconst 0, 1) := by decide +kernel
theorem dX6_copyFrom_9 : decode cX6_copyFrom 9 = .ok (.istore_n 2, 1) := by decide +kernel
theorem dX6_copyFrom_10 : decode cX6_copyFrom 10 = .ok (.iload_n 2, 1) := by decide +kernel
theorem dX6_copyFrom_11 : decode cX6_copyFrom 11 = .ok (.aload_n 0, 1) := by decide +kernel
theorem dX6_copyFrom_12 : decode cX6_copyFrom 12 = .ok (.getfield 44, 3) := by decide +kernel
theorem dX6_copyFrom_15 : decode cX6_copyFrom 15 = .ok (.if_icmp .ge 30, 3) := by decide +kernel
theorem dX6_copyFrom_18 : decode cX6_copyFrom 18 = .ok (.iload_n 2, 1) := by decide +kernel
theorem dX6_copyFrom_19 : decode cX6_copyFrom 19 = .ok (.bipush 12, 2) := by decide +kernel
theorem dX6_copyFrom_21 : decode cX6_copyFrom 21 = .ok (.if_icmp .ge 24, 3) := by decide +kernel
theorem dX6_copyFrom_24 : decode cX6_copyFrom 24 = .ok (.aload_n 0, 1) := by decide +kernel
theorem dX6_copyFrom_25 : decode cX6_copyFrom 25 = .ok (.getfield 11, 3) := by decide +kernel
theorem dX6_copyFrom_28 : decode cX6_copyFrom 28 = .ok (.iload_n 2, 1) := by decide +kernel
theorem dX6_copyFrom_29 : decode cX6_copyFrom 29 = .ok (.aaload, 1) := by decide +kernel
theorem dX6_copyFrom_30 : decode cX6_copyFrom 30 = .ok (.aload_n 1, 1) := by decide +kernel
theorem dX6_copyFrom_31 : decode cX6_copyFrom 31 = .ok (.getfield 11, 3) := by decide +kernel
theorem dX6_copyFrom_34 : decode cX6_copyFrom 34 = .ok (.iload_n 2, 1) := by decide +kernel
def k42_0 : List (Nat × XI) := [(0, x_aload 0 1), (1, x_aload 1 2), (2, x_getI 6 4 5), (5, x_putI 6 4 8), (8, x_push (0) 9), (9, x_istore 2 10), (10, x_iload 2 11), (11, x_aload 0 12), (12, x_getI 6 4 15), (15, x_icge 45 18), (18, x_iload 2 19), (19, x_push (12) 21), (21, x_icge 45 24), (24, x_aload 0 25), (25, x_getR 6 0 28), (28, x_iload 2 29), (29, x_aald 30), (30, x_aload 1 31), (31, x_getR 6 0 34), (34, x_iload 2 35)]
theorem o42_0 (scr : Nat × (Nat → Int32)) : ∀ q ∈ k42_0, XSnd xm scr Y42 q.1 q.2 := xcons (s_aload_n rfl dX6_copyFrom_0) (xcons (s_aload_n rfl dX6_copyFrom_1) (xcons (s_getI (f := 4) xC6 (by decide) xw_127 rfl dX6_copyFrom_2) (xcons (s_putI (f := 4) xC6 (by decide) xw_127 rfl (Or.inl rfl) dX6_copyFrom_5) (xcons (s_iconst dX6_copyFrom_8 rfl) (xcons (s_istore_n rfl dX6_copyFrom_9 (by decide)) (xcons (s_iload_n rfl dX6_copyFrom_10) (xcons (s_aload_n rfl dX6_copyFrom_11) (xcons (s_getI (f := 4) xC6 (by decide) xw_127 rfl dX6_copyFrom_12) (xcons (s_icge dX6_copyFrom_15 rfl) (xcons (s_iload_n rfl dX6_copyFrom_18) (xcons (s_bipush dX6_copyFrom_19 rfl) (xcons (s_icge dX6_copyFrom_21 rfl) (xcons (s_aload_n rfl dX6_copyFrom_24) (xcons (s_getR (f := 0) xC6 (by decide) xw_137 rfl dX6_copyFrom_25) (xcons (s_iload_n rfl dX6_copyFrom_28) (xcons (s_aald dX6_copyFrom_29) (xcons (s_aload_n rfl dX6_copyFrom_30) (xcons (s_getR (f := 0) xC6 (by decide) xw_137 rfl dX6_copyFrom_31) (xcons (s_iload_n rfl dX6_copyFrom_34) (xnil))))))))))))))))))))
theorem dX6_copyFrom_35 : decode cX6_copyFrom 35 = .ok (.aaload, 1) := by decide +kernel
theorem dX6_copyFrom_36 : decode cX6_copyFrom 36 = .ok (.invokevirtual 47, 3) := by decide +kernel
theorem dX6_copyFrom_39 : decode cX6_copyFrom 39 = .ok (.iinc 2 1, 3) := by decide +kernel
theorem dX6_copyFrom_42 : decode cX6_copyFrom 42 = .ok (.goto (-32), 3) := by decide +kernel
theorem dX6_copyFrom_45 : decode cX6_copyFrom 45 = .ok (.aload_n 0, 1) := by decide +kernel
theorem dX6_copyFrom_46 : decode cX6_copyFrom 46 = .ok (.getfield 20, 3) := by decide +kernel
theorem dX6_copyFrom_49 : decode cX6_copyFrom 49 = .ok (.aload_n 1, 1) := by decide +kernel
theorem dX6_copyFrom_50 : decode cX6_copyFrom 50 = .ok (.getfield 20, 3) := by decide +kernel
theorem dX6_copyFrom_53 : decode cX6_copyFrom 53 = .ok (.invokevirtual 51, 3) := by decide +kernel
theorem dX6_copyFrom_56 : decode cX6_copyFrom 56 = .ok (.aload_n 0, 1) := by decide +kernel
theorem dX6_copyFrom_57 : decode cX6_copyFrom 57 = .ok (.getfield 29, 3) := by decide +kernel
theorem dX6_copyFrom_60 : decode cX6_copyFrom 60 = .ok (.aload_n 1, 1) := by decide +kernel
theorem dX6_copyFrom_61 : decode cX6_copyFrom 61 = .ok (.getfield 29, 3) := by decide +kernel
theorem dX6_copyFrom_64 : decode cX6_copyFrom 64 = .ok (.invokevirtual 54, 3) := by decide +kernel
theorem dX6_copyFrom_67 : decode cX6_copyFrom 67 = .ok (.aload_n 0, 1) := by decide +kernel
theorem dX6_copyFrom_68 : decode cX6_copyFrom 68 = .ok (.getfield 33, 3) := by decide +kernel
theorem dX6_copyFrom_71 : decode cX6_copyFrom 71 = .ok (.aload_n 1, 1) := by decide +kernel
theorem dX6_copyFrom_72 : decode cX6_copyFrom 72 = .ok (.getfield 33, 3) := by decide +kernel
theorem dX6_copyFrom_75 : decode cX6_copyFrom 75 = .ok (.invokevirtual 54, 3) := by decide +kernel
theorem dX6_copyFrom_78 : decode cX6_copyFrom 78 = .ok (.aload_n 0, 1) := by decide +kernel
def k42_1 : List (Nat × XI) := [(35, x_aald 36), (36, x_inv 1 0 1 39), (39, x_iinc 2 (1) 42), (42, x_goto 10), (45, x_aload 0 46), (46, x_getR 6 1 49), (49, x_aload 1 50), (50, x_getR 6 1 53), (53, x_inv 30 5 1 56), (56, x_aload 0 57), (57, x_getR 6 2 60), (60, x_aload 1 61), (61, x_getR 6 2 64), (64, x_inv 17 3 1 67), (67, x_aload 0 68), (68, x_getR 6 3 71), (71, x_aload 1 72), (72, x_getR 6 3 75), (75, x_inv 17 3 1 78), (78, x_aload 0 79)]
theorem o42_1 (scr : Nat × (Nat → Int32)) : ∀ q ∈ k42_1, XSnd xm scr Y42 q.1 q.2 := xcons (s_aald dX6_copyFrom_35) (xcons (s_inv (mid := 1) xC0 cal_1 xw_147 xw_148 xw_149 dX6_copyFrom_36) (xcons (s_iinc dX6_copyFrom_39 rfl (by decide)) (xcons (s_goto dX6_copyFrom_42 rfl) (xcons (s_aload_n rfl dX6_copyFrom_45) (xcons (s_getR (f := 1) xC6 (by decide) xw_150 rfl dX6_copyFrom_46) (xcons (s_aload_n rfl dX6_copyFrom_49) (xcons (s_getR (f := 1) xC6 (by decide) xw_150 rfl dX6_copyFrom_50) (xcons (s_inv (mid := 30) xC5 cal_30 xw_152 xw_153 xw_154 dX6_copyFrom_53) (xcons (s_aload_n rfl dX6_copyFrom_56) (xcons (s_getR (f := 2) xC6 (by decide) xw_155 rfl dX6_copyFrom_57) (xcons (s_aload_n rfl dX6_copyFrom_60) (xcons (s_getR (f := 2) xC6 (by decide) xw_155 rfl dX6_copyFrom_61) (xcons (s_inv (mid := 17) xC3 cal_17 xw_156 xw_26 xw_27 dX6_copyFrom_64) (xcons (s_aload_n rfl dX6_copyFrom_67) (xcons (s_getR (f := 3) xC6 (by decide) xw_157 rfl dX6_copyFrom_68) (xcons (s_aload_n rfl dX6_copyFrom_71) (xcons (s_getR (f := 3) xC6 (by decide) xw_157 rfl dX6_copyFrom_72) (xcons (s_inv (mid := 17) xC3 cal_17 xw_156 xw_26 xw_27 dX6_copyFrom_75) (xcons (s_aload_n rfl dX6_copyFrom_78) (xnil))))))))))))))))))))
theorem dX6_copyFrom_79 : decode cX6_copyFrom 79 = .ok (.aload_n 1, 1) := by decide +kernel
theorem dX6_copyFrom_80 : decode cX6_copyFrom 80 = .ok (.getfield 36, 3) := by decide +kernel
theorem dX6_copyFrom_83 : decode cX6_copyFrom 83 = .ok (.putfield 36, 3) := by decide +kernel
theorem dX6_copyFrom_86 : decode cX6_copyFrom 86 = .ok (.aload_n 0, 1) := by decide +kernel
theorem dX6_copyFrom_87 : decode cX6_copyFrom 87 = .ok (.aload_n 1, 1) := by decide +kernel
theorem dX6_copyFrom_88 : decode cX6_copyFrom 88 = .ok (.getfield 57, 3) := by decide +kernel
theorem dX6_copyFrom_91 : decode cX6_copyFrom 91 = .ok (.putfield 57, 3) := by decide +kernel
theorem dX6_copyFrom_94 : decode cX6_copyFrom 94 = .ok (.aload_n 0, 1) := by decide +kernel
theorem dX6_copyFrom_95 : decode cX6_copyFrom 95 = .ok (.aload_n 1, 1) := by decide +kernel
theorem dX6_copyFrom_96 : decode cX6_copyFrom 96 = .ok (.getfield 60, 3) := by decide +kernel
theorem dX6_copyFrom_99 : decode cX6_copyFrom 99 = .ok (.putfield 60, 3) := by decide +kernel
theorem dX6_copyFrom_102 : decode cX6_copyFrom 102 = .ok (.aload_n 0, 1) := by decide +kernel
theorem dX6_copyFrom_103 : decode cX6_copyFrom 103 = .ok (.aload_n 1, 1) := by decide +kernel
theorem dX6_copyFrom_104 : decode cX6_copyFrom 104 = .ok (.getfield 63, 3) := by decide +kernel
theorem dX6_copyFrom_107 : decode cX6_copyFrom 107 = .ok (.putfield 63, 3) := by decide +kernel
theorem dX6_copyFrom_110 : decode cX6_copyFrom 110 = .ok (.aload_n 0, 1) := by decide +kernel
theorem dX6_copyFrom_111 : decode cX6_copyFrom 111 = .ok (.aload_n 1, 1) := by decide +kernel
theorem dX6_copyFrom_112 : decode cX6_copyFrom 112 = .ok (.getfield 40, 3) := by decide +kernel
theorem dX6_copyFrom_115 : decode cX6_copyFrom 115 = .ok (.putfield 40, 3) := by decide +kernel
theorem dX6_copyFrom_118 : decode cX6_copyFrom 118 = .ok (.aload_n 0, 1) := by decide +kernel
def k42_2 : List (Nat × XI) := [(79, x_aload 1 80), (80, x_getI 6 5 83), (83, x_putI 6 5 86), (86, x_aload 0 87), (87, x_aload 1 88), (88, x_getI 6 6 91), (91, x_putI 6 6 94), (94, x_aload 0 95), (95, x_aload 1 96), (96, x_getI 6 7 99), (99, x_putI 6 7 102), (102, x_aload 0 103), (103, x_aload 1 104), (104, x_getI 6 8 107), (107, x_putI 6 8 110), (110, x_aload 0 111), (111, x_aload 1 112), (112, x_getI 6 9 115), (115, x_putI 6 9 118), (118, x_aload 0 119)]
theorem o42_2 (scr : Nat × (Nat → Int32)) : ∀ q ∈ k42_2, XSnd xm scr Y42 q.1 q.2 := xcons (s_aload_n rfl dX6_copyFrom_79) (xcons (s_getI (f := 5) xC6 (by decide) xw_158 rfl dX6_copyFrom_80) (xcons (s_putI (f := 5) xC6 (by decide) xw_158 rfl (Or.inl rfl) dX6_copyFrom_83) (xcons (s_aload_n rfl dX6_copyFrom_86) (xcons (s_aload_n rfl dX6_copyFrom_87) (xcons (s_getI (f := 6) xC6 (by decide) xw_159 rfl dX6_copyFrom_88) (xcons (s_putI (f := 6) xC6 (by decide) xw_159 rfl (Or.inl rfl) dX6_copyFrom_91) (xcons (s_aload_n rfl dX6_copyFrom_94) (xcons (s_aload_n rfl dX6_copyFrom_95) (xcons (s_getI (f := 7) xC6 (by decide) xw_160 rfl dX6_copyFrom_96) (xcons (s_putI (f := 7) xC6 (by decide) xw_160 rfl (Or.inl rfl) dX6_copyFrom_99) (xcons (s_aload_n rfl dX6_copyFrom_102) (xcons (s_aload_n rfl dX6_copyFrom_103) (xcons (s_getI (f := 8) xC6 (by decide) xw_161 rfl dX6_copyFrom_104) (xcons (s_putI (f := 8) xC6 (by decide) xw_161 rfl (Or.inl rfl) dX6_copyFrom_107) (xcons (s_aload_n rfl dX6_copyFrom_110) (xcons (s_aload_n rfl dX6_copyFrom_111) (xcons (s_getI (f := 9) xC6 (by decide) xw_162 rfl dX6_copyFrom_112) (xcons (s_putI (f := 9) xC6 (by decide) xw_162 rfl (Or.inl rfl) dX6_copyFrom_115) (xcons (s_aload_n rfl dX6_copyFrom_118) (xnil))))))))))))))))))))
theorem dX6_copyFrom_119 : decode cX6_copyFrom 119 = .ok (.aload_n 1, 1) := by decide +kernel
theorem dX6_copyFrom_120 : decode cX6_copyFrom 120 = .ok (.getfield 66, 3) := by decide +kernel
theorem dX6_copyFrom_123 : decode cX6_copyFrom 123 = .ok (.putfield 66, 3) := by decide +kernel
theorem dX6_copyFrom_126 : decode cX6_copyFrom 126 = .ok (.return_, 1) := by decide +kernel
def k42_3 : List (Nat × XI) := [(119, x_aload 1 120), (120, x_getI 6 10 123), (123, x_putI 6 10 126), (126, x_ret)]
theorem o42_3 (scr : Nat × (Nat → Int32)) : ∀ q ∈ k42_3, XSnd xm scr Y42 q.1 q.2 := xcons (s_aload_n rfl dX6_copyFrom_119) (xcons (s_getI (f := 10) xC6 (by decide) xw_163 rfl dX6_copyFrom_120) (xcons (s_putI (f := 10) xC6 (by decide) xw_163 rfl (Or.inl rfl) dX6_copyFrom_123) (xcons (s_ret dX6_copyFrom_126 rfl) (xnil))))
def k42 (pc : Nat) : XI := if pc < 79 then if pc < 35 then xlk k42_0 pc else xlk k42_1 pc else if pc < 119 then xlk k42_2 pc else xlk k42_3 pc
theorem o42 (scr : Nat × (Nat → Int32)) (pc : Nat) : XSnd xm scr Y42 pc (k42 pc) := by
  unfold k42
  exact xite (xite (xlk_ok (o42_0 scr) pc) (xlk_ok (o42_1 scr) pc)) (xite (xlk_ok (o42_2 scr) pc) (xlk_ok (o42_3 scr) pc))
theorem dX6_deal_0 : decode cX6_deal 0 = .ok (.aload_n 0, 1) := by decide +kernel
theorem dX6_deal_1 : decode cX6_deal 1 = .ok (.iload_n 1, 1) := by decide +kernel
theorem dX6_deal_2 : decode cX6_deal 2 = .ok (.invokevirtual 82, 3) := by decide +kernel
theorem dX6_deal_5 : decode cX6_deal 5 = .ok (.ifCond .ne 5, 3) := by decide +kernel
theorem dX6_deal_8 : decode cX6_deal 8 = .ok (.iconst 0, 1) := by decide +kernel
theorem dX6_deal_9 : decode cX6_deal 9 = .ok (.ireturn, 1) := by decide +kernel
theorem dX6_deal_10 : decode cX6_deal 10 = .ok (.aload_n 0, 1) := by decide +kernel
theorem dX6_deal_11 : decode cX6_deal 11 = .ok (.getfield 11, 3) := by decide +kernel
theorem dX6_deal_14 : decode cX6_deal 14 = .ok (.iload_n 1, 1) := by decide +kernel
theorem dX6_deal_15 : decode cX6_deal 15 = .ok (.aaload, 1) := by decide +kernel
theorem dX6_deal_16 : decode cX6_deal 16 = .ok (.astore 4, 2) := by decide +kernel
theorem dX6_deal_18 : decode cX6_deal 18 = .ok (.aload 4, 2) := by decide +kernel
theorem dX6_deal_20 : decode cX6_deal 20 = .ok (.getfield 158, 3) := by decide +kernel
theorem dX6_deal_23 : decode cX6_deal 23 = .ok (.aload 4, 2) := by decide +kernel
theorem dX6_deal_25 : decode cX6_deal 25 = .ok (.getfield 158, 3) := by decide +kernel
theorem dX6_deal_28 : decode cX6_deal 28 = .ok (.getfield 162, 3) := by decide +kernel
theorem dX6_deal_31 : decode cX6_deal 31 = .ok (.iconst 1, 1) := by decide +kernel
theorem dX6_deal_32 : decode cX6_deal 32 = .ok (.isub, 1) := by decide +kernel
theorem dX6_deal_33 : decode cX6_deal 33 = .ok (.invokevirtual 165, 3) := by decide +kernel
theorem dX6_deal_36 : decode cX6_deal 36 = .ok (.istore 5, 2) := by decide +kernel
def k43_0 : List (Nat × XI) := [(0, x_aload 0 1), (1, x_iload 1 2), (2, x_inv 53 6 1 5), (5, x_ifne 10 8), (8, x_push (0) 9), (9, x_iret), (10, x_aload 0 11), (11, x_getR 6 0 14), (14, x_iload 1 15), (15, x_aald 16), (16, x_astore 4 18), (18, x_aload 4 20), (20, x_getR 0 7 23), (23, x_aload 4 25), (25, x_getR 0 7 28), (28, x_getI 2 1 31), (31, x_push (1) 32), (32, x_isub 33), (33, x_inv 6 2 1 36), (36, x_istore 5 38)]
theorem o43_0 (scr : Nat × (Nat → Int32)) : ∀ q ∈ k43_0, XSnd xm scr Y43 q.1 q.2 := xcons (s_aload_n rfl dX6_deal_0) (xcons (s_iload_n rfl dX6_deal_1) (xcons (s_inv (mid := 53) xC6 cal_53 xw_130 xw_131 xw_132 dX6_deal_2) (xcons (s_ifne dX6_deal_5 rfl) (xcons (s_iconst dX6_deal_8 rfl) (xcons (s_iret dX6_deal_9 rfl) (xcons (s_aload_n rfl dX6_deal_10) (xcons (s_getR (f := 0) xC6 (by decide) xw_137 rfl dX6_deal_11) (xcons (s_iload_n rfl dX6_deal_14) (xcons (s_aald dX6_deal_15) (xcons (s_astore dX6_deal_16 (by decide)) (xcons (s_aload dX6_deal_18) (xcons (s_getR (f := 7) xC0 (by decide) xw_164 rfl dX6_deal_20) (xcons (s_aload dX6_deal_23) (xcons (s_getR (f := 7) xC0 (by decide) xw_164 rfl dX6_deal_25) (xcons (s_getI (f := 1) xC2 (by decide) xw_165 rfl dX6_deal_28) (xcons (s_iconst dX6_deal_31 rfl) (xcons (s_isub dX6_deal_32) (xcons (s_inv (mid := 6) xC2 cal_6 xw_166 xw_93 xw_94 dX6_deal_33) (xcons (s_istore dX6_deal_36 (by decide)) (xnil))))))))))))))))))))
theorem dX6_deal_38 : decode cX6_deal 38 = .ok (.iload_n 3, 1) := by decide +kernel
theorem dX6_deal_39 : decode cX6_deal 39 = .ok (.sipush 200, 3) := by decide +kernel
theorem dX6_deal_42 : decode cX6_deal 42 = .ok (.if_icmp .ge 30, 3) := by decide +kernel
theorem dX6_deal_45 : decode cX6_deal 45 = .ok (.iload 5, 2) := by decide +kernel
theorem dX6_deal_47 : decode cX6_deal 47 = .ok (.iconst 5, 1) := by decide +kernel
theorem dX6_deal_48 : decode cX6_deal 48 = .ok (.if_icmp .lt 14, 3) := by decide +kernel
theorem dX6_deal_51 : decode cX6_deal 51 = .ok (.aload_n 0, 1) := by decide +kernel
theorem dX6_deal_52 : decode cX6_deal 52 = .ok (.iload_n 1, 1) := by decide +kernel
theorem dX6_deal_53 : decode cX6_deal 53 = .ok (.iload 5, 2) := by decide +kernel
theorem dX6_deal_55 : decode cX6_deal 55 = .ok (.iload_n 3, 1) := by decide +kernel
theorem dX6_deal_56 : decode cX6_deal 56 = .ok (.invokevirtual 168, 3) := by decide +kernel
theorem dX6_deal_59 : decode cX6_deal 59 = .ok (.goto 12, 3) := by decide +kernel
theorem dX6_deal_62 : decode cX6_deal 62 = .ok (.aload_n 0, 1) := by decide +kernel
theorem dX6_deal_63 : decode cX6_deal 63 = .ok (.iload_n 1, 1) := by decide +kernel
theorem dX6_deal_64 : decode cX6_deal 64 = .ok (.iload 5, 2) := by decide +kernel
theorem dX6_deal_66 : decode cX6_deal 66 = .ok (.iload_n 2, 1) := by decide +kernel
theorem dX6_deal_67 : decode cX6_deal 67 = .ok (.iload_n 3, 1) := by decide +kernel
theorem dX6_deal_68 : decode cX6_deal 68 = .ok (.invokevirtual 171, 3) := by decide +kernel
theorem dX6_deal_71 : decode cX6_deal 71 = .ok (.ireturn, 1) := by decide +kernel
theorem dX6_deal_72 : decode cX6_deal 72 = .ok (.iload 5, 2) := by decide +kernel
def k43_1 : List (Nat × XI) := [(38, x_iload 3 39), (39, x_push (200) 42), (42, x_icge 72 45), (45, x_iload 5 47), (47, x_push (5) 48), (48, x_iclt 62 51), (51, x_aload 0 52), (52, x_iload 1 53), (53, x_iload 5 55), (55, x_iload 3 56), (56, x_inv 45 6 3 59), (59, x_goto 71), (62, x_aload 0 63), (63, x_iload 1 64), (64, x_iload 5 66), (66, x_iload 2 67), (67, x_iload 3 68), (68, x_inv 44 6 4 71), (71, x_iret), (72, x_iload 5 74)]
theorem o43_1 (scr : Nat × (Nat → Int32)) : ∀ q ∈ k43_1, XSnd xm scr Y43 q.1 q.2 := xcons (s_iload_n rfl dX6_deal_38) (xcons (s_sipush dX6_deal_39 rfl) (xcons (s_icge dX6_deal_42 rfl) (xcons (s_iload dX6_deal_45) (xcons (s_iconst dX6_deal_47 rfl) (xcons (s_iclt dX6_deal_48 rfl) (xcons (s_aload_n rfl dX6_deal_51) (xcons (s_iload_n rfl dX6_deal_52) (xcons (s_iload dX6_deal_53) (xcons (s_iload_n rfl dX6_deal_55) (xcons (s_inv (mid := 45) xC6 cal_45 xw_168 xw_169 xw_170 dX6_deal_56) (xcons (s_goto dX6_deal_59 rfl) (xcons (s_aload_n rfl dX6_deal_62) (xcons (s_iload_n rfl dX6_deal_63) (xcons (s_iload dX6_deal_64) (xcons (s_iload_n rfl dX6_deal_66) (xcons (s_iload_n rfl dX6_deal_67) (xcons (s_inv (mid := 44) xC6 cal_44 xw_172 xw_173 xw_174 dX6_deal_68) (xcons (s_iret dX6_deal_71 rfl) (xcons (s_iload dX6_deal_72) (xnil))))))))))))))))))))
theorem dX6_deal_74 : decode cX6_deal 74 = .ok (.iconst 5, 1) := by decide +kernel
theorem dX6_deal_75 : decode cX6_deal 75 = .ok (.if_icmp .ne 5, 3) := by decide +kernel
theorem dX6_deal_78 : decode cX6_deal 78 = .ok (.iconst 2, 1) := by decide +kernel
theorem dX6_deal_79 : decode cX6_deal 79 = .ok (.ireturn, 1) := by decide +kernel
theorem dX6_deal_80 : decode cX6_deal 80 = .ok (.aload 4, 2) := by decide +kernel
theorem dX6_deal_82 : decode cX6_deal 82 = .ok (.dup, 1) := by decide +kernel
theorem dX6_deal_83 : decode cX6_deal 83 = .ok (.getfield 175, 3) := by decide +kernel
theorem dX6_deal_86 : decode cX6_deal 86 = .ok (.bipush 100, 2) := by decide +kernel
theorem dX6_deal_88 : decode cX6_deal 88 = .ok (.iload_n 3, 1) := by decide +kernel
theorem dX6_deal_89 : decode cX6_deal 89 = .ok (.sipush 200, 3) := by decide +kernel
theorem dX6_deal_92 : decode cX6_deal 92 = .ok (.isub, 1) := by decide +kernel
theorem dX6_deal_93 : decode cX6_deal 93 = .ok (.iadd, 1) := by decide +kernel
theorem dX6_deal_94 : decode cX6_deal 94 = .ok (.iadd, 1) := by decide +kernel
theorem dX6_deal_95 : decode cX6_deal 95 = .ok (.putfield 175, 3) := by decide +kernel
theorem dX6_deal_98 : decode cX6_deal 98 = .ok (.iconst 0, 1) := by decide +kernel
theorem dX6_deal_99 : decode cX6_deal 99 = .ok (.ireturn, 1) := by decide +kernel
def k43_2 : List (Nat × XI) := [(74, x_push (5) 75), (75, x_icne 80 78), (78, x_push (2) 79), (79, x_iret), (80, x_aload 4 82), (82, x_dup 83), (83, x_getI 0 5 86), (86, x_push (100) 88), (88, x_iload 3 89), (89, x_push (200) 92), (92, x_isub 93), (93, x_iadd 94), (94, x_iadd 95), (95, x_putI 0 5 98), (98, x_push (0) 99), (99, x_iret)]
theorem o43_2 (scr : Nat × (Nat → Int32)) : ∀ q ∈ k43_2, XSnd xm scr Y43 q.1 q.2 := xcons (s_iconst dX6_deal_74 rfl) (xcons (s_icne dX6_deal_75 rfl) (xcons (s_iconst dX6_deal_78 rfl) (xcons (s_iret dX6_deal_79 rfl) (xcons (s_aload dX6_deal_80) (xcons (s_dup dX6_deal_82) (xcons (s_getI (f := 5) xC0 (by decide) xw_175 rfl dX6_deal_83) (xcons (s_bipush dX6_deal_86 rfl) (xcons (s_iload_n rfl dX6_deal_88) (xcons (s_sipush dX6_deal_89 rfl) (xcons (s_isub dX6_deal_92) (xcons (s_iadd dX6_deal_93) (xcons (s_iadd dX6_deal_94) (xcons (s_putI (f := 5) xC0 (by decide) xw_175 rfl (Or.inl rfl) dX6_deal_95) (xcons (s_iconst dX6_deal_98 rfl) (xcons (s_iret dX6_deal_99 rfl) (xnil))))))))))))))))
def k43 (pc : Nat) : XI := if pc < 38 then xlk k43_0 pc else if pc < 74 then xlk k43_1 pc else xlk k43_2 pc
theorem o43 (scr : Nat × (Nat → Int32)) (pc : Nat) : XSnd xm scr Y43 pc (k43 pc) := by
  unfold k43
  exact xite (xlk_ok (o43_0 scr) pc) (xite (xlk_ok (o43_1 scr) pc) (xlk_ok (o43_2 scr) pc))
theorem dX6_dealEarlier_0 : decode cX6_dealEarlier 0 = .ok (.aload_n 0, 1) := by decide +kernel
theorem dX6_dealEarlier_1 : decode cX6_dealEarlier 1 = .ok (.getfield 11, 3) := by decide +kernel
theorem dX6_dealEarlier_4 : decode cX6_dealEarlier 4 = .ok (.iload_n 1, 1) := by decide +kernel
theorem dX6_dealEarlier_5 : decode cX6_dealEarlier 5 = .ok (.aaload, 1) := by decide +kernel
theorem dX6_dealEarlier_6 : decode cX6_dealEarlier 6 = .ok (.astore 5, 2) := by decide +kernel
theorem dX6_dealEarlier_8 : decode cX6_dealEarlier 8 = .ok (.iload_n 2, 1) := by decide +kernel
theorem dX6_dealEarlier_9 : decode cX6_dealEarlier 9 = .ok (.tableswitch 179 0 4 #[35, 49, 59, 85, 120], 35) := by decide +kernel
theorem dX6_dealEarlier_44 : decode cX6_dealEarlier 44 = .ok (.aload 5, 2) := by decide +kernel
theorem dX6_dealEarlier_46 : decode cX6_dealEarlier 46 = .ok (.dup, 1) := by decide +kernel
theorem dX6_dealEarlier_47 : decode cX6_dealEarlier 47 = .ok (.getfield 175, 3) := by decide +kernel
theorem dX6_dealEarlier_50 : decode cX6_dealEarlier 50 = .ok (.iload 4, 2) := by decide +kernel
theorem dX6_dealEarlier_52 : decode cX6_dealEarlier 52 = .ok (.iadd, 1) := by decide +kernel
theorem dX6_dealEarlier_53 : decode cX6_dealEarlier 53 = .ok (.putfield 175, 3) := by decide +kernel
theorem dX6_dealEarlier_56 : decode cX6_dealEarlier 56 = .ok (.iconst 0, 1) := by decide +kernel
theorem dX6_dealEarlier_57 : decode cX6_dealEarlier 57 = .ok (.ireturn, 1) := by decide +kernel
theorem dX6_dealEarlier_58 : decode cX6_dealEarlier 58 = .ok (.aload_n 0, 1) := by decide +kernel
theorem dX6_dealEarlier_59 : decode cX6_dealEarlier 59 = .ok (.iload_n 1, 1) := by decide +kernel
theorem dX6_dealEarlier_60 : decode cX6_dealEarlier 60 = .ok (.iload 4, 2) := by decide +kernel
theorem dX6_dealEarlier_62 : decode cX6_dealEarlier 62 = .ok (.iconst 1, 1) := by decide +kernel
theorem dX6_dealEarlier_63 : decode cX6_dealEarlier 63 = .ok (.invokevirtual 178, 3) := by decide +kernel
def k44_0 : List (Nat × XI) := [(0, x_aload 0 1), (1, x_getR 6 0 4), (4, x_iload 1 5), (5, x_aald 6), (6, x_astore 5 8), (8, x_iload 2 9), (9, x_tsw (0) (4) [44, 58, 68, 94, 129] 188), (44, x_aload 5 46), (46, x_dup 47), (47, x_getI 0 5 50), (50, x_iload 4 52), (52, x_iadd 53), (53, x_putI 0 5 56), (56, x_push (0) 57), (57, x_iret), (58, x_aload 0 59), (59, x_iload 1 60), (60, x_iload 4 62), (62, x_push (1) 63), (63, x_inv 64 6 3 66)]
theorem o44_0 (scr : Nat × (Nat → Int32)) : ∀ q ∈ k44_0, XSnd xm scr Y44 q.1 q.2 := xcons (s_aload_n rfl dX6_dealEarlier_0) (xcons (s_getR (f := 0) xC6 (by decide) xw_137 rfl dX6_dealEarlier_1) (xcons (s_iload_n rfl dX6_dealEarlier_4) (xcons (s_aald dX6_dealEarlier_5) (xcons (s_astore dX6_dealEarlier_6 (by decide)) (xcons (s_iload_n rfl dX6_dealEarlier_8) (xcons (s_tsw dX6_dealEarlier_9 rfl rfl) (xcons (s_aload dX6_dealEarlier_44) (xcons (s_dup dX6_dealEarlier_46) (xcons (s_getI (f := 5) xC0 (by decide) xw_175 rfl dX6_dealEarlier_47) (xcons (s_iload dX6_dealEarlier_50) (xcons (s_iadd dX6_dealEarlier_52) (xcons (s_putI (f := 5) xC0 (by decide) xw_175 rfl (Or.inl rfl) dX6_dealEarlier_53) (xcons (s_iconst dX6_dealEarlier_56 rfl) (xcons (s_iret dX6_dealEarlier_57 rfl) (xcons (s_aload_n rfl dX6_dealEarlier_58) (xcons (s_iload_n rfl dX6_dealEarlier_59) (xcons (s_iload dX6_dealEarlier_60) (xcons (s_iconst dX6_dealEarlier_62 rfl) (xcons (s_inv (mid := 64) xC6 cal_64 xw_177 xw_178 xw_179 dX6_dealEarlier_63) (xnil))))))))))))))))))))
theorem dX6_dealEarlier_66 : decode cX6_dealEarlier 66 = .ok (.iconst 0, 1) := by decide +kernel
theorem dX6_dealEarlier_67 : decode cX6_dealEarlier 67 = .ok (.ireturn, 1) := by decide +kernel
theorem dX6_dealEarlier_68 : decode cX6_dealEarlier 68 = .ok (.iload 4, 2) := by decide +kernel
theorem dX6_dealEarlier_70 : decode cX6_dealEarlier 70 = .ok (.ifCond .le 22, 3) := by decide +kernel
theorem dX6_dealEarlier_73 : decode cX6_dealEarlier 73 = .ok (.aload_n 0, 1) := by decide +kernel
theorem dX6_dealEarlier_74 : decode cX6_dealEarlier 74 = .ok (.iload_n 3, 1) := by decide +kernel
theorem dX6_dealEarlier_75 : decode cX6_dealEarlier 75 = .ok (.invokevirtual 82, 3) := by decide +kernel
theorem dX6_dealEarlier_78 : decode cX6_dealEarlier 78 = .ok (.ifCond .eq 14, 3) := by decide +kernel
theorem dX6_dealEarlier_81 : decode cX6_dealEarlier 81 = .ok (.aload_n 0, 1) := by decide +kernel
theorem dX6_dealEarlier_82 : decode cX6_dealEarlier 82 = .ok (.iload_n 3, 1) := by decide +kernel
theorem dX6_dealEarlier_83 : decode cX6_dealEarlier 83 = .ok (.iload_n 1, 1) := by decide +kernel
theorem dX6_dealEarlier_84 : decode cX6_dealEarlier 84 = .ok (.iload 4, 2) := by decide +kernel
theorem dX6_dealEarlier_86 : decode cX6_dealEarlier 86 = .ok (.iconst 1, 1) := by decide +kernel
theorem dX6_dealEarlier_87 : decode cX6_dealEarlier 87 = .ok (.isub, 1) := by decide +kernel
theorem dX6_dealEarlier_88 : decode cX6_dealEarlier 88 = .ok (.invokevirtual 154, 3) := by decide +kernel
theorem dX6_dealEarlier_91 : decode cX6_dealEarlier 91 = .ok (.pop, 1) := by decide +kernel
theorem dX6_dealEarlier_92 : decode cX6_dealEarlier 92 = .ok (.iconst 0, 1) := by decide +kernel
theorem dX6_dealEarlier_93 : decode cX6_dealEarlier 93 = .ok (.ireturn, 1) := by decide +kernel
theorem dX6_dealEarlier_94 : decode cX6_dealEarlier 94 = .ok (.iload 4, 2) := by decide +kernel
theorem dX6_dealEarlier_96 : decode cX6_dealEarlier 96 = .ok (.iconst 2, 1) := by decide +kernel
def k44_1 : List (Nat × XI) := [(66, x_push (0) 67), (67, x_iret), (68, x_iload 4 70), (70, x_ifle 92 73), (73, x_aload 0 74), (74, x_iload 3 75), (75, x_inv 53 6 1 78), (78, x_ifeq 92 81), (81, x_aload 0 82), (82, x_iload 3 83), (83, x_iload 1 84), (84, x_iload 4 86), (86, x_push (1) 87), (87, x_isub 88), (88, x_inv 63 6 3 91), (91, x_pop 92), (92, x_push (0) 93), (93, x_iret), (94, x_iload 4 96), (96, x_push (2) 97)]
theorem o44_1 (scr : Nat × (Nat → Int32)) : ∀ q ∈ k44_1, XSnd xm scr Y44 q.1 q.2 := xcons (s_iconst dX6_dealEarlier_66 rfl) (xcons (s_iret dX6_dealEarlier_67 rfl) (xcons (s_iload dX6_dealEarlier_68) (xcons (s_ifle dX6_dealEarlier_70 rfl) (xcons (s_aload_n rfl dX6_dealEarlier_73) (xcons (s_iload_n rfl dX6_dealEarlier_74) (xcons (s_inv (mid := 53) xC6 cal_53 xw_130 xw_131 xw_132 dX6_dealEarlier_75) (xcons (s_ifeq dX6_dealEarlier_78 rfl) (xcons (s_aload_n rfl dX6_dealEarlier_81) (xcons (s_iload_n rfl dX6_dealEarlier_82) (xcons (s_iload_n rfl dX6_dealEarlier_83) (xcons (s_iload dX6_dealEarlier_84) (xcons (s_iconst dX6_dealEarlier_86 rfl) (xcons (s_isub dX6_dealEarlier_87) (xcons (s_inv (mid := 63) xC6 cal_63 xw_181 xw_182 xw_183 dX6_dealEarlier_88) (xcons (s_pop dX6_dealEarlier_91) (xcons (s_iconst dX6_dealEarlier_92 rfl) (xcons (s_iret dX6_dealEarlier_93 rfl) (xcons (s_iload dX6_dealEarlier_94) (xcons (s_iconst dX6_dealEarlier_96 rfl) (xnil))))))))))))))))))))
theorem dX6_dealEarlier_97 : decode cX6_dealEarlier 97 = .ok (.irem, 1) := by decide +kernel
theorem dX6_dealEarlier_98 : decode cX6_dealEarlier 98 = .ok (.ifCond .eq 23, 3) := by decide +kernel
theorem dX6_dealEarlier_101 : decode cX6_dealEarlier 101 = .ok (.aload 5, 2) := by decide +kernel
theorem dX6_dealEarlier_103 : decode cX6_dealEarlier 103 = .ok (.getfield 182, 3) := by decide +kernel
theorem dX6_dealEarlier_106 : decode cX6_dealEarlier 106 = .ok (.iload_n 3, 1) := by decide +kernel
theorem dX6_dealEarlier_107 : decode cX6_dealEarlier 107 = .ok (.iload 4, 2) := by decide +kernel
theorem dX6_dealEarlier_109 : decode cX6_dealEarlier 109 = .ok (.invokevirtual 102, 3) := by decide +kernel
theorem dX6_dealEarlier_112 : decode cX6_dealEarlier 112 = .ok (.ifCond .eq 7, 3) := by decide +kernel
theorem dX6_dealEarlier_115 : decode cX6_dealEarlier 115 = .ok (.iconst 0, 1) := by decide +kernel
theorem dX6_dealEarlier_116 : decode cX6_dealEarlier 116 = .ok (.goto 4, 3) := by decide +kernel
theorem dX6_dealEarlier_119 : decode cX6_dealEarlier 119 = .ok (.iconst 3, 1) := by decide +kernel
theorem dX6_dealEarlier_120 : decode cX6_dealEarlier 120 = .ok (.ireturn, 1) := by decide +kernel
theorem dX6_dealEarlier_121 : decode cX6_dealEarlier 121 = .ok (.aload_n 0, 1) := by decide +kernel
theorem dX6_dealEarlier_122 : decode cX6_dealEarlier 122 = .ok (.aload 5, 2) := by decide +kernel
theorem dX6_dealEarlier_124 : decode cX6_dealEarlier 124 = .ok (.invokevirtual 185, 3) := by decide +kernel
theorem dX6_dealEarlier_127 : decode cX6_dealEarlier 127 = .ok (.iconst 0, 1) := by decide +kernel
theorem dX6_dealEarlier_128 : decode cX6_dealEarlier 128 = .ok (.ireturn, 1) := by decide +kernel
theorem dX6_dealEarlier_129 : decode cX6_dealEarlier 129 = .ok (.iload 4, 2) := by decide +kernel
theorem dX6_dealEarlier_131 : decode cX6_dealEarlier 131 = .ok (.ifCond .lt 25, 3) := by decide +kernel
theorem dX6_dealEarlier_134 : decode cX6_dealEarlier 134 = .ok (.aload 5, 2) := by decide +kernel
def k44_2 : List (Nat × XI) := [(97, x_irem 98), (98, x_ifeq 121 101), (101, x_aload 5 103), (103, x_getR 0 9 106), (106, x_iload 3 107), (107, x_iload 4 109), (109, x_inv 15 3 2 112), (112, x_ifeq 119 115), (115, x_push (0) 116), (116, x_goto 120), (119, x_push (3) 120), (120, x_iret), (121, x_aload 0 122), (122, x_aload 5 124), (124, x_inv 66 6 1 127), (127, x_push (0) 128), (128, x_iret), (129, x_iload 4 131), (131, x_iflt 156 134), (134, x_aload 5 136)]
theorem o44_2 (scr : Nat × (Nat → Int32)) : ∀ q ∈ k44_2, XSnd xm scr Y44 q.1 q.2 := xcons (s_irem dX6_dealEarlier_97) (xcons (s_ifeq dX6_dealEarlier_98 rfl) (xcons (s_aload dX6_dealEarlier_101) (xcons (s_getR (f := 9) xC0 (by decide) xw_184 rfl dX6_dealEarlier_103) (xcons (s_iload_n rfl dX6_dealEarlier_106) (xcons (s_iload dX6_dealEarlier_107) (xcons (s_inv (mid := 15) xC3 cal_15 xw_185 xw_74 xw_75 dX6_dealEarlier_109) (xcons (s_ifeq dX6_dealEarlier_112 rfl) (xcons (s_iconst dX6_dealEarlier_115 rfl) (xcons (s_goto dX6_dealEarlier_116 rfl) (xcons (s_iconst dX6_dealEarlier_119 rfl) (xcons (s_iret dX6_dealEarlier_120 rfl) (xcons (s_aload_n rfl dX6_dealEarlier_121) (xcons (s_aload dX6_dealEarlier_122) (xcons (s_inv (mid := 66) xC6 cal_66 xw_187 xw_188 xw_189 dX6_dealEarlier_124) (xcons (s_iconst dX6_dealEarlier_127 rfl) (xcons (s_iret dX6_dealEarlier_128 rfl) (xcons (s_iload dX6_dealEarlier_129) (xcons (s_iflt dX6_dealEarlier_131 rfl) (xcons (s_aload dX6_dealEarlier_134) (xnil))))))))))))))))))))
theorem dX6_dealEarlier_136 : decode cX6_dealEarlier 136 = .ok (.getfield 158, 3) := by decide +kernel
theorem dX6_dealEarlier_139 : decode cX6_dealEarlier 139 = .ok (.iload 4, 2) := by decide +kernel
theorem dX6_dealEarlier_141 : decode cX6_dealEarlier 141 = .ok (.bipush 10, 2) := by decide +kernel
theorem dX6_dealEarlier_143 : decode cX6_dealEarlier 143 = .ok (.irem, 1) := by decide +kernel
theorem dX6_dealEarlier_144 : decode cX6_dealEarlier 144 = .ok (.invokevirtual 188, 3) := by decide +kernel
theorem dX6_dealEarlier_147 : decode cX6_dealEarlier 147 = .ok (.ifCond .eq 7, 3) := by decide +kernel
theorem dX6_dealEarlier_150 : decode cX6_dealEarlier 150 = .ok (.iconst 0, 1) := by decide +kernel
theorem dX6_dealEarlier_151 : decode cX6_dealEarlier 151 = .ok (.goto 4, 3) := by decide +kernel
theorem dX6_dealEarlier_154 : decode cX6_dealEarlier 154 = .ok (.iconst 4, 1) := by decide +kernel
theorem dX6_dealEarlier_155 : decode cX6_dealEarlier 155 = .ok (.ireturn, 1) := by decide +kernel
theorem dX6_dealEarlier_156 : decode cX6_dealEarlier 156 = .ok (.aload 5, 2) := by decide +kernel
theorem dX6_dealEarlier_158 : decode cX6_dealEarlier 158 = .ok (.getfield 158, 3) := by decide +kernel
theorem dX6_dealEarlier_161 : decode cX6_dealEarlier 161 = .ok (.dup, 1) := by decide +kernel
theorem dX6_dealEarlier_162 : decode cX6_dealEarlier 162 = .ok (.getfield 162, 3) := by decide +kernel
theorem dX6_dealEarlier_165 : decode cX6_dealEarlier 165 = .ok (.aload 5, 2) := by decide +kernel
theorem dX6_dealEarlier_167 : decode cX6_dealEarlier 167 = .ok (.getfield 158, 3) := by decide +kernel
theorem dX6_dealEarlier_170 : decode cX6_dealEarlier 170 = .ok (.getfield 162, 3) := by decide +kernel
theorem dX6_dealEarlier_173 : decode cX6_dealEarlier 173 = .ok (.iconst 1, 1) := by decide +kernel
theorem dX6_dealEarlier_174 : decode cX6_dealEarlier 174 = .ok (.if_icmp .le 7, 3) := by decide +kernel
theorem dX6_dealEarlier_177 : decode cX6_dealEarlier 177 = .ok (.iconst 1, 1) := by decide +kernel
def k44_3 : List (Nat × XI) := [(136, x_getR 0 7 139), (139, x_iload 4 141), (141, x_push (10) 143), (143, x_irem 144), (144, x_inv 5 2 1 147), (147, x_ifeq 154 150), (150, x_push (0) 151), (151, x_goto 155), (154, x_push (4) 155), (155, x_iret), (156, x_aload 5 158), (158, x_getR 0 7 161), (161, x_dup 162), (162, x_getI 2 1 165), (165, x_aload 5 167), (167, x_getR 0 7 170), (170, x_getI 2 1 173), (173, x_push (1) 174), (174, x_icle 181 177), (177, x_push (1) 178)]
theorem o44_3 (scr : Nat × (Nat → Int32)) : ∀ q ∈ k44_3, XSnd xm scr Y44 q.1 q.2 := xcons (s_getR (f := 7) xC0 (by decide) xw_164 rfl dX6_dealEarlier_136) (xcons (s_iload dX6_dealEarlier_139) (xcons (s_bipush dX6_dealEarlier_141 rfl) (xcons (s_irem dX6_dealEarlier_143) (xcons (s_inv (mid := 5) xC2 cal_5 xw_190 xw_44 xw_45 dX6_dealEarlier_144) (xcons (s_ifeq dX6_dealEarlier_147 rfl) (xcons (s_iconst dX6_dealEarlier_150 rfl) (xcons (s_goto dX6_dealEarlier_151 rfl) (xcons (s_iconst dX6_dealEarlier_154 rfl) (xcons (s_iret dX6_dealEarlier_155 rfl) (xcons (s_aload dX6_dealEarlier_156) (xcons (s_getR (f := 7) xC0 (by decide) xw_164 rfl dX6_dealEarlier_158) (xcons (s_dup dX6_dealEarlier_161) (xcons (s_getI (f := 1) xC2 (by decide) xw_165 rfl dX6_dealEarlier_162) (xcons (s_aload dX6_dealEarlier_165) (xcons (s_getR (f := 7) xC0 (by decide) xw_164 rfl dX6_dealEarlier_167) (xcons (s_getI (f := 1) xC2 (by decide) xw_165 rfl dX6_dealEarlier_170) (xcons (s_iconst dX6_dealEarlier_173 rfl) (xcons (s_icle dX6_dealEarlier_174 rfl) (xcons (s_iconst dX6_dealEarlier_177 rfl) (xnil))))))))))))))))))))
theorem dX6_dealEarlier_178 : decode cX6_dealEarlier 178 = .ok (.goto 4, 3) := by decide +kernel
theorem dX6_dealEarlier_181 : decode cX6_dealEarlier 181 = .ok (.iconst 0, 1) := by decide +kernel
theorem dX6_dealEarlier_182 : decode cX6_dealEarlier 182 = .ok (.isub, 1) := by decide +kernel
theorem dX6_dealEarlier_183 : decode cX6_dealEarlier 183 = .ok (.putfield 162, 3) := by decide +kernel
theorem dX6_dealEarlier_186 : decode cX6_dealEarlier 186 = .ok (.iconst 0, 1) := by decide +kernel
theorem dX6_dealEarlier_187 : decode cX6_dealEarlier 187 = .ok (.ireturn, 1) := by decide +kernel
theorem dX6_dealEarlier_188 : decode cX6_dealEarlier 188 = .ok (.iconst 0, 1) := by decide +kernel
theorem dX6_dealEarlier_189 : decode cX6_dealEarlier 189 = .ok (.ireturn, 1) := by decide +kernel
def k44_4 : List (Nat × XI) := [(178, x_goto 182), (181, x_push (0) 182), (182, x_isub 183), (183, x_putI 2 1 186), (186, x_push (0) 187), (187, x_iret), (188, x_push (0) 189), (189, x_iret)]
theorem o44_4 (scr : Nat × (Nat → Int32)) : ∀ q ∈ k44_4, XSnd xm scr Y44 q.1 q.2 := xcons (s_goto dX6_dealEarlier_178 rfl) (xcons (s_iconst dX6_dealEarlier_181 rfl) (xcons (s_isub dX6_dealEarlier_182) (xcons (s_putI (f := 1) xC2 (by decide) xw_165 rfl (Or.inl rfl) dX6_dealEarlier_183) (xcons (s_iconst dX6_dealEarlier_186 rfl) (xcons (s_iret dX6_dealEarlier_187 rfl) (xcons (s_iconst dX6_dealEarlier_188 rfl) (xcons (s_iret dX6_dealEarlier_189 rfl) (xnil))))))))
def k44 (pc : Nat) : XI := if pc < 97 then if pc < 66 then xlk k44_0 pc else xlk k44_1 pc else if pc < 136 then xlk k44_2 pc else if pc < 178 then xlk k44_3 pc else xlk k44_4 pc
theorem o44 (scr : Nat × (Nat → Int32)) (pc : Nat) : XSnd xm scr Y44 pc (k44 pc) := by
  unfold k44
  exact xite (xite (xlk_ok (o44_0 scr) pc) (xlk_ok (o44_1 scr) pc)) (xite (xlk_ok (o44_2 scr) pc) (xite (xlk_ok (o44_3 scr) pc) (xlk_ok (o44_4 scr) pc)))
theorem dX6_dealLater_0 : decode cX6_dealLater 0 = .ok (.aload_n 0, 1) := by decide +kernel
theorem dX6_dealLater_1 : decode cX6_dealLater 1 = .ok (.getfield 11, 3) := by decide +kernel
theorem dX6_dealLater_4 : decode cX6_dealLater 4 = .ok (.iload_n 1, 1) := by decide +kernel
theorem dX6_dealLater_5 : decode cX6_dealLater 5 = .ok (.aaload, 1) := by decide +kernel
theorem dX6_dealLater_6 : decode cX6_dealLater 6 = .ok (.astore 4, 2) := by decide +kernel
theorem dX6_dealLater_8 : decode cX6_dealLater 8 = .ok (.iload_n 2, 1) := by decide +kernel
theorem dX6_dealLater_9 : decode cX6_dealLater 9 = .ok (.tableswitch 119 5 9 #[35, 54, 82, 92, 111], 35) := by decide +kernel
theorem dX6_dealLater_44 : decode cX6_dealLater 44 = .ok (.iload_n 3, 1) := by decide +kernel
theorem dX6_dealLater_45 : decode cX6_dealLater 45 = .ok (.aload 4, 2) := by decide +kernel
theorem dX6_dealLater_47 : decode cX6_dealLater 47 = .ok (.getfield 175, 3) := by decide +kernel
theorem dX6_dealLater_50 : decode cX6_dealLater 50 = .ok (.if_icmp .ge 5, 3) := by decide +kernel
theorem dX6_dealLater_53 : decode cX6_dealLater 53 = .ok (.iconst 1, 1) := by decide +kernel
theorem dX6_dealLater_54 : decode cX6_dealLater 54 = .ok (.ireturn, 1) := by decide +kernel
theorem dX6_dealLater_55 : decode cX6_dealLater 55 = .ok (.aload 4, 2) := by decide +kernel
theorem dX6_dealLater_57 : decode cX6_dealLater 57 = .ok (.iload_n 3, 1) := by decide +kernel
theorem dX6_dealLater_58 : decode cX6_dealLater 58 = .ok (.putfield 175, 3) := by decide +kernel
theorem dX6_dealLater_61 : decode cX6_dealLater 61 = .ok (.iconst 0, 1) := by decide +kernel
theorem dX6_dealLater_62 : decode cX6_dealLater 62 = .ok (.ireturn, 1) := by decide +kernel
theorem dX6_dealLater_63 : decode cX6_dealLater 63 = .ok (.iload_n 3, 1) := by decide +kernel
theorem dX6_dealLater_64 : decode cX6_dealLater 64 = .ok (.ifCond .le 25, 3) := by decide +kernel
def k45_0 : List (Nat × XI) := [(0, x_aload 0 1), (1, x_getR 6 0 4), (4, x_iload 1 5), (5, x_aald 6), (6, x_astore 4 8), (8, x_iload 2 9), (9, x_tsw (5) (9) [44, 63, 91, 101, 120] 128), (44, x_iload 3 45), (45, x_aload 4 47), (47, x_getI 0 5 50), (50, x_icge 55 53), (53, x_push (1) 54), (54, x_iret), (55, x_aload 4 57), (57, x_iload 3 58), (58, x_putI 0 5 61), (61, x_push (0) 62), (62, x_iret), (63, x_iload 3 64), (64, x_ifle 89 67)]
theorem o45_0 (scr : Nat × (Nat → Int32)) : ∀ q ∈ k45_0, XSnd xm scr Y45 q.1 q.2 := xcons (s_aload_n rfl dX6_dealLater_0) (xcons (s_getR (f := 0) xC6 (by decide) xw_137 rfl dX6_dealLater_1) (xcons (s_iload_n rfl dX6_dealLater_4) (xcons (s_aald dX6_dealLater_5) (xcons (s_astore dX6_dealLater_6 (by decide)) (xcons (s_iload_n rfl dX6_dealLater_8) (xcons (s_tsw dX6_dealLater_9 rfl rfl) (xcons (s_iload_n rfl dX6_dealLater_44) (xcons (s_aload dX6_dealLater_45) (xcons (s_getI (f := 5) xC0 (by decide) xw_175 rfl dX6_dealLater_47) (xcons (s_icge dX6_dealLater_50 rfl) (xcons (s_iconst dX6_dealLater_53 rfl) (xcons (s_iret dX6_dealLater_54 rfl) (xcons (s_aload dX6_dealLater_55) (xcons (s_iload_n rfl dX6_dealLater_57) (xcons (s_putI (f := 5) xC0 (by decide) xw_175 rfl (Or.inl rfl) dX6_dealLater_58) (xcons (s_iconst dX6_dealLater_61 rfl) (xcons (s_iret dX6_dealLater_62 rfl) (xcons (s_iload_n rfl dX6_dealLater_63) (xcons (s_ifle dX6_dealLater_64 rfl) (xnil))))))))))))))))))))
theorem dX6_dealLater_67 : decode cX6_dealLater 67 = .ok (.aload_n 0, 1) := by decide +kernel
theorem dX6_dealLater_68 : decode cX6_dealLater 68 = .ok (.getfield 20, 3) := by decide +kernel
theorem dX6_dealLater_71 : decode cX6_dealLater 71 = .ok (.iload_n 1, 1) := by decide +kernel
theorem dX6_dealLater_72 : decode cX6_dealLater 72 = .ok (.aload_n 0, 1) := by decide +kernel
theorem dX6_dealLater_73 : decode cX6_dealLater 73 = .ok (.getfield 57, 3) := by decide +kernel
theorem dX6_dealLater_76 : decode cX6_dealLater 76 = .ok (.iconst 1, 1) := by decide +kernel
theorem dX6_dealLater_77 : decode cX6_dealLater 77 = .ok (.iadd, 1) := by decide +kernel
theorem dX6_dealLater_78 : decode cX6_dealLater 78 = .ok (.iload_n 3, 1) := by decide +kernel
theorem dX6_dealLater_79 : decode cX6_dealLater 79 = .ok (.bipush 8, 2) := by decide +kernel
theorem dX6_dealLater_81 : decode cX6_dealLater 81 = .ok (.irem, 1) := by decide +kernel
theorem dX6_dealLater_82 : decode cX6_dealLater 82 = .ok (.iadd, 1) := by decide +kernel
theorem dX6_dealLater_83 : decode cX6_dealLater 83 = .ok (.iload_n 3, 1) := by decide +kernel
theorem dX6_dealLater_84 : decode cX6_dealLater 84 = .ok (.iconst 1, 1) := by decide +kernel
theorem dX6_dealLater_85 : decode cX6_dealLater 85 = .ok (.isub, 1) := by decide +kernel
theorem dX6_dealLater_86 : decode cX6_dealLater 86 = .ok (.invokevirtual 190, 3) := by decide +kernel
theorem dX6_dealLater_89 : decode cX6_dealLater 89 = .ok (.iconst 0, 1) := by decide +kernel
theorem dX6_dealLater_90 : decode cX6_dealLater 90 = .ok (.ireturn, 1) := by decide +kernel
theorem dX6_dealLater_91 : decode cX6_dealLater 91 = .ok (.aload_n 0, 1) := by decide +kernel
theorem dX6_dealLater_92 : decode cX6_dealLater 92 = .ok (.iload_n 1, 1) := by decide +kernel
theorem dX6_dealLater_93 : decode cX6_dealLater 93 = .ok (.iload_n 3, 1) := by decide +kernel
def k45_1 : List (Nat × XI) := [(67, x_aload 0 68), (68, x_getR 6 1 71), (71, x_iload 1 72), (72, x_aload 0 73), (73, x_getI 6 6 76), (76, x_push (1) 77), (77, x_iadd 78), (78, x_iload 3 79), (79, x_push (8) 81), (81, x_irem 82), (82, x_iadd 83), (83, x_iload 3 84), (84, x_push (1) 85), (85, x_isub 86), (86, x_inv 39 5 3 89), (89, x_push (0) 90), (90, x_iret), (91, x_aload 0 92), (92, x_iload 1 93), (93, x_iload 3 94)]
theorem o45_1 (scr : Nat × (Nat → Int32)) : ∀ q ∈ k45_1, XSnd xm scr Y45 q.1 q.2 := xcons (s_aload_n rfl dX6_dealLater_67) (xcons (s_getR (f := 1) xC6 (by decide) xw_150 rfl dX6_dealLater_68) (xcons (s_iload_n rfl dX6_dealLater_71) (xcons (s_aload_n rfl dX6_dealLater_72) (xcons (s_getI (f := 6) xC6 (by decide) xw_159 rfl dX6_dealLater_73) (xcons (s_iconst dX6_dealLater_76 rfl) (xcons (s_iadd dX6_dealLater_77) (xcons (s_iload_n rfl dX6_dealLater_78) (xcons (s_bipush dX6_dealLater_79 rfl) (xcons (s_irem dX6_dealLater_81) (xcons (s_iadd dX6_dealLater_82) (xcons (s_iload_n rfl dX6_dealLater_83) (xcons (s_iconst dX6_dealLater_84 rfl) (xcons (s_isub dX6_dealLater_85) (xcons (s_inv (mid := 39) xC5 cal_39 xw_192 xw_193 xw_194 dX6_dealLater_86) (xcons (s_iconst dX6_dealLater_89 rfl) (xcons (s_iret dX6_dealLater_90 rfl) (xcons (s_aload_n rfl dX6_dealLater_91) (xcons (s_iload_n rfl dX6_dealLater_92) (xcons (s_iload_n rfl dX6_dealLater_93) (xnil))))))))))))))))))))
theorem dX6_dealLater_94 : decode cX6_dealLater 94 = .ok (.bipush 12, 2) := by decide +kernel
theorem dX6_dealLater_96 : decode cX6_dealLater 96 = .ok (.invokevirtual 178, 3) := by decide +kernel
theorem dX6_dealLater_99 : decode cX6_dealLater 99 = .ok (.iconst 0, 1) := by decide +kernel
theorem dX6_dealLater_100 : decode cX6_dealLater 100 = .ok (.ireturn, 1) := by decide +kernel
theorem dX6_dealLater_101 : decode cX6_dealLater 101 = .ok (.aload_n 0, 1) := by decide +kernel
theorem dX6_dealLater_102 : decode cX6_dealLater 102 = .ok (.iload_n 1, 1) := by decide +kernel
theorem dX6_dealLater_103 : decode cX6_dealLater 103 = .ok (.iload_n 3, 1) := by decide +kernel
theorem dX6_dealLater_104 : decode cX6_dealLater 104 = .ok (.ifCond .ge 10, 3) := by decide +kernel
theorem dX6_dealLater_107 : decode cX6_dealLater 107 = .ok (.iload_n 3, 1) := by decide +kernel
theorem dX6_dealLater_108 : decode cX6_dealLater 108 = .ok (.bipush 99, 2) := by decide +kernel
theorem dX6_dealLater_110 : decode cX6_dealLater 110 = .ok (.iadd, 1) := by decide +kernel
theorem dX6_dealLater_111 : decode cX6_dealLater 111 = .ok (.goto 4, 3) := by decide +kernel
theorem dX6_dealLater_114 : decode cX6_dealLater 114 = .ok (.iload_n 3, 1) := by decide +kernel
theorem dX6_dealLater_115 : decode cX6_dealLater 115 = .ok (.invokevirtual 193, 3) := by decide +kernel
theorem dX6_dealLater_118 : decode cX6_dealLater 118 = .ok (.iconst 0, 1) := by decide +kernel
theorem dX6_dealLater_119 : decode cX6_dealLater 119 = .ok (.ireturn, 1) := by decide +kernel
theorem dX6_dealLater_120 : decode cX6_dealLater 120 = .ok (.aload_n 0, 1) := by decide +kernel
theorem dX6_dealLater_121 : decode cX6_dealLater 121 = .ok (.iload_n 1, 1) := by decide +kernel
theorem dX6_dealLater_122 : decode cX6_dealLater 122 = .ok (.invokevirtual 196, 3) := by decide +kernel
theorem dX6_dealLater_125 : decode cX6_dealLater 125 = .ok (.pop, 1) := by decide +kernel
def k45_2 : List (Nat × XI) := [(94, x_push (12) 96), (96, x_inv 64 6 3 99), (99, x_push (0) 100), (100, x_iret), (101, x_aload 0 102), (102, x_iload 1 103), (103, x_iload 3 104), (104, x_ifge 114 107), (107, x_iload 3 108), (108, x_push (99) 110), (110, x_iadd 111), (111, x_goto 115), (114, x_iload 3 115), (115, x_inv 67 6 2 118), (118, x_push (0) 119), (119, x_iret), (120, x_aload 0 121), (121, x_iload 1 122), (122, x_inv 49 6 1 125), (125, x_pop 126)]
theorem o45_2 (scr : Nat × (Nat → Int32)) : ∀ q ∈ k45_2, XSnd xm scr Y45 q.1 q.2 := xcons (s_bipush dX6_dealLater_94 rfl) (xcons (s_inv (mid := 64) xC6 cal_64 xw_177 xw_178 xw_179 dX6_dealLater_96) (xcons (s_iconst dX6_dealLater_99 rfl) (xcons (s_iret dX6_dealLater_100 rfl) (xcons (s_aload_n rfl dX6_dealLater_101) (xcons (s_iload_n rfl dX6_dealLater_102) (xcons (s_iload_n rfl dX6_dealLater_103) (xcons (s_ifge dX6_dealLater_104 rfl) (xcons (s_iload_n rfl dX6_dealLater_107) (xcons (s_bipush dX6_dealLater_108 rfl) (xcons (s_iadd dX6_dealLater_110) (xcons (s_goto dX6_dealLater_111 rfl) (xcons (s_iload_n rfl dX6_dealLater_114) (xcons (s_inv (mid := 67) xC6 cal_67 xw_196 xw_197 xw_198 dX6_dealLater_115) (xcons (s_iconst dX6_dealLater_118 rfl) (xcons (s_iret dX6_dealLater_119 rfl) (xcons (s_aload_n rfl dX6_dealLater_120) (xcons (s_iload_n rfl dX6_dealLater_121) (xcons (s_inv (mid := 49) xC6 cal_49 xw_200 xw_201 xw_202 dX6_dealLater_122) (xcons (s_pop dX6_dealLater_125) (xnil))))))))))))))))))))
theorem dX6_dealLater_126 : decode cX6_dealLater 126 = .ok (.iconst 0, 1) := by decide +kernel
theorem dX6_dealLater_127 : decode cX6_dealLater 127 = .ok (.ireturn, 1) := by decide +kernel
theorem dX6_dealLater_128 : decode cX6_dealLater 128 = .ok (.iconst 0, 1) := by decide +kernel
theorem dX6_dealLater_129 : decode cX6_dealLater 129 = .ok (.ireturn, 1) := by decide +kernel
def k45_3 : List (Nat × XI) := [(126, x_push (0) 127), (127, x_iret), (128, x_push (0) 129), (129, x_iret)]
theorem o45_3 (scr : Nat × (Nat → Int32)) : ∀ q ∈ k45_3, XSnd xm scr Y45 q.1 q.2 := xcons (s_iconst dX6_dealLater_126 rfl) (xcons (s_iret dX6_dealLater_127 rfl) (xcons (s_iconst dX6_dealLater_128 rfl) (xcons (s_iret dX6_dealLater_129 rfl) (xnil))))
def k45 (pc : Nat) : XI := if pc < 94 then if pc < 67 then xlk k45_0 pc else xlk k45_1 pc else if pc < 126 then xlk k45_2 pc else xlk k45_3 pc
theorem o45 (scr : Nat × (Nat → Int32)) (pc : Nat) : XSnd xm scr Y45 pc (k45 pc) := by
  unfold k45
  exact xite (xite (xlk_ok (o45_0 scr) pc) (xlk_ok (o45_1 scr) pc)) (xite (xlk_ok (o45_2 scr) pc) (xlk_ok (o45_3 scr) pc))
theorem dX6_fail_0 : decode cX6_fail 0 = .ok (.aload_n 0, 1) := by decide +kernel
theorem dX6_fail_1 : decode cX6_fail 1 = .ok (.iconst 1, 1) := by decide +kernel
theorem dX6_fail_2 : decode cX6_fail 2 = .ok (.putfield 212, 3) := by decide +kernel
theorem dX6_fail_5 : decode cX6_fail 5 = .ok (.aload_n 0, 1) := by decide +kernel
theorem dX6_fail_6 : decode cX6_fail 6 = .ok (.getfield 33, 3) := by decide +kernel
theorem dX6_fail_9 : decode cX6_fail 9 = .ok (.iconst 0, 1) := by decide +kernel
theorem dX6_fail_10 : decode cX6_fail 10 = .ok (.putfield 79, 3) := by decide +kernel
theorem dX6_fail_13 : decode cX6_fail 13 = .ok (.aload_n 0, 1) := by decide +kernel
theorem dX6_fail_14 : decode cX6_fail 14 = .ok (.getfield 33, 3) := by decide +kernel
theorem dX6_fail_17 : decode cX6_fail 17 = .ok (.iload_n 1, 1) := by decide +kernel
theorem dX6_fail_18 : decode cX6_fail 18 = .ok (.iload_n 2, 1) := by decide +kernel
theorem dX6_fail_19 : decode cX6_fail 19 = .ok (.invokevirtual 102, 3) := by decide +kernel
theorem dX6_fail_22 : decode cX6_fail 22 = .ok (.pop, 1) := by decide +kernel
theorem dX6_fail_23 : decode cX6_fail 23 = .ok (.iload_n 1, 1) := by decide +kernel
theorem dX6_fail_24 : decode cX6_fail 24 = .ok (.istore_n 3, 1) := by decide +kernel
theorem dX6_fail_25 : decode cX6_fail 25 = .ok (.iconst 0, 1) := by decide +kernel
theorem dX6_fail_26 : decode cX6_fail 26 = .ok (.istore 4, 2) := by decide +kernel
theorem dX6_fail_28 : decode cX6_fail 28 = .ok (.iload 4, 2) := by decide +kernel
theorem dX6_fail_30 : decode cX6_fail 30 = .ok (.bipush 12, 2) := by decide +kernel
theorem dX6_fail_32 : decode cX6_fail 32 = .ok (.if_icmp .ge 38, 3) := by decide +kernel
def k46_0 : List (Nat × XI) := [(0, x_aload 0 1), (1, x_push (1) 2), (2, x_putZ 6 11 5), (5, x_aload 0 6), (6, x_getR 6 3 9), (9, x_push (0) 10), (10, x_putI 3 2 13), (13, x_aload 0 14), (14, x_getR 6 3 17), (17, x_iload 1 18), (18, x_iload 2 19), (19, x_inv 15 3 2 22), (22, x_pop 23), (23, x_iload 1 24), (24, x_istore 3 25), (25, x_push (0) 26), (26, x_istore 4 28), (28, x_iload 4 30), (30, x_push (12) 32), (32, x_icge 70 35)]
theorem o46_0 (scr : Nat × (Nat → Int32)) : ∀ q ∈ k46_0, XSnd xm scr Y46 q.1 q.2 := xcons (s_aload_n rfl dX6_fail_0) (xcons (s_iconst dX6_fail_1 rfl) (xcons (s_putZ (f := 11) xC6 (by decide) xw_203 rfl (Or.inl rfl) dX6_fail_2) (xcons (s_aload_n rfl dX6_fail_5) (xcons (s_getR (f := 3) xC6 (by decide) xw_157 rfl dX6_fail_6) (xcons (s_iconst dX6_fail_9 rfl) (xcons (s_putI (f := 2) xC3 (by decide) xw_204 rfl (Or.inl rfl) dX6_fail_10) (xcons (s_aload_n rfl dX6_fail_13) (xcons (s_getR (f := 3) xC6 (by decide) xw_157 rfl dX6_fail_14) (xcons (s_iload_n rfl dX6_fail_17) (xcons (s_iload_n rfl dX6_fail_18) (xcons (s_inv (mid := 15) xC3 cal_15 xw_185 xw_74 xw_75 dX6_fail_19) (xcons (s_pop dX6_fail_22) (xcons (s_iload_n rfl dX6_fail_23) (xcons (s_istore_n rfl dX6_fail_24 (by decide)) (xcons (s_iconst dX6_fail_25 rfl) (xcons (s_istore dX6_fail_26 (by decide)) (xcons (s_iload dX6_fail_28) (xcons (s_bipush dX6_fail_30 rfl) (xcons (s_icge dX6_fail_32 rfl) (xnil))))))))))))))))))))
theorem dX6_fail_35 : decode cX6_fail 35 = .ok (.aload_n 0, 1) := by decide +kernel
theorem dX6_fail_36 : decode cX6_fail 36 = .ok (.iload_n 3, 1) := by decide +kernel
theorem dX6_fail_37 : decode cX6_fail 37 = .ok (.invokevirtual 215, 3) := by decide +kernel
theorem dX6_fail_40 : decode cX6_fail 40 = .ok (.ifCond .eq 30, 3) := by decide +kernel
theorem dX6_fail_43 : decode cX6_fail 43 = .ok (.aload_n 0, 1) := by decide +kernel
theorem dX6_fail_44 : decode cX6_fail 44 = .ok (.getfield 11, 3) := by decide +kernel
theorem dX6_fail_47 : decode cX6_fail 47 = .ok (.iload_n 3, 1) := by decide +kernel
theorem dX6_fail_48 : decode cX6_fail 48 = .ok (.aaload, 1) := by decide +kernel
theorem dX6_fail_49 : decode cX6_fail 49 = .ok (.getfield 73, 3) := by decide +kernel
theorem dX6_fail_52 : decode cX6_fail 52 = .ok (.istore_n 3, 1) := by decide +kernel
theorem dX6_fail_53 : decode cX6_fail 53 = .ok (.aload_n 0, 1) := by decide +kernel
theorem dX6_fail_54 : decode cX6_fail 54 = .ok (.getfield 33, 3) := by decide +kernel
theorem dX6_fail_57 : decode cX6_fail 57 = .ok (.iload_n 3, 1) := by decide +kernel
theorem dX6_fail_58 : decode cX6_fail 58 = .ok (.bipush 9, 2) := by decide +kernel
theorem dX6_fail_60 : decode cX6_fail 60 = .ok (.invokevirtual 102, 3) := by decide +kernel
theorem dX6_fail_63 : decode cX6_fail 63 = .ok (.pop, 1) := by decide +kernel
theorem dX6_fail_64 : decode cX6_fail 64 = .ok (.iinc 4 1, 3) := by decide +kernel
theorem dX6_fail_67 : decode cX6_fail 67 = .ok (.goto (-39), 3) := by decide +kernel
theorem dX6_fail_70 : decode cX6_fail 70 = .ok (.iload_n 3, 1) := by decide +kernel
theorem dX6_fail_71 : decode cX6_fail 71 = .ok (.ifCond .ne 10, 3) := by decide +kernel
def k46_1 : List (Nat × XI) := [(35, x_aload 0 36), (36, x_iload 3 37), (37, x_inv 56 6 1 40), (40, x_ifeq 70 43), (43, x_aload 0 44), (44, x_getR 6 0 47), (47, x_iload 3 48), (48, x_aald 49), (49, x_getI 0 0 52), (52, x_istore 3 53), (53, x_aload 0 54), (54, x_getR 6 3 57), (57, x_iload 3 58), (58, x_push (9) 60), (60, x_inv 15 3 2 63), (63, x_pop 64), (64, x_iinc 4 (1) 67), (67, x_goto 28), (70, x_iload 3 71), (71, x_ifne 81 74)]
theorem o46_1 (scr : Nat × (Nat → Int32)) : ∀ q ∈ k46_1, XSnd xm scr Y46 q.1 q.2 := xcons (s_aload_n rfl dX6_fail_35) (xcons (s_iload_n rfl dX6_fail_36) (xcons (s_inv (mid := 56) xC6 cal_56 xw_206 xw_207 xw_208 dX6_fail_37) (xcons (s_ifeq dX6_fail_40 rfl) (xcons (s_aload_n rfl dX6_fail_43) (xcons (s_getR (f := 0) xC6 (by decide) xw_137 rfl dX6_fail_44) (xcons (s_iload_n rfl dX6_fail_47) (xcons (s_aald dX6_fail_48) (xcons (s_getI (f := 0) xC0 (by decide) xw_145 rfl dX6_fail_49) (xcons (s_istore_n rfl dX6_fail_52 (by decide)) (xcons (s_aload_n rfl dX6_fail_53) (xcons (s_getR (f := 3) xC6 (by decide) xw_157 rfl dX6_fail_54) (xcons (s_iload_n rfl dX6_fail_57) (xcons (s_bipush dX6_fail_58 rfl) (xcons (s_inv (mid := 15) xC3 cal_15 xw_185 xw_74 xw_75 dX6_fail_60) (xcons (s_pop dX6_fail_63) (xcons (s_iinc dX6_fail_64 rfl (by decide)) (xcons (s_goto dX6_fail_67 rfl) (xcons (s_iload_n rfl dX6_fail_70) (xcons (s_ifne dX6_fail_71 rfl) (xnil))))))))))))))))))))
theorem dX6_fail_74 : decode cX6_fail 74 = .ok (.aload_n 0, 1) := by decide +kernel
theorem dX6_fail_75 : decode cX6_fail 75 = .ok (.iconst 0, 1) := by decide +kernel
theorem dX6_fail_76 : decode cX6_fail 76 = .ok (.invokevirtual 196, 3) := by decide +kernel
theorem dX6_fail_79 : decode cX6_fail 79 = .ok (.pop, 1) := by decide +kernel
theorem dX6_fail_80 : decode cX6_fail 80 = .ok (.return_, 1) := by decide +kernel
theorem dX6_fail_81 : decode cX6_fail 81 = .ok (.iconst 0, 1) := by decide +kernel
theorem dX6_fail_82 : decode cX6_fail 82 = .ok (.istore 4, 2) := by decide +kernel
theorem dX6_fail_84 : decode cX6_fail 84 = .ok (.iload 4, 2) := by decide +kernel
theorem dX6_fail_86 : decode cX6_fail 86 = .ok (.aload_n 0, 1) := by decide +kernel
theorem dX6_fail_87 : decode cX6_fail 87 = .ok (.getfield 44, 3) := by decide +kernel
theorem dX6_fail_90 : decode cX6_fail 90 = .ok (.if_icmp .ge 25, 3) := by decide +kernel
theorem dX6_fail_93 : decode cX6_fail 93 = .ok (.aload_n 0, 1) := by decide +kernel
theorem dX6_fail_94 : decode cX6_fail 94 = .ok (.iload 4, 2) := by decide +kernel
theorem dX6_fail_96 : decode cX6_fail 96 = .ok (.iload_n 3, 1) := by decide +kernel
theorem dX6_fail_97 : decode cX6_fail 97 = .ok (.invokevirtual 218, 3) := by decide +kernel
theorem dX6_fail_100 : decode cX6_fail 100 = .ok (.ifCond .eq 9, 3) := by decide +kernel
theorem dX6_fail_103 : decode cX6_fail 103 = .ok (.aload_n 0, 1) := by decide +kernel
theorem dX6_fail_104 : decode cX6_fail 104 = .ok (.iload 4, 2) := by decide +kernel
theorem dX6_fail_106 : decode cX6_fail 106 = .ok (.invokevirtual 221, 3) := by decide +kernel
theorem dX6_fail_109 : decode cX6_fail 109 = .ok (.iinc 4 1, 3) := by decide +kernel
def k46_2 : List (Nat × XI) := [(74, x_aload 0 75), (75, x_push (0) 76), (76, x_inv 49 6 1 79), (79, x_pop 80), (80, x_ret), (81, x_push (0) 82), (82, x_istore 4 84), (84, x_iload 4 86), (86, x_aload 0 87), (87, x_getI 6 4 90), (90, x_icge 115 93), (93, x_aload 0 94), (94, x_iload 4 96), (96, x_iload 3 97), (97, x_inv 57 6 2 100), (100, x_ifeq 109 103), (103, x_aload 0 104), (104, x_iload 4 106), (106, x_inv 62 6 1 109), (109, x_iinc 4 (1) 112)]
theorem o46_2 (scr : Nat × (Nat → Int32)) : ∀ q ∈ k46_2, XSnd xm scr Y46 q.1 q.2 := xcons (s_aload_n rfl dX6_fail_74) (xcons (s_iconst dX6_fail_75 rfl) (xcons (s_inv (mid := 49) xC6 cal_49 xw_200 xw_201 xw_202 dX6_fail_76) (xcons (s_pop dX6_fail_79) (xcons (s_ret dX6_fail_80 rfl) (xcons (s_iconst dX6_fail_81 rfl) (xcons (s_istore dX6_fail_82 (by decide)) (xcons (s_iload dX6_fail_84) (xcons (s_aload_n rfl dX6_fail_86) (xcons (s_getI (f := 4) xC6 (by decide) xw_127 rfl dX6_fail_87) (xcons (s_icge dX6_fail_90 rfl) (xcons (s_aload_n rfl dX6_fail_93) (xcons (s_iload dX6_fail_94) (xcons (s_iload_n rfl dX6_fail_96) (xcons (s_inv (mid := 57) xC6 cal_57 xw_210 xw_211 xw_212 dX6_fail_97) (xcons (s_ifeq dX6_fail_100 rfl) (xcons (s_aload_n rfl dX6_fail_103) (xcons (s_iload dX6_fail_104) (xcons (s_inv (mid := 62) xC6 cal_62 xw_214 xw_215 xw_216 dX6_fail_106) (xcons (s_iinc dX6_fail_109 rfl (by decide)) (xnil))))))))))))))))))))
theorem dX6_fail_112 : decode cX6_fail 112 = .ok (.goto (-28), 3) := by decide +kernel
theorem dX6_fail_115 : decode cX6_fail 115 = .ok (.return_, 1) := by decide +kernel
def k46_3 : List (Nat × XI) := [(112, x_goto 84), (115, x_ret)]
theorem o46_3 (scr : Nat × (Nat → Int32)) : ∀ q ∈ k46_3, XSnd xm scr Y46 q.1 q.2 := xcons (s_goto dX6_fail_112 rfl) (xcons (s_ret dX6_fail_115 rfl) (xnil))
def k46 (pc : Nat) : XI := if pc < 74 then if pc < 35 then xlk k46_0 pc else xlk k46_1 pc else if pc < 112 then xlk k46_2 pc else xlk k46_3 pc
theorem o46 (scr : Nat × (Nat → Int32)) (pc : Nat) : XSnd xm scr Y46 pc (k46 pc) := by
  unfold k46
  exact xite (xite (xlk_ok (o46_0 scr) pc) (xlk_ok (o46_1 scr) pc)) (xite (xlk_ok (o46_2 scr) pc) (xlk_ok (o46_3 scr) pc))
theorem dX6_fireTimer_0 : decode cX6_fireTimer 0 = .ok (.aload_n 0, 1) := by decide +kernel
theorem dX6_fireTimer_1 : decode cX6_fireTimer 1 = .ok (.getfield 20, 3) := by decide +kernel
theorem dX6_fireTimer_4 : decode cX6_fireTimer 4 = .ok (.getfield 117, 3) := by decide +kernel
theorem dX6_fireTimer_7 : decode cX6_fireTimer 7 = .ok (.ifCond .ne 5, 3) := by decide +kernel
theorem dX6_fireTimer_10 : decode cX6_fireTimer 10 = .ok (.iconst 0, 1) := by decide +kernel
theorem dX6_fireTimer_11 : decode cX6_fireTimer 11 = .ok (.ireturn, 1) := by decide +kernel
theorem dX6_fireTimer_12 : decode cX6_fireTimer 12 = .ok (.aload_n 0, 1) := by decide +kernel
theorem dX6_fireTimer_13 : decode cX6_fireTimer 13 = .ok (.getfield 20, 3) := by decide +kernel
theorem dX6_fireTimer_16 : decode cX6_fireTimer 16 = .ok (.iconst 0, 1) := by decide +kernel
theorem dX6_fireTimer_17 : decode cX6_fireTimer 17 = .ok (.invokevirtual 144, 3) := by decide +kernel
theorem dX6_fireTimer_20 : decode cX6_fireTimer 20 = .ok (.istore_n 1, 1) := by decide +kernel
theorem dX6_fireTimer_21 : decode cX6_fireTimer 21 = .ok (.aload_n 0, 1) := by decide +kernel
theorem dX6_fireTimer_22 : decode cX6_fireTimer 22 = .ok (.getfield 20, 3) := by decide +kernel
theorem dX6_fireTimer_25 : decode cX6_fireTimer 25 = .ok (.iconst 0, 1) := by decide +kernel
theorem dX6_fireTimer_26 : decode cX6_fireTimer 26 = .ok (.invokevirtual 147, 3) := by decide +kernel
theorem dX6_fireTimer_29 : decode cX6_fireTimer 29 = .ok (.istore_n 2, 1) := by decide +kernel
theorem dX6_fireTimer_30 : decode cX6_fireTimer 30 = .ok (.aload_n 0, 1) := by decide +kernel
theorem dX6_fireTimer_31 : decode cX6_fireTimer 31 = .ok (.aload_n 0, 1) := by decide +kernel
theorem dX6_fireTimer_32 : decode cX6_fireTimer 32 = .ok (.getfield 20, 3) := by decide +kernel
theorem dX6_fireTimer_35 : decode cX6_fireTimer 35 = .ok (.iconst 0, 1) := by decide +kernel
def k47_0 : List (Nat × XI) := [(0, x_aload 0 1), (1, x_getR 6 1 4), (4, x_getI 5 3 7), (7, x_ifne 12 10), (10, x_push (0) 11), (11, x_zret), (12, x_aload 0 13), (13, x_getR 6 1 16), (16, x_push (0) 17), (17, x_inv 36 5 1 20), (20, x_istore 1 21), (21, x_aload 0 22), (22, x_getR 6 1 25), (25, x_push (0) 26), (26, x_inv 35 5 1 29), (29, x_istore 2 30), (30, x_aload 0 31), (31, x_aload 0 32), (32, x_getR 6 1 35), (35, x_push (0) 36)]
theorem o47_0 (scr : Nat × (Nat → Int32)) : ∀ q ∈ k47_0, XSnd xm scr Y47 q.1 q.2 := xcons (s_aload_n rfl dX6_fireTimer_0) (xcons (s_getR (f := 1) xC6 (by decide) xw_150 rfl dX6_fireTimer_1) (xcons (s_getI (f := 3) xC5 (by decide) xw_217 rfl dX6_fireTimer_4) (xcons (s_ifne dX6_fireTimer_7 rfl) (xcons (s_iconst dX6_fireTimer_10 rfl) (xcons (s_zret dX6_fireTimer_11 rfl) (xcons (s_aload_n rfl dX6_fireTimer_12) (xcons (s_getR (f := 1) xC6 (by decide) xw_150 rfl dX6_fireTimer_13) (xcons (s_iconst dX6_fireTimer_16 rfl) (xcons (s_inv (mid := 36) xC5 cal_36 xw_219 xw_220 xw_221 dX6_fireTimer_17) (xcons (s_istore_n rfl dX6_fireTimer_20 (by decide)) (xcons (s_aload_n rfl dX6_fireTimer_21) (xcons (s_getR (f := 1) xC6 (by decide) xw_150 rfl dX6_fireTimer_22) (xcons (s_iconst dX6_fireTimer_25 rfl) (xcons (s_inv (mid := 35) xC5 cal_35 xw_223 xw_224 xw_225 dX6_fireTimer_26) (xcons (s_istore_n rfl dX6_fireTimer_29 (by decide)) (xcons (s_aload_n rfl dX6_fireTimer_30) (xcons (s_aload_n rfl dX6_fireTimer_31) (xcons (s_getR (f := 1) xC6 (by decide) xw_150 rfl dX6_fireTimer_32) (xcons (s_iconst dX6_fireTimer_35 rfl) (xnil))))))))))))))))))))
theorem dX6_fireTimer_36 : decode cX6_fireTimer 36 = .ok (.invokevirtual 150, 3) := by decide +kernel
theorem dX6_fireTimer_39 : decode cX6_fireTimer 39 = .ok (.putfield 57, 3) := by decide +kernel
theorem dX6_fireTimer_42 : decode cX6_fireTimer 42 = .ok (.aload_n 0, 1) := by decide +kernel
theorem dX6_fireTimer_43 : decode cX6_fireTimer 43 = .ok (.getfield 20, 3) := by decide +kernel
theorem dX6_fireTimer_46 : decode cX6_fireTimer 46 = .ok (.invokevirtual 153, 3) := by decide +kernel
theorem dX6_fireTimer_49 : decode cX6_fireTimer 49 = .ok (.aload_n 0, 1) := by decide +kernel
theorem dX6_fireTimer_50 : decode cX6_fireTimer 50 = .ok (.iload_n 1, 1) := by decide +kernel
theorem dX6_fireTimer_51 : decode cX6_fireTimer 51 = .ok (.iconst (-1), 1) := by decide +kernel
theorem dX6_fireTimer_52 : decode cX6_fireTimer 52 = .ok (.iload_n 2, 1) := by decide +kernel
theorem dX6_fireTimer_53 : decode cX6_fireTimer 53 = .ok (.invokevirtual 154, 3) := by decide +kernel
theorem dX6_fireTimer_56 : decode cX6_fireTimer 56 = .ok (.pop, 1) := by decide +kernel
theorem dX6_fireTimer_57 : decode cX6_fireTimer 57 = .ok (.iconst 1, 1) := by decide +kernel
theorem dX6_fireTimer_58 : decode cX6_fireTimer 58 = .ok (.ireturn, 1) := by decide +kernel
def k47_1 : List (Nat × XI) := [(36, x_inv 32 5 1 39), (39, x_putI 6 6 42), (42, x_aload 0 43), (43, x_getR 6 1 46), (46, x_inv 37 5 0 49), (49, x_aload 0 50), (50, x_iload 1 51), (51, x_push (-1) 52), (52, x_iload 2 53), (53, x_inv 63 6 3 56), (56, x_pop 57), (57, x_push (1) 58), (58, x_zret)]
theorem o47_1 (scr : Nat × (Nat → Int32)) : ∀ q ∈ k47_1, XSnd xm scr Y47 q.1 q.2 := xcons (s_inv (mid := 32) xC5 cal_32 xw_227 xw_228 xw_229 dX6_fireTimer_36) (xcons (s_putI (f := 6) xC6 (by decide) xw_159 rfl (Or.inl rfl) dX6_fireTimer_39) (xcons (s_aload_n rfl dX6_fireTimer_42) (xcons (s_getR (f := 1) xC6 (by decide) xw_150 rfl dX6_fireTimer_43) (xcons (s_inv (mid := 37) xC5 cal_37 xw_231 xw_232 xw_233 dX6_fireTimer_46) (xcons (s_aload_n rfl dX6_fireTimer_49) (xcons (s_iload_n rfl dX6_fireTimer_50) (xcons (s_iconst dX6_fireTimer_51 rfl) (xcons (s_iload_n rfl dX6_fireTimer_52) (xcons (s_inv (mid := 63) xC6 cal_63 xw_181 xw_182 xw_183 dX6_fireTimer_53) (xcons (s_pop dX6_fireTimer_56) (xcons (s_iconst dX6_fireTimer_57 rfl) (xcons (s_zret dX6_fireTimer_58 rfl) (xnil)))))))))))))
def k47 (pc : Nat) : XI := if pc < 36 then xlk k47_0 pc else xlk k47_1 pc
theorem o47 (scr : Nat × (Nat → Int32)) (pc : Nat) : XSnd xm scr Y47 pc (k47 pc) := by
  unfold k47
  exact xite (xlk_ok (o47_0 scr) pc) (xlk_ok (o47_1 scr) pc)
theorem dX6_greatestLiveChild_0 : decode cX6_greatestLiveChild 0 = .ok (.aload_n 0, 1) := by decide +kernel
theorem dX6_greatestLiveChild_1 : decode cX6_greatestLiveChild 1 = .ok (.getfield 44, 3) := by decide +kernel
theorem dX6_greatestLiveChild_4 : decode cX6_greatestLiveChild 4 = .ok (.iconst 1, 1) := by decide +kernel
theorem dX6_greatestLiveChild_5 : decode cX6_greatestLiveChild 5 = .ok (.isub, 1) := by decide +kernel
theorem dX6_greatestLiveChild_6 : decode cX6_greatestLiveChild 6 = .ok (.istore_n 2, 1) := by decide +kernel
theorem dX6_greatestLiveChild_7 : decode cX6_greatestLiveChild 7 = .ok (.iload_n 2, 1) := by decide +kernel
theorem dX6_greatestLiveChild_8 : decode cX6_greatestLiveChild 8 = .ok (.iload_n 1, 1) := by decide +kernel
theorem dX6_greatestLiveChild_9 : decode cX6_greatestLiveChild 9 = .ok (.if_icmp .le 20, 3) := by decide +kernel
theorem dX6_greatestLiveChild_12 : decode cX6_greatestLiveChild 12 = .ok (.aload_n 0, 1) := by decide +kernel
theorem dX6_greatestLiveChild_13 : decode cX6_greatestLiveChild 13 = .ok (.iload_n 2, 1) := by decide +kernel
theorem dX6_greatestLiveChild_14 : decode cX6_greatestLiveChild 14 = .ok (.iload_n 1, 1) := by decide +kernel
theorem dX6_greatestLiveChild_15 : decode cX6_greatestLiveChild 15 = .ok (.invokevirtual 199, 3) := by decide +kernel
theorem dX6_greatestLiveChild_18 : decode cX6_greatestLiveChild 18 = .ok (.ifCond .eq 5, 3) := by decide +kernel
theorem dX6_greatestLiveChild_21 : decode cX6_greatestLiveChild 21 = .ok (.iload_n 2, 1) := by decide +kernel
theorem dX6_greatestLiveChild_22 : decode cX6_greatestLiveChild 22 = .ok (.ireturn, 1) := by decide +kernel
theorem dX6_greatestLiveChild_23 : decode cX6_greatestLiveChild 23 = .ok (.iinc 2 (-1), 3) := by decide +kernel
theorem dX6_greatestLiveChild_26 : decode cX6_greatestLiveChild 26 = .ok (.goto (-19), 3) := by decide +kernel
theorem dX6_greatestLiveChild_29 : decode cX6_greatestLiveChild 29 = .ok (.iconst (-1), 1) := by decide +kernel
theorem dX6_greatestLiveChild_30 : decode cX6_greatestLiveChild 30 = .ok (.ireturn, 1) := by decide +kernel
def k48_0 : List (Nat × XI) := [(0, x_aload 0 1), (1, x_getI 6 4 4), (4, x_push (1) 5), (5, x_isub 6), (6, x_istore 2 7), (7, x_iload 2 8), (8, x_iload 1 9), (9, x_icle 29 12), (12, x_aload 0 13), (13, x_iload 2 14), (14, x_iload 1 15), (15, x_inv 55 6 2 18), (18, x_ifeq 23 21), (21, x_iload 2 22), (22, x_iret), (23, x_iinc 2 (-1) 26), (26, x_goto 7), (29, x_push (-1) 30), (30, x_iret)]
theorem o48_0 (scr : Nat × (Nat → Int32)) : ∀ q ∈ k48_0, XSnd xm scr Y48 q.1 q.2 := xcons (s_aload_n rfl dX6_greatestLiveChild_0) (xcons (s_getI (f := 4) xC6 (by decide) xw_127 rfl dX6_greatestLiveChild_1) (xcons (s_iconst dX6_greatestLiveChild_4 rfl) (xcons (s_isub dX6_greatestLiveChild_5) (xcons (s_istore_n rfl dX6_greatestLiveChild_6 (by decide)) (xcons (s_iload_n rfl dX6_greatestLiveChild_7) (xcons (s_iload_n rfl dX6_greatestLiveChild_8) (xcons (s_icle dX6_greatestLiveChild_9 rfl) (xcons (s_aload_n rfl dX6_greatestLiveChild_12) (xcons (s_iload_n rfl dX6_greatestLiveChild_13) (xcons (s_iload_n rfl dX6_greatestLiveChild_14) (xcons (s_inv (mid := 55) xC6 cal_55 xw_235 xw_236 xw_237 dX6_greatestLiveChild_15) (xcons (s_ifeq dX6_greatestLiveChild_18 rfl) (xcons (s_iload_n rfl dX6_greatestLiveChild_21) (xcons (s_iret dX6_greatestLiveChild_22 rfl) (xcons (s_iinc dX6_greatestLiveChild_23 rfl (by decide)) (xcons (s_goto dX6_greatestLiveChild_26 rfl) (xcons (s_iconst dX6_greatestLiveChild_29 rfl) (xcons (s_iret dX6_greatestLiveChild_30 rfl) (xnil)))))))))))))))))))
def k48 (pc : Nat) : XI := xlk k48_0 pc
theorem o48 (scr : Nat × (Nat → Int32)) (pc : Nat) : XSnd xm scr Y48 pc (k48 pc) := by
  unfold k48
  exact xlk_ok (o48_0 scr) pc
theorem dX6_halt_0 : decode cX6_halt 0 = .ok (.iconst 0, 1) := by decide +kernel
theorem dX6_halt_1 : decode cX6_halt 1 = .ok (.istore_n 2, 1) := by decide +kernel
theorem dX6_halt_2 : decode cX6_halt 2 = .ok (.iload_n 1, 1) := by decide +kernel
theorem dX6_halt_3 : decode cX6_halt 3 = .ok (.istore_n 3, 1) := by decide +kernel
theorem dX6_halt_4 : decode cX6_halt 4 = .ok (.iconst 0, 1) := by decide +kernel
theorem dX6_halt_5 : decode cX6_halt 5 = .ok (.istore 4, 2) := by decide +kernel
theorem dX6_halt_7 : decode cX6_halt 7 = .ok (.iload 4, 2) := by decide +kernel
theorem dX6_halt_9 : decode cX6_halt 9 = .ok (.bipush 24, 2) := by decide +kernel
theorem dX6_halt_11 : decode cX6_halt 11 = .ok (.if_icmp .ge 190, 3) := by decide +kernel
theorem dX6_halt_14 : decode cX6_halt 14 = .ok (.aload_n 0, 1) := by decide +kernel
theorem dX6_halt_15 : decode cX6_halt 15 = .ok (.iload_n 3, 1) := by decide +kernel
theorem dX6_halt_16 : decode cX6_halt 16 = .ok (.invokevirtual 86, 3) := by decide +kernel
theorem dX6_halt_19 : decode cX6_halt 19 = .ok (.ifCond .eq 182, 3) := by decide +kernel
theorem dX6_halt_22 : decode cX6_halt 22 = .ok (.aload_n 0, 1) := by decide +kernel
theorem dX6_halt_23 : decode cX6_halt 23 = .ok (.iload_n 3, 1) := by decide +kernel
theorem dX6_halt_24 : decode cX6_halt 24 = .ok (.invokevirtual 239, 3) := by decide +kernel
theorem dX6_halt_27 : decode cX6_halt 27 = .ok (.istore 5, 2) := by decide +kernel
theorem dX6_halt_29 : decode cX6_halt 29 = .ok (.iload 5, 2) := by decide +kernel
theorem dX6_halt_31 : decode cX6_halt 31 = .ok (.iconst (-1), 1) := by decide +kernel
theorem dX6_halt_32 : decode cX6_halt 32 = .ok (.if_icmp .eq 9, 3) := by decide +kernel
def k49_0 : List (Nat × XI) := [(0, x_push (0) 1), (1, x_istore 2 2), (2, x_iload 1 3), (3, x_istore 3 4), (4, x_push (0) 5), (5, x_istore 4 7), (7, x_iload 4 9), (9, x_push (24) 11), (11, x_icge 201 14), (14, x_aload 0 15), (15, x_iload 3 16), (16, x_inv 54 6 1 19), (19, x_ifeq 201 22), (22, x_aload 0 23), (23, x_iload 3 24), (24, x_inv 48 6 1 27), (27, x_istore 5 29), (29, x_iload 5 31), (31, x_push (-1) 32), (32, x_iceq 41 35)]
theorem o49_0 (scr : Nat × (Nat → Int32)) : ∀ q ∈ k49_0, XSnd xm scr Y49 q.1 q.2 := xcons (s_iconst dX6_halt_0 rfl) (xcons (s_istore_n rfl dX6_halt_1 (by decide)) (xcons (s_iload_n rfl dX6_halt_2) (xcons (s_istore_n rfl dX6_halt_3 (by decide)) (xcons (s_iconst dX6_halt_4 rfl) (xcons (s_istore dX6_halt_5 (by decide)) (xcons (s_iload dX6_halt_7) (xcons (s_bipush dX6_halt_9 rfl) (xcons (s_icge dX6_halt_11 rfl) (xcons (s_aload_n rfl dX6_halt_14) (xcons (s_iload_n rfl dX6_halt_15) (xcons (s_inv (mid := 54) xC6 cal_54 xw_134 xw_135 xw_136 dX6_halt_16) (xcons (s_ifeq dX6_halt_19 rfl) (xcons (s_aload_n rfl dX6_halt_22) (xcons (s_iload_n rfl dX6_halt_23) (xcons (s_inv (mid := 48) xC6 cal_48 xw_239 xw_240 xw_241 dX6_halt_24) (xcons (s_istore dX6_halt_27 (by decide)) (xcons (s_iload dX6_halt_29) (xcons (s_iconst dX6_halt_31 rfl) (xcons (s_iceq dX6_halt_32 rfl) (xnil))))))))))))))))))))
theorem dX6_halt_35 : decode cX6_halt 35 = .ok (.iload 5, 2) := by decide +kernel
theorem dX6_halt_37 : decode cX6_halt 37 = .ok (.istore_n 3, 1) := by decide +kernel
theorem dX6_halt_38 : decode cX6_halt 38 = .ok (.goto 157, 3) := by decide +kernel
theorem dX6_halt_41 : decode cX6_halt 41 = .ok (.aload_n 0, 1) := by decide +kernel
theorem dX6_halt_42 : decode cX6_halt 42 = .ok (.getfield 11, 3) := by decide +kernel
theorem dX6_halt_45 : decode cX6_halt 45 = .ok (.iload_n 3, 1) := by decide +kernel
theorem dX6_halt_46 : decode cX6_halt 46 = .ok (.aaload, 1) := by decide +kernel
theorem dX6_halt_47 : decode cX6_halt 47 = .ok (.astore 6, 2) := by decide +kernel
theorem dX6_halt_49 : decode cX6_halt 49 = .ok (.aload 6, 2) := by decide +kernel
theorem dX6_halt_51 : decode cX6_halt 51 = .ok (.iconst 0, 1) := by decide +kernel
theorem dX6_halt_52 : decode cX6_halt 52 = .ok (.putfield 69, 3) := by decide +kernel
theorem dX6_halt_55 : decode cX6_halt 55 = .ok (.aload 6, 2) := by decide +kernel
theorem dX6_halt_57 : decode cX6_halt 57 = .ok (.getfield 76, 3) := by decide +kernel
theorem dX6_halt_60 : decode cX6_halt 60 = .ok (.iconst 0, 1) := by decide +kernel
theorem dX6_halt_61 : decode cX6_halt 61 = .ok (.putfield 79, 3) := by decide +kernel
theorem dX6_halt_64 : decode cX6_halt 64 = .ok (.aload 6, 2) := by decide +kernel
theorem dX6_halt_66 : decode cX6_halt 66 = .ok (.getfield 182, 3) := by decide +kernel
theorem dX6_halt_69 : decode cX6_halt 69 = .ok (.iconst 0, 1) := by decide +kernel
theorem dX6_halt_70 : decode cX6_halt 70 = .ok (.putfield 79, 3) := by decide +kernel
theorem dX6_halt_73 : decode cX6_halt 73 = .ok (.aload 6, 2) := by decide +kernel
def k49_1 : List (Nat × XI) := [(35, x_iload 5 37), (37, x_istore 3 38), (38, x_goto 195), (41, x_aload 0 42), (42, x_getR 6 0 45), (45, x_iload 3 46), (46, x_aald 47), (47, x_astore 6 49), (49, x_aload 6 51), (51, x_push (0) 52), (52, x_putZ 0 6 55), (55, x_aload 6 57), (57, x_getR 0 8 60), (60, x_push (0) 61), (61, x_putI 3 2 64), (64, x_aload 6 66), (66, x_getR 0 9 69), (69, x_push (0) 70), (70, x_putI 3 2 73), (73, x_aload 6 75)]
theorem o49_1 (scr : Nat × (Nat → Int32)) : ∀ q ∈ k49_1, XSnd xm scr Y49 q.1 q.2 := xcons (s_iload dX6_halt_35) (xcons (s_istore_n rfl dX6_halt_37 (by decide)) (xcons (s_goto dX6_halt_38 rfl) (xcons (s_aload_n rfl dX6_halt_41) (xcons (s_getR (f := 0) xC6 (by decide) xw_137 rfl dX6_halt_42) (xcons (s_iload_n rfl dX6_halt_45) (xcons (s_aald dX6_halt_46) (xcons (s_astore dX6_halt_47 (by decide)) (xcons (s_aload dX6_halt_49) (xcons (s_iconst dX6_halt_51 rfl) (xcons (s_putZ (f := 6) xC0 (by decide) xw_242 rfl (Or.inl rfl) dX6_halt_52) (xcons (s_aload dX6_halt_55) (xcons (s_getR (f := 8) xC0 (by decide) xw_243 rfl dX6_halt_57) (xcons (s_iconst dX6_halt_60 rfl) (xcons (s_putI (f := 2) xC3 (by decide) xw_204 rfl (Or.inl rfl) dX6_halt_61) (xcons (s_aload dX6_halt_64) (xcons (s_getR (f := 9) xC0 (by decide) xw_184 rfl dX6_halt_66) (xcons (s_iconst dX6_halt_69 rfl) (xcons (s_putI (f := 2) xC3 (by decide) xw_204 rfl (Or.inl rfl) dX6_halt_70) (xcons (s_aload dX6_halt_73) (xnil))))))))))))))))))))
theorem dX6_halt_75 : decode cX6_halt 75 = .ok (.invokevirtual 233, 3) := by decide +kernel
theorem dX6_halt_78 : decode cX6_halt 78 = .ok (.aload_n 0, 1) := by decide +kernel
theorem dX6_halt_79 : decode cX6_halt 79 = .ok (.getfield 20, 3) := by decide +kernel
theorem dX6_halt_82 : decode cX6_halt 82 = .ok (.iload_n 3, 1) := by decide +kernel
theorem dX6_halt_83 : decode cX6_halt 83 = .ok (.invokevirtual 236, 3) := by decide +kernel
theorem dX6_halt_86 : decode cX6_halt 86 = .ok (.iconst 0, 1) := by decide +kernel
theorem dX6_halt_87 : decode cX6_halt 87 = .ok (.istore 7, 2) := by decide +kernel
theorem dX6_halt_89 : decode cX6_halt 89 = .ok (.iload 7, 2) := by decide +kernel
theorem dX6_halt_91 : decode cX6_halt 91 = .ok (.aload_n 0, 1) := by decide +kernel
theorem dX6_halt_92 : decode cX6_halt 92 = .ok (.getfield 44, 3) := by decide +kernel
theorem dX6_halt_95 : decode cX6_halt 95 = .ok (.if_icmp .ge 30, 3) := by decide +kernel
theorem dX6_halt_98 : decode cX6_halt 98 = .ok (.iload 7, 2) := by decide +kernel
theorem dX6_halt_100 : decode cX6_halt 100 = .ok (.bipush 12, 2) := by decide +kernel
theorem dX6_halt_102 : decode cX6_halt 102 = .ok (.if_icmp .ge 23, 3) := by decide +kernel
theorem dX6_halt_105 : decode cX6_halt 105 = .ok (.aload_n 0, 1) := by decide +kernel
theorem dX6_halt_106 : decode cX6_halt 106 = .ok (.getfield 11, 3) := by decide +kernel
theorem dX6_halt_109 : decode cX6_halt 109 = .ok (.iload 7, 2) := by decide +kernel
theorem dX6_halt_111 : decode cX6_halt 111 = .ok (.aaload, 1) := by decide +kernel
theorem dX6_halt_112 : decode cX6_halt 112 = .ok (.getfield 206, 3) := by decide +kernel
theorem dX6_halt_115 : decode cX6_halt 115 = .ok (.iload_n 3, 1) := by decide +kernel
def k49_2 : List (Nat × XI) := [(75, x_inv 3 0 0 78), (78, x_aload 0 79), (79, x_getR 6 1 82), (82, x_iload 3 83), (83, x_inv 38 5 1 86), (86, x_push (0) 87), (87, x_istore 7 89), (89, x_iload 7 91), (91, x_aload 0 92), (92, x_getI 6 4 95), (95, x_icge 125 98), (98, x_iload 7 100), (100, x_push (12) 102), (102, x_icge 125 105), (105, x_aload 0 106), (106, x_getR 6 0 109), (109, x_iload 7 111), (111, x_aald 112), (112, x_getR 0 10 115), (115, x_iload 3 116)]
theorem o49_2 (scr : Nat × (Nat → Int32)) : ∀ q ∈ k49_2, XSnd xm scr Y49 q.1 q.2 := xcons (s_inv (mid := 3) xC0 cal_3 xw_244 xw_12 xw_13 dX6_halt_75) (xcons (s_aload_n rfl dX6_halt_78) (xcons (s_getR (f := 1) xC6 (by decide) xw_150 rfl dX6_halt_79) (xcons (s_iload_n rfl dX6_halt_82) (xcons (s_inv (mid := 38) xC5 cal_38 xw_246 xw_247 xw_248 dX6_halt_83) (xcons (s_iconst dX6_halt_86 rfl) (xcons (s_istore dX6_halt_87 (by decide)) (xcons (s_iload dX6_halt_89) (xcons (s_aload_n rfl dX6_halt_91) (xcons (s_getI (f := 4) xC6 (by decide) xw_127 rfl dX6_halt_92) (xcons (s_icge dX6_halt_95 rfl) (xcons (s_iload dX6_halt_98) (xcons (s_bipush dX6_halt_100 rfl) (xcons (s_icge dX6_halt_102 rfl) (xcons (s_aload_n rfl dX6_halt_105) (xcons (s_getR (f := 0) xC6 (by decide) xw_137 rfl dX6_halt_106) (xcons (s_iload dX6_halt_109) (xcons (s_aald dX6_halt_111) (xcons (s_getR (f := 10) xC0 (by decide) xw_249 rfl dX6_halt_112) (xcons (s_iload_n rfl dX6_halt_115) (xnil))))))))))))))))))))
theorem dX6_halt_116 : decode cX6_halt 116 = .ok (.invokevirtual 242, 3) := by decide +kernel
theorem dX6_halt_119 : decode cX6_halt 119 = .ok (.iinc 7 1, 3) := by decide +kernel
theorem dX6_halt_122 : decode cX6_halt 122 = .ok (.goto (-33), 3) := by decide +kernel
theorem dX6_halt_125 : decode cX6_halt 125 = .ok (.iconst 0, 1) := by decide +kernel
theorem dX6_halt_126 : decode cX6_halt 126 = .ok (.istore 7, 2) := by decide +kernel
theorem dX6_halt_128 : decode cX6_halt 128 = .ok (.iload 7, 2) := by decide +kernel
theorem dX6_halt_130 : decode cX6_halt 130 = .ok (.aload 6, 2) := by decide +kernel
theorem dX6_halt_132 : decode cX6_halt 132 = .ok (.getfield 206, 3) := by decide +kernel
theorem dX6_halt_135 : decode cX6_halt 135 = .ok (.getfield 162, 3) := by decide +kernel
theorem dX6_halt_138 : decode cX6_halt 138 = .ok (.if_icmp .ge 30, 3) := by decide +kernel
theorem dX6_halt_141 : decode cX6_halt 141 = .ok (.aload_n 0, 1) := by decide +kernel
theorem dX6_halt_142 : decode cX6_halt 142 = .ok (.aload 6, 2) := by decide +kernel
theorem dX6_halt_144 : decode cX6_halt 144 = .ok (.getfield 206, 3) := by decide +kernel
theorem dX6_halt_147 : decode cX6_halt 147 = .ok (.iload 7, 2) := by decide +kernel
theorem dX6_halt_149 : decode cX6_halt 149 = .ok (.invokevirtual 165, 3) := by decide +kernel
theorem dX6_halt_152 : decode cX6_halt 152 = .ok (.iconst (-1), 1) := by decide +kernel
theorem dX6_halt_153 : decode cX6_halt 153 = .ok (.sipush 200, 3) := by decide +kernel
theorem dX6_halt_156 : decode cX6_halt 156 = .ok (.iload_n 3, 1) := by decide +kernel
theorem dX6_halt_157 : decode cX6_halt 157 = .ok (.iadd, 1) := by decide +kernel
theorem dX6_halt_158 : decode cX6_halt 158 = .ok (.invokevirtual 154, 3) := by decide +kernel
def k49_3 : List (Nat × XI) := [(116, x_inv 13 2 1 119), (119, x_iinc 7 (1) 122), (122, x_goto 89), (125, x_push (0) 126), (126, x_istore 7 128), (128, x_iload 7 130), (130, x_aload 6 132), (132, x_getR 0 10 135), (135, x_getI 2 1 138), (138, x_icge 168 141), (141, x_aload 0 142), (142, x_aload 6 144), (144, x_getR 0 10 147), (147, x_iload 7 149), (149, x_inv 6 2 1 152), (152, x_push (-1) 153), (153, x_push (200) 156), (156, x_iload 3 157), (157, x_iadd 158), (158, x_inv 63 6 3 161)]
theorem o49_3 (scr : Nat × (Nat → Int32)) : ∀ q ∈ k49_3, XSnd xm scr Y49 q.1 q.2 := xcons (s_inv (mid := 13) xC2 cal_13 xw_251 xw_252 xw_253 dX6_halt_116) (xcons (s_iinc dX6_halt_119 rfl (by decide)) (xcons (s_goto dX6_halt_122 rfl) (xcons (s_iconst dX6_halt_125 rfl) (xcons (s_istore dX6_halt_126 (by decide)) (xcons (s_iload dX6_halt_128) (xcons (s_aload dX6_halt_130) (xcons (s_getR (f := 10) xC0 (by decide) xw_249 rfl dX6_halt_132) (xcons (s_getI (f := 1) xC2 (by decide) xw_165 rfl dX6_halt_135) (xcons (s_icge dX6_halt_138 rfl) (xcons (s_aload_n rfl dX6_halt_141) (xcons (s_aload dX6_halt_142) (xcons (s_getR (f := 10) xC0 (by decide) xw_249 rfl dX6_halt_144) (xcons (s_iload dX6_halt_147) (xcons (s_inv (mid := 6) xC2 cal_6 xw_166 xw_93 xw_94 dX6_halt_149) (xcons (s_iconst dX6_halt_152 rfl) (xcons (s_sipush dX6_halt_153 rfl) (xcons (s_iload_n rfl dX6_halt_156) (xcons (s_iadd dX6_halt_157) (xcons (s_inv (mid := 63) xC6 cal_63 xw_181 xw_182 xw_183 dX6_halt_158) (xnil))))))))))))))))))))
theorem dX6_halt_161 : decode cX6_halt 161 = .ok (.pop, 1) := by decide +kernel
theorem dX6_halt_162 : decode cX6_halt 162 = .ok (.iinc 7 1, 3) := by decide +kernel
theorem dX6_halt_165 : decode cX6_halt 165 = .ok (.goto (-37), 3) := by decide +kernel
theorem dX6_halt_168 : decode cX6_halt 168 = .ok (.aload 6, 2) := by decide +kernel
theorem dX6_halt_170 : decode cX6_halt 170 = .ok (.getfield 206, 3) := by decide +kernel
theorem dX6_halt_173 : decode cX6_halt 173 = .ok (.iconst 0, 1) := by decide +kernel
theorem dX6_halt_174 : decode cX6_halt 174 = .ok (.putfield 162, 3) := by decide +kernel
theorem dX6_halt_177 : decode cX6_halt 177 = .ok (.iinc 2 1, 3) := by decide +kernel
theorem dX6_halt_180 : decode cX6_halt 180 = .ok (.iload_n 3, 1) := by decide +kernel
theorem dX6_halt_181 : decode cX6_halt 181 = .ok (.iload_n 1, 1) := by decide +kernel
theorem dX6_halt_182 : decode cX6_halt 182 = .ok (.if_icmp .ne 7, 3) := by decide +kernel
theorem dX6_halt_185 : decode cX6_halt 185 = .ok (.iconst (-1), 1) := by decide +kernel
theorem dX6_halt_186 : decode cX6_halt 186 = .ok (.goto 8, 3) := by decide +kernel
theorem dX6_halt_189 : decode cX6_halt 189 = .ok (.aload 6, 2) := by decide +kernel
theorem dX6_halt_191 : decode cX6_halt 191 = .ok (.getfield 73, 3) := by decide +kernel
theorem dX6_halt_194 : decode cX6_halt 194 = .ok (.istore_n 3, 1) := by decide +kernel
theorem dX6_halt_195 : decode cX6_halt 195 = .ok (.iinc 4 1, 3) := by decide +kernel
theorem dX6_halt_198 : decode cX6_halt 198 = .ok (.goto (-191), 3) := by decide +kernel
theorem dX6_halt_201 : decode cX6_halt 201 = .ok (.iload_n 2, 1) := by decide +kernel
theorem dX6_halt_202 : decode cX6_halt 202 = .ok (.ireturn, 1) := by decide +kernel
def k49_4 : List (Nat × XI) := [(161, x_pop 162), (162, x_iinc 7 (1) 165), (165, x_goto 128), (168, x_aload 6 170), (170, x_getR 0 10 173), (173, x_push (0) 174), (174, x_putI 2 1 177), (177, x_iinc 2 (1) 180), (180, x_iload 3 181), (181, x_iload 1 182), (182, x_icne 189 185), (185, x_push (-1) 186), (186, x_goto 194), (189, x_aload 6 191), (191, x_getI 0 0 194), (194, x_istore 3 195), (195, x_iinc 4 (1) 198), (198, x_goto 7), (201, x_iload 2 202), (202, x_iret)]
theorem o49_4 (scr : Nat × (Nat → Int32)) : ∀ q ∈ k49_4, XSnd xm scr Y49 q.1 q.2 := xcons (s_pop dX6_halt_161) (xcons (s_iinc dX6_halt_162 rfl (by decide)) (xcons (s_goto dX6_halt_165 rfl) (xcons (s_aload dX6_halt_168) (xcons (s_getR (f := 10) xC0 (by decide) xw_249 rfl dX6_halt_170) (xcons (s_iconst dX6_halt_173 rfl) (xcons (s_putI (f := 1) xC2 (by decide) xw_165 rfl (Or.inl rfl) dX6_halt_174) (xcons (s_iinc dX6_halt_177 rfl (by decide)) (xcons (s_iload_n rfl dX6_halt_180) (xcons (s_iload_n rfl dX6_halt_181) (xcons (s_icne dX6_halt_182 rfl) (xcons (s_iconst dX6_halt_185 rfl) (xcons (s_goto dX6_halt_186 rfl) (xcons (s_aload dX6_halt_189) (xcons (s_getI (f := 0) xC0 (by decide) xw_145 rfl dX6_halt_191) (xcons (s_istore_n rfl dX6_halt_194 (by decide)) (xcons (s_iinc dX6_halt_195 rfl (by decide)) (xcons (s_goto dX6_halt_198 rfl) (xcons (s_iload_n rfl dX6_halt_201) (xcons (s_iret dX6_halt_202 rfl) (xnil))))))))))))))))))))
def k49 (pc : Nat) : XI := if pc < 75 then if pc < 35 then xlk k49_0 pc else xlk k49_1 pc else if pc < 116 then xlk k49_2 pc else if pc < 161 then xlk k49_3 pc else xlk k49_4 pc
theorem o49 (scr : Nat × (Nat → Int32)) (pc : Nat) : XSnd xm scr Y49 pc (k49 pc) := by
  unfold k49
  exact xite (xite (xlk_ok (o49_0 scr) pc) (xlk_ok (o49_1 scr) pc)) (xite (xlk_ok (o49_2 scr) pc) (xite (xlk_ok (o49_3 scr) pc) (xlk_ok (o49_4 scr) pc)))
theorem dX6_hasStep_0 : decode cX6_hasStep 0 = .ok (.aload_n 0, 1) := by decide +kernel
theorem dX6_hasStep_1 : decode cX6_hasStep 1 = .ok (.getfield 20, 3) := by decide +kernel
theorem dX6_hasStep_4 : decode cX6_hasStep 4 = .ok (.getfield 117, 3) := by decide +kernel
theorem dX6_hasStep_7 : decode cX6_hasStep 7 = .ok (.ifCond .gt 11, 3) := by decide +kernel
theorem dX6_hasStep_10 : decode cX6_hasStep 10 = .ok (.aload_n 0, 1) := by decide +kernel
theorem dX6_hasStep_11 : decode cX6_hasStep 11 = .ok (.invokevirtual 118, 3) := by decide +kernel
theorem dX6_hasStep_14 : decode cX6_hasStep 14 = .ok (.iconst (-1), 1) := by decide +kernel
theorem dX6_hasStep_15 : decode cX6_hasStep 15 = .ok (.if_icmp .eq 7, 3) := by decide +kernel
theorem dX6_hasStep_18 : decode cX6_hasStep 18 = .ok (.iconst 1, 1) := by decide +kernel
theorem dX6_hasStep_19 : decode cX6_hasStep 19 = .ok (.goto 4, 3) := by decide +kernel
theorem dX6_hasStep_22 : decode cX6_hasStep 22 = .ok (.iconst 0, 1) := by decide +kernel
theorem dX6_hasStep_23 : decode cX6_hasStep 23 = .ok (.ireturn, 1) := by decide +kernel
def k50_0 : List (Nat × XI) := [(0, x_aload 0 1), (1, x_getR 6 1 4), (4, x_getI 5 3 7), (7, x_ifgt 18 10), (10, x_aload 0 11), (11, x_inv 61 6 0 14), (14, x_push (-1) 15), (15, x_iceq 22 18), (18, x_push (1) 19), (19, x_goto 23), (22, x_push (0) 23), (23, x_zret)]
theorem o50_0 (scr : Nat × (Nat → Int32)) : ∀ q ∈ k50_0, XSnd xm scr Y50 q.1 q.2 := xcons (s_aload_n rfl dX6_hasStep_0) (xcons (s_getR (f := 1) xC6 (by decide) xw_150 rfl dX6_hasStep_1) (xcons (s_getI (f := 3) xC5 (by decide) xw_217 rfl dX6_hasStep_4) (xcons (s_ifgt dX6_hasStep_7 rfl) (xcons (s_aload_n rfl dX6_hasStep_10) (xcons (s_inv (mid := 61) xC6 cal_61 xw_255 xw_256 xw_257 dX6_hasStep_11) (xcons (s_iconst dX6_hasStep_14 rfl) (xcons (s_iceq dX6_hasStep_15 rfl) (xcons (s_iconst dX6_hasStep_18 rfl) (xcons (s_goto dX6_hasStep_19 rfl) (xcons (s_iconst dX6_hasStep_22 rfl) (xcons (s_zret dX6_hasStep_23 rfl) (xnil))))))))))))
def k50 (pc : Nat) : XI := xlk k50_0 pc
theorem o50 (scr : Nat × (Nat → Int32)) (pc : Nat) : XSnd xm scr Y50 pc (k50 pc) := by
  unfold k50
  exact xlk_ok (o50_0 scr) pc
theorem dX6_howItStands_0 : decode cX6_howItStands 0 = .ok (.aload_n 0, 1) := by decide +kernel
theorem dX6_howItStands_1 : decode cX6_howItStands 1 = .ok (.getfield 44, 3) := by decide +kernel
theorem dX6_howItStands_4 : decode cX6_howItStands 4 = .ok (.ifCond .le 13, 3) := by decide +kernel
theorem dX6_howItStands_7 : decode cX6_howItStands 7 = .ok (.aload_n 0, 1) := by decide +kernel
theorem dX6_howItStands_8 : decode cX6_howItStands 8 = .ok (.iconst 0, 1) := by decide +kernel
theorem dX6_howItStands_9 : decode cX6_howItStands 9 = .ok (.invokevirtual 86, 3) := by decide +kernel
theorem dX6_howItStands_12 : decode cX6_howItStands 12 = .ok (.ifCond .ne 5, 3) := by decide +kernel
theorem dX6_howItStands_15 : decode cX6_howItStands 15 = .ok (.iconst 2, 1) := by decide +kernel
theorem dX6_howItStands_16 : decode cX6_howItStands 16 = .ok (.ireturn, 1) := by decide +kernel
theorem dX6_howItStands_17 : decode cX6_howItStands 17 = .ok (.aload_n 0, 1) := by decide +kernel
theorem dX6_howItStands_18 : decode cX6_howItStands 18 = .ok (.invokevirtual 114, 3) := by decide +kernel
theorem dX6_howItStands_21 : decode cX6_howItStands 21 = .ok (.ifCond .eq 7, 3) := by decide +kernel
theorem dX6_howItStands_24 : decode cX6_howItStands 24 = .ok (.iconst 0, 1) := by decide +kernel
theorem dX6_howItStands_25 : decode cX6_howItStands 25 = .ok (.goto 4, 3) := by decide +kernel
theorem dX6_howItStands_28 : decode cX6_howItStands 28 = .ok (.iconst 1, 1) := by decide +kernel
theorem dX6_howItStands_29 : decode cX6_howItStands 29 = .ok (.ireturn, 1) := by decide +kernel
def k51_0 : List (Nat × XI) := [(0, x_aload 0 1), (1, x_getI 6 4 4), (4, x_ifle 17 7), (7, x_aload 0 8), (8, x_push (0) 9), (9, x_inv 54 6 1 12), (12, x_ifne 17 15), (15, x_push (2) 16), (16, x_iret), (17, x_aload 0 18), (18, x_inv 50 6 0 21), (21, x_ifeq 28 24), (24, x_push (0) 25), (25, x_goto 29), (28, x_push (1) 29), (29, x_iret)]
theorem o51_0 (scr : Nat × (Nat → Int32)) : ∀ q ∈ k51_0, XSnd xm scr Y51 q.1 q.2 := xcons (s_aload_n rfl dX6_howItStands_0) (xcons (s_getI (f := 4) xC6 (by decide) xw_127 rfl dX6_howItStands_1) (xcons (s_ifle dX6_howItStands_4 rfl) (xcons (s_aload_n rfl dX6_howItStands_7) (xcons (s_iconst dX6_howItStands_8 rfl) (xcons (s_inv (mid := 54) xC6 cal_54 xw_134 xw_135 xw_136 dX6_howItStands_9) (xcons (s_ifne dX6_howItStands_12 rfl) (xcons (s_iconst dX6_howItStands_15 rfl) (xcons (s_iret dX6_howItStands_16 rfl) (xcons (s_aload_n rfl dX6_howItStands_17) (xcons (s_inv (mid := 50) xC6 cal_50 xw_259 xw_260 xw_261 dX6_howItStands_18) (xcons (s_ifeq dX6_howItStands_21 rfl) (xcons (s_iconst dX6_howItStands_24 rfl) (xcons (s_goto dX6_howItStands_25 rfl) (xcons (s_iconst dX6_howItStands_28 rfl) (xcons (s_iret dX6_howItStands_29 rfl) (xnil))))))))))))))))
def k51 (pc : Nat) : XI := xlk k51_0 pc
theorem o51 (scr : Nat × (Nat → Int32)) (pc : Nat) : XSnd xm scr Y51 pc (k51 pc) := by
  unfold k51
  exact xlk_ok (o51_0 scr) pc
theorem dX6_init_0 : decode cX6_init 0 = .ok (.aload_n 0, 1) := by decide +kernel
theorem dX6_init_1 : decode cX6_init 1 = .ok (.invokespecial 3, 3) := by decide +kernel
theorem dX6_init_4 : decode cX6_init 4 = .ok (.aload_n 0, 1) := by decide +kernel
theorem dX6_init_5 : decode cX6_init 5 = .ok (.bipush 12, 2) := by decide +kernel
theorem dX6_init_7 : decode cX6_init 7 = .ok (.anewarray 9, 3) := by decide +kernel
theorem dX6_init_10 : decode cX6_init 10 = .ok (.putfield 11, 3) := by decide +kernel
theorem dX6_init_13 : decode cX6_init 13 = .ok (.aload_n 0, 1) := by decide +kernel
theorem dX6_init_14 : decode cX6_init 14 = .ok (.new 17, 3) := by decide +kernel
theorem dX6_init_17 : decode cX6_init 17 = .ok (.dup, 1) := by decide +kernel
theorem dX6_init_18 : decode cX6_init 18 = .ok (.invokespecial 19, 3) := by decide +kernel
theorem dX6_init_21 : decode cX6_init 21 = .ok (.putfield 20, 3) := by decide +kernel
theorem dX6_init_24 : decode cX6_init 24 = .ok (.aload_n 0, 1) := by decide +kernel
theorem dX6_init_25 : decode cX6_init 25 = .ok (.new 24, 3) := by decide +kernel
theorem dX6_init_28 : decode cX6_init 28 = .ok (.dup, 1) := by decide +kernel
theorem dX6_init_29 : decode cX6_init 29 = .ok (.bipush 30, 2) := by decide +kernel
theorem dX6_init_31 : decode cX6_init 31 = .ok (.invokespecial 26, 3) := by decide +kernel
theorem dX6_init_34 : decode cX6_init 34 = .ok (.putfield 29, 3) := by decide +kernel
theorem dX6_init_37 : decode cX6_init 37 = .ok (.aload_n 0, 1) := by decide +kernel
theorem dX6_init_38 : decode cX6_init 38 = .ok (.new 24, 3) := by decide +kernel
theorem dX6_init_41 : decode cX6_init 41 = .ok (.dup, 1) := by decide +kernel
def k52_0 : List (Nat × XI) := [(0, x_aload 0 1), (1, x_obj 4), (4, x_aload 0 5), (5, x_push (12) 7), (7, x_newA 0 10), (10, x_putR 6 0 13), (13, x_aload 0 14), (14, x_new 5 17), (17, x_dup 18), (18, x_inv 33 5 0 21), (21, x_putR 6 1 24), (24, x_aload 0 25), (25, x_new 3 28), (28, x_dup 29), (29, x_push (30) 31), (31, x_inv 19 3 1 34), (34, x_putR 6 2 37), (37, x_aload 0 38), (38, x_new 3 41), (41, x_dup 42)]
theorem o52_0 (scr : Nat × (Nat → Int32)) : ∀ q ∈ k52_0, XSnd xm scr Y52 q.1 q.2 := xcons (s_aload_n rfl dX6_init_0) (xcons (s_obj xw_262 xw_30 xw_31 dX6_init_1) (xcons (s_aload_n rfl dX6_init_4) (xcons (s_bipush dX6_init_5 rfl) (xcons (s_newA rfl (by decide) xw_263 dX6_init_7) (xcons (s_putR (f := 0) xC6 (by decide) xw_137 rfl (Or.inr ⟨rfl, rfl, rfl⟩) dX6_init_10) (xcons (s_aload_n rfl dX6_init_13) (xcons (s_new xC5 xw_264 xw_265 xw_123 (by decide +kernel) dX6_init_14) (xcons (s_dup dX6_init_17) (xcons (s_initN (mid := 33) xC5 cal_33 rfl rfl (List.mem_of_getElem? (i := 0) rfl) xw_267 dX6_init_18) (xcons (s_putR (f := 1) xC6 (by decide) xw_150 rfl (Or.inr ⟨rfl, rfl, rfl⟩) dX6_init_21) (xcons (s_aload_n rfl dX6_init_24) (xcons (s_new xC3 xw_268 xw_38 xw_24 (by decide +kernel) dX6_init_25) (xcons (s_dup dX6_init_28) (xcons (s_bipush dX6_init_29 rfl) (xcons (s_init (mid := 19) xC3 cal_19 rfl rfl xw_269 xw_41 dX6_init_31) (xcons (s_putR (f := 2) xC6 (by decide) xw_155 rfl (Or.inr ⟨rfl, rfl, rfl⟩) dX6_init_34) (xcons (s_aload_n rfl dX6_init_37) (xcons (s_new xC3 xw_268 xw_38 xw_24 (by decide +kernel) dX6_init_38) (xcons (s_dup dX6_init_41) (xnil))))))))))))))))))))
theorem dX6_init_42 : decode cX6_init 42 = .ok (.bipush 12, 2) := by decide +kernel
theorem dX6_init_44 : decode cX6_init 44 = .ok (.invokespecial 26, 3) := by decide +kernel
theorem dX6_init_47 : decode cX6_init 47 = .ok (.putfield 33, 3) := by decide +kernel
theorem dX6_init_50 : decode cX6_init 50 = .ok (.aload_n 0, 1) := by decide +kernel
theorem dX6_init_51 : decode cX6_init 51 = .ok (.iconst (-1), 1) := by decide +kernel
theorem dX6_init_52 : decode cX6_init 52 = .ok (.putfield 36, 3) := by decide +kernel
theorem dX6_init_55 : decode cX6_init 55 = .ok (.aload_n 0, 1) := by decide +kernel
theorem dX6_init_56 : decode cX6_init 56 = .ok (.iconst 1, 1) := by decide +kernel
theorem dX6_init_57 : decode cX6_init 57 = .ok (.putfield 40, 3) := by decide +kernel
theorem dX6_init_60 : decode cX6_init 60 = .ok (.iconst 0, 1) := by decide +kernel
theorem dX6_init_61 : decode cX6_init 61 = .ok (.istore_n 1, 1) := by decide +kernel
theorem dX6_init_62 : decode cX6_init 62 = .ok (.iload_n 1, 1) := by decide +kernel
theorem dX6_init_63 : decode cX6_init 63 = .ok (.aload_n 0, 1) := by decide +kernel
theorem dX6_init_64 : decode cX6_init 64 = .ok (.getfield 11, 3) := by decide +kernel
theorem dX6_init_67 : decode cX6_init 67 = .ok (.arraylength, 1) := by decide +kernel
theorem dX6_init_68 : decode cX6_init 68 = .ok (.if_icmp .ge 22, 3) := by decide +kernel
theorem dX6_init_71 : decode cX6_init 71 = .ok (.aload_n 0, 1) := by decide +kernel
theorem dX6_init_72 : decode cX6_init 72 = .ok (.getfield 11, 3) := by decide +kernel
theorem dX6_init_75 : decode cX6_init 75 = .ok (.iload_n 1, 1) := by decide +kernel
theorem dX6_init_76 : decode cX6_init 76 = .ok (.new 9, 3) := by decide +kernel
def k52_1 : List (Nat × XI) := [(42, x_push (12) 44), (44, x_inv 19 3 1 47), (47, x_putR 6 3 50), (50, x_aload 0 51), (51, x_push (-1) 52), (52, x_putI 6 5 55), (55, x_aload 0 56), (56, x_push (1) 57), (57, x_putI 6 9 60), (60, x_push (0) 61), (61, x_istore 1 62), (62, x_iload 1 63), (63, x_aload 0 64), (64, x_getR 6 0 67), (67, x_len 68), (68, x_icge 90 71), (71, x_aload 0 72), (72, x_getR 6 0 75), (75, x_iload 1 76), (76, x_new 0 79)]
theorem o52_1 (scr : Nat × (Nat → Int32)) : ∀ q ∈ k52_1, XSnd xm scr Y52 q.1 q.2 := xcons (s_bipush dX6_init_42 rfl) (xcons (s_init (mid := 19) xC3 cal_19 rfl rfl xw_269 xw_41 dX6_init_44) (xcons (s_putR (f := 3) xC6 (by decide) xw_157 rfl (Or.inr ⟨rfl, rfl, rfl⟩) dX6_init_47) (xcons (s_aload_n rfl dX6_init_50) (xcons (s_iconst dX6_init_51 rfl) (xcons (s_putI (f := 5) xC6 (by decide) xw_158 rfl (Or.inl rfl) dX6_init_52) (xcons (s_aload_n rfl dX6_init_55) (xcons (s_iconst dX6_init_56 rfl) (xcons (s_putI (f := 9) xC6 (by decide) xw_162 rfl (Or.inl rfl) dX6_init_57) (xcons (s_iconst dX6_init_60 rfl) (xcons (s_istore_n rfl dX6_init_61 (by decide)) (xcons (s_iload_n rfl dX6_init_62) (xcons (s_aload_n rfl dX6_init_63) (xcons (s_getR (f := 0) xC6 (by decide) xw_137 rfl dX6_init_64) (xcons (s_len dX6_init_67) (xcons (s_icge dX6_init_68 rfl) (xcons (s_aload_n rfl dX6_init_71) (xcons (s_getR (f := 0) xC6 (by decide) xw_137 rfl dX6_init_72) (xcons (s_iload_n rfl dX6_init_75) (xcons (s_new xC0 xw_263 xw_270 xw_10 (by decide +kernel) dX6_init_76) (xnil))))))))))))))))))))
theorem dX6_init_79 : decode cX6_init 79 = .ok (.dup, 1) := by decide +kernel
theorem dX6_init_80 : decode cX6_init 80 = .ok (.invokespecial 43, 3) := by decide +kernel
theorem dX6_init_83 : decode cX6_init 83 = .ok (.aastore, 1) := by decide +kernel
theorem dX6_init_84 : decode cX6_init 84 = .ok (.iinc 1 1, 3) := by decide +kernel
theorem dX6_init_87 : decode cX6_init 87 = .ok (.goto (-25), 3) := by decide +kernel
theorem dX6_init_90 : decode cX6_init 90 = .ok (.return_, 1) := by decide +kernel
def k52_2 : List (Nat × XI) := [(79, x_dup 80), (80, x_inv 2 0 0 83), (83, x_aast 0 0 84), (84, x_iinc 1 (1) 87), (87, x_goto 62), (90, x_ret)]
theorem o52_2 (scr : Nat × (Nat → Int32)) : ∀ q ∈ k52_2, XSnd xm scr Y52 q.1 q.2 := xcons (s_dup dX6_init_79) (xcons (s_initN (mid := 2) xC0 cal_2 rfl rfl (List.mem_of_getElem? (i := 1) rfl) xw_272 dX6_init_80) (xcons (s_aast xC0 rfl (by decide) dX6_init_83) (xcons (s_iinc dX6_init_84 rfl (by decide)) (xcons (s_goto dX6_init_87 rfl) (xcons (s_ret dX6_init_90 rfl) (xnil))))))
def k52 (pc : Nat) : XI := if pc < 42 then xlk k52_0 pc else if pc < 79 then xlk k52_1 pc else xlk k52_2 pc
theorem o52 (scr : Nat × (Nat → Int32)) (pc : Nat) : XSnd xm scr Y52 pc (k52 pc) := by
  unfold k52
  exact xite (xlk_ok (o52_0 scr) pc) (xite (xlk_ok (o52_1 scr) pc) (xlk_ok (o52_2 scr) pc))
theorem dX6_isActor_0 : decode cX6_isActor 0 = .ok (.iload_n 1, 1) := by decide +kernel
theorem dX6_isActor_1 : decode cX6_isActor 1 = .ok (.ifCond .lt 21, 3) := by decide +kernel
theorem dX6_isActor_4 : decode cX6_isActor 4 = .ok (.iload_n 1, 1) := by decide +kernel
theorem dX6_isActor_5 : decode cX6_isActor 5 = .ok (.aload_n 0, 1) := by decide +kernel
theorem dX6_isActor_6 : decode cX6_isActor 6 = .ok (.getfield 44, 3) := by decide +kernel
theorem dX6_isActor_9 : decode cX6_isActor 9 = .ok (.if_icmp .ge 13, 3) := by decide +kernel
theorem dX6_isActor_12 : decode cX6_isActor 12 = .ok (.iload_n 1, 1) := by decide +kernel
theorem dX6_isActor_13 : decode cX6_isActor 13 = .ok (.bipush 12, 2) := by decide +kernel
theorem dX6_isActor_15 : decode cX6_isActor 15 = .ok (.if_icmp .ge 7, 3) := by decide +kernel
theorem dX6_isActor_18 : decode cX6_isActor 18 = .ok (.iconst 1, 1) := by decide +kernel
theorem dX6_isActor_19 : decode cX6_isActor 19 = .ok (.goto 4, 3) := by decide +kernel
theorem dX6_isActor_22 : decode cX6_isActor 22 = .ok (.iconst 0, 1) := by decide +kernel
theorem dX6_isActor_23 : decode cX6_isActor 23 = .ok (.ireturn, 1) := by decide +kernel
def k53_0 : List (Nat × XI) := [(0, x_iload 1 1), (1, x_iflt 22 4), (4, x_iload 1 5), (5, x_aload 0 6), (6, x_getI 6 4 9), (9, x_icge 22 12), (12, x_iload 1 13), (13, x_push (12) 15), (15, x_icge 22 18), (18, x_push (1) 19), (19, x_goto 23), (22, x_push (0) 23), (23, x_zret)]
theorem o53_0 (scr : Nat × (Nat → Int32)) : ∀ q ∈ k53_0, XSnd xm scr Y53 q.1 q.2 := xcons (s_iload_n rfl dX6_isActor_0) (xcons (s_iflt dX6_isActor_1 rfl) (xcons (s_iload_n rfl dX6_isActor_4) (xcons (s_aload_n rfl dX6_isActor_5) (xcons (s_getI (f := 4) xC6 (by decide) xw_127 rfl dX6_isActor_6) (xcons (s_icge dX6_isActor_9 rfl) (xcons (s_iload_n rfl dX6_isActor_12) (xcons (s_bipush dX6_isActor_13 rfl) (xcons (s_icge dX6_isActor_15 rfl) (xcons (s_iconst dX6_isActor_18 rfl) (xcons (s_goto dX6_isActor_19 rfl) (xcons (s_iconst dX6_isActor_22 rfl) (xcons (s_zret dX6_isActor_23 rfl) (xnil)))))))))))))
def k53 (pc : Nat) : XI := xlk k53_0 pc
theorem o53 (scr : Nat × (Nat → Int32)) (pc : Nat) : XSnd xm scr Y53 pc (k53 pc) := by
  unfold k53
  exact xlk_ok (o53_0 scr) pc
theorem dX6_isLive_0 : decode cX6_isLive 0 = .ok (.iload_n 1, 1) := by decide +kernel
theorem dX6_isLive_1 : decode cX6_isLive 1 = .ok (.ifCond .lt 33, 3) := by decide +kernel
theorem dX6_isLive_4 : decode cX6_isLive 4 = .ok (.iload_n 1, 1) := by decide +kernel
theorem dX6_isLive_5 : decode cX6_isLive 5 = .ok (.aload_n 0, 1) := by decide +kernel
theorem dX6_isLive_6 : decode cX6_isLive 6 = .ok (.getfield 44, 3) := by decide +kernel
theorem dX6_isLive_9 : decode cX6_isLive 9 = .ok (.if_icmp .ge 25, 3) := by decide +kernel
theorem dX6_isLive_12 : decode cX6_isLive 12 = .ok (.iload_n 1, 1) := by decide +kernel
theorem dX6_isLive_13 : decode cX6_isLive 13 = .ok (.bipush 12, 2) := by decide +kernel
theorem dX6_isLive_15 : decode cX6_isLive 15 = .ok (.if_icmp .ge 19, 3) := by decide +kernel
theorem dX6_isLive_18 : decode cX6_isLive 18 = .ok (.aload_n 0, 1) := by decide +kernel
theorem dX6_isLive_19 : decode cX6_isLive 19 = .ok (.getfield 11, 3) := by decide +kernel
theorem dX6_isLive_22 : decode cX6_isLive 22 = .ok (.iload_n 1, 1) := by decide +kernel
theorem dX6_isLive_23 : decode cX6_isLive 23 = .ok (.aaload, 1) := by decide +kernel
theorem dX6_isLive_24 : decode cX6_isLive 24 = .ok (.getfield 69, 3) := by decide +kernel
theorem dX6_isLive_27 : decode cX6_isLive 27 = .ok (.ifCond .eq 7, 3) := by decide +kernel
theorem dX6_isLive_30 : decode cX6_isLive 30 = .ok (.iconst 1, 1) := by decide +kernel
theorem dX6_isLive_31 : decode cX6_isLive 31 = .ok (.goto 4, 3) := by decide +kernel
theorem dX6_isLive_34 : decode cX6_isLive 34 = .ok (.iconst 0, 1) := by decide +kernel
theorem dX6_isLive_35 : decode cX6_isLive 35 = .ok (.ireturn, 1) := by decide +kernel
def k54_0 : List (Nat × XI) := [(0, x_iload 1 1), (1, x_iflt 34 4), (4, x_iload 1 5), (5, x_aload 0 6), (6, x_getI 6 4 9), (9, x_icge 34 12), (12, x_iload 1 13), (13, x_push (12) 15), (15, x_icge 34 18), (18, x_aload 0 19), (19, x_getR 6 0 22), (22, x_iload 1 23), (23, x_aald 24), (24, x_getI 0 6 27), (27, x_ifeq 34 30), (30, x_push (1) 31), (31, x_goto 35), (34, x_push (0) 35), (35, x_zret)]
theorem o54_0 (scr : Nat × (Nat → Int32)) : ∀ q ∈ k54_0, XSnd xm scr Y54 q.1 q.2 := xcons (s_iload_n rfl dX6_isLive_0) (xcons (s_iflt dX6_isLive_1 rfl) (xcons (s_iload_n rfl dX6_isLive_4) (xcons (s_aload_n rfl dX6_isLive_5) (xcons (s_getI (f := 4) xC6 (by decide) xw_127 rfl dX6_isLive_6) (xcons (s_icge dX6_isLive_9 rfl) (xcons (s_iload_n rfl dX6_isLive_12) (xcons (s_bipush dX6_isLive_13 rfl) (xcons (s_icge dX6_isLive_15 rfl) (xcons (s_aload_n rfl dX6_isLive_18) (xcons (s_getR (f := 0) xC6 (by decide) xw_137 rfl dX6_isLive_19) (xcons (s_iload_n rfl dX6_isLive_22) (xcons (s_aald dX6_isLive_23) (xcons (s_getI (f := 6) xC0 (by decide) xw_242 rfl dX6_isLive_24) (xcons (s_ifeq dX6_isLive_27 rfl) (xcons (s_iconst dX6_isLive_30 rfl) (xcons (s_goto dX6_isLive_31 rfl) (xcons (s_iconst dX6_isLive_34 rfl) (xcons (s_zret dX6_isLive_35 rfl) (xnil)))))))))))))))))))
def k54 (pc : Nat) : XI := xlk k54_0 pc
theorem o54 (scr : Nat × (Nat → Int32)) (pc : Nat) : XSnd xm scr Y54 pc (k54 pc) := by
  unfold k54
  exact xlk_ok (o54_0 scr) pc
theorem dX6_isLiveChild_0 : decode cX6_isLiveChild 0 = .ok (.iload_n 1, 1) := by decide +kernel
theorem dX6_isLiveChild_1 : decode cX6_isLiveChild 1 = .ok (.ifCond .lt 46, 3) := by decide +kernel
theorem dX6_isLiveChild_4 : decode cX6_isLiveChild 4 = .ok (.iload_n 1, 1) := by decide +kernel
theorem dX6_isLiveChild_5 : decode cX6_isLiveChild 5 = .ok (.aload_n 0, 1) := by decide +kernel
theorem dX6_isLiveChild_6 : decode cX6_isLiveChild 6 = .ok (.getfield 44, 3) := by decide +kernel
theorem dX6_isLiveChild_9 : decode cX6_isLiveChild 9 = .ok (.if_icmp .ge 38, 3) := by decide +kernel
theorem dX6_isLiveChild_12 : decode cX6_isLiveChild 12 = .ok (.iload_n 1, 1) := by decide +kernel
theorem dX6_isLiveChild_13 : decode cX6_isLiveChild 13 = .ok (.bipush 12, 2) := by decide +kernel
theorem dX6_isLiveChild_15 : decode cX6_isLiveChild 15 = .ok (.if_icmp .ge 32, 3) := by decide +kernel
theorem dX6_isLiveChild_18 : decode cX6_isLiveChild 18 = .ok (.aload_n 0, 1) := by decide +kernel
theorem dX6_isLiveChild_19 : decode cX6_isLiveChild 19 = .ok (.getfield 11, 3) := by decide +kernel
theorem dX6_isLiveChild_22 : decode cX6_isLiveChild 22 = .ok (.iload_n 1, 1) := by decide +kernel
theorem dX6_isLiveChild_23 : decode cX6_isLiveChild 23 = .ok (.aaload, 1) := by decide +kernel
theorem dX6_isLiveChild_24 : decode cX6_isLiveChild 24 = .ok (.getfield 69, 3) := by decide +kernel
theorem dX6_isLiveChild_27 : decode cX6_isLiveChild 27 = .ok (.ifCond .eq 20, 3) := by decide +kernel
theorem dX6_isLiveChild_30 : decode cX6_isLiveChild 30 = .ok (.aload_n 0, 1) := by decide +kernel
theorem dX6_isLiveChild_31 : decode cX6_isLiveChild 31 = .ok (.getfield 11, 3) := by decide +kernel
theorem dX6_isLiveChild_34 : decode cX6_isLiveChild 34 = .ok (.iload_n 1, 1) := by decide +kernel
theorem dX6_isLiveChild_35 : decode cX6_isLiveChild 35 = .ok (.aaload, 1) := by decide +kernel
theorem dX6_isLiveChild_36 : decode cX6_isLiveChild 36 = .ok (.getfield 73, 3) := by decide +kernel
def k55_0 : List (Nat × XI) := [(0, x_iload 1 1), (1, x_iflt 47 4), (4, x_iload 1 5), (5, x_aload 0 6), (6, x_getI 6 4 9), (9, x_icge 47 12), (12, x_iload 1 13), (13, x_push (12) 15), (15, x_icge 47 18), (18, x_aload 0 19), (19, x_getR 6 0 22), (22, x_iload 1 23), (23, x_aald 24), (24, x_getI 0 6 27), (27, x_ifeq 47 30), (30, x_aload 0 31), (31, x_getR 6 0 34), (34, x_iload 1 35), (35, x_aald 36), (36, x_getI 0 0 39)]
theorem o55_0 (scr : Nat × (Nat → Int32)) : ∀ q ∈ k55_0, XSnd xm scr Y55 q.1 q.2 := xcons (s_iload_n rfl dX6_isLiveChild_0) (xcons (s_iflt dX6_isLiveChild_1 rfl) (xcons (s_iload_n rfl dX6_isLiveChild_4) (xcons (s_aload_n rfl dX6_isLiveChild_5) (xcons (s_getI (f := 4) xC6 (by decide) xw_127 rfl dX6_isLiveChild_6) (xcons (s_icge dX6_isLiveChild_9 rfl) (xcons (s_iload_n rfl dX6_isLiveChild_12) (xcons (s_bipush dX6_isLiveChild_13 rfl) (xcons (s_icge dX6_isLiveChild_15 rfl) (xcons (s_aload_n rfl dX6_isLiveChild_18) (xcons (s_getR (f := 0) xC6 (by decide) xw_137 rfl dX6_isLiveChild_19) (xcons (s_iload_n rfl dX6_isLiveChild_22) (xcons (s_aald dX6_isLiveChild_23) (xcons (s_getI (f := 6) xC0 (by decide) xw_242 rfl dX6_isLiveChild_24) (xcons (s_ifeq dX6_isLiveChild_27 rfl) (xcons (s_aload_n rfl dX6_isLiveChild_30) (xcons (s_getR (f := 0) xC6 (by decide) xw_137 rfl dX6_isLiveChild_31) (xcons (s_iload_n rfl dX6_isLiveChild_34) (xcons (s_aald dX6_isLiveChild_35) (xcons (s_getI (f := 0) xC0 (by decide) xw_145 rfl dX6_isLiveChild_36) (xnil))))))))))))))))))))
theorem dX6_isLiveChild_39 : decode cX6_isLiveChild 39 = .ok (.iload_n 2, 1) := by decide +kernel
theorem dX6_isLiveChild_40 : decode cX6_isLiveChild 40 = .ok (.if_icmp .ne 7, 3) := by decide +kernel
theorem dX6_isLiveChild_43 : decode cX6_isLiveChild 43 = .ok (.iconst 1, 1) := by decide +kernel
theorem dX6_isLiveChild_44 : decode cX6_isLiveChild 44 = .ok (.goto 4, 3) := by decide +kernel
theorem dX6_isLiveChild_47 : decode cX6_isLiveChild 47 = .ok (.iconst 0, 1) := by decide +kernel
theorem dX6_isLiveChild_48 : decode cX6_isLiveChild 48 = .ok (.ireturn, 1) := by decide +kernel
def k55_1 : List (Nat × XI) := [(39, x_iload 2 40), (40, x_icne 47 43), (43, x_push (1) 44), (44, x_goto 48), (47, x_push (0) 48), (48, x_zret)]
theorem o55_1 (scr : Nat × (Nat → Int32)) : ∀ q ∈ k55_1, XSnd xm scr Y55 q.1 q.2 := xcons (s_iload_n rfl dX6_isLiveChild_39) (xcons (s_icne dX6_isLiveChild_40 rfl) (xcons (s_iconst dX6_isLiveChild_43 rfl) (xcons (s_goto dX6_isLiveChild_44 rfl) (xcons (s_iconst dX6_isLiveChild_47 rfl) (xcons (s_zret dX6_isLiveChild_48 rfl) (xnil))))))
def k55 (pc : Nat) : XI := if pc < 39 then xlk k55_0 pc else xlk k55_1 pc
theorem o55 (scr : Nat × (Nat → Int32)) (pc : Nat) : XSnd xm scr Y55 pc (k55 pc) := by
  unfold k55
  exact xite (xlk_ok (o55_0 scr) pc) (xlk_ok (o55_1 scr) pc)
theorem dX6_isOverBudgetAbove_0 : decode cX6_isOverBudgetAbove 0 = .ok (.aload_n 0, 1) := by decide +kernel
theorem dX6_isOverBudgetAbove_1 : decode cX6_isOverBudgetAbove 1 = .ok (.iload_n 1, 1) := by decide +kernel
theorem dX6_isOverBudgetAbove_2 : decode cX6_isOverBudgetAbove 2 = .ok (.invokevirtual 82, 3) := by decide +kernel
theorem dX6_isOverBudgetAbove_5 : decode cX6_isOverBudgetAbove 5 = .ok (.ifCond .eq 19, 3) := by decide +kernel
theorem dX6_isOverBudgetAbove_8 : decode cX6_isOverBudgetAbove 8 = .ok (.aload_n 0, 1) := by decide +kernel
theorem dX6_isOverBudgetAbove_9 : decode cX6_isOverBudgetAbove 9 = .ok (.aload_n 0, 1) := by decide +kernel
theorem dX6_isOverBudgetAbove_10 : decode cX6_isOverBudgetAbove 10 = .ok (.getfield 11, 3) := by decide +kernel
theorem dX6_isOverBudgetAbove_13 : decode cX6_isOverBudgetAbove 13 = .ok (.iload_n 1, 1) := by decide +kernel
theorem dX6_isOverBudgetAbove_14 : decode cX6_isOverBudgetAbove 14 = .ok (.aaload, 1) := by decide +kernel
theorem dX6_isOverBudgetAbove_15 : decode cX6_isOverBudgetAbove 15 = .ok (.getfield 73, 3) := by decide +kernel
theorem dX6_isOverBudgetAbove_18 : decode cX6_isOverBudgetAbove 18 = .ok (.invokevirtual 82, 3) := by decide +kernel
theorem dX6_isOverBudgetAbove_21 : decode cX6_isOverBudgetAbove 21 = .ok (.ifCond .ne 5, 3) := by decide +kernel
theorem dX6_isOverBudgetAbove_24 : decode cX6_isOverBudgetAbove 24 = .ok (.iconst 0, 1) := by decide +kernel
theorem dX6_isOverBudgetAbove_25 : decode cX6_isOverBudgetAbove 25 = .ok (.ireturn, 1) := by decide +kernel
theorem dX6_isOverBudgetAbove_26 : decode cX6_isOverBudgetAbove 26 = .ok (.aload_n 0, 1) := by decide +kernel
theorem dX6_isOverBudgetAbove_27 : decode cX6_isOverBudgetAbove 27 = .ok (.getfield 11, 3) := by decide +kernel
theorem dX6_isOverBudgetAbove_30 : decode cX6_isOverBudgetAbove 30 = .ok (.aload_n 0, 1) := by decide +kernel
theorem dX6_isOverBudgetAbove_31 : decode cX6_isOverBudgetAbove 31 = .ok (.getfield 11, 3) := by decide +kernel
theorem dX6_isOverBudgetAbove_34 : decode cX6_isOverBudgetAbove 34 = .ok (.iload_n 1, 1) := by decide +kernel
theorem dX6_isOverBudgetAbove_35 : decode cX6_isOverBudgetAbove 35 = .ok (.aaload, 1) := by decide +kernel
def k56_0 : List (Nat × XI) := [(0, x_aload 0 1), (1, x_iload 1 2), (2, x_inv 53 6 1 5), (5, x_ifeq 24 8), (8, x_aload 0 9), (9, x_aload 0 10), (10, x_getR 6 0 13), (13, x_iload 1 14), (14, x_aald 15), (15, x_getI 0 0 18), (18, x_inv 53 6 1 21), (21, x_ifne 26 24), (24, x_push (0) 25), (25, x_zret), (26, x_aload 0 27), (27, x_getR 6 0 30), (30, x_aload 0 31), (31, x_getR 6 0 34), (34, x_iload 1 35), (35, x_aald 36)]
theorem o56_0 (scr : Nat × (Nat → Int32)) : ∀ q ∈ k56_0, XSnd xm scr Y56 q.1 q.2 := xcons (s_aload_n rfl dX6_isOverBudgetAbove_0) (xcons (s_iload_n rfl dX6_isOverBudgetAbove_1) (xcons (s_inv (mid := 53) xC6 cal_53 xw_130 xw_131 xw_132 dX6_isOverBudgetAbove_2) (xcons (s_ifeq dX6_isOverBudgetAbove_5 rfl) (xcons (s_aload_n rfl dX6_isOverBudgetAbove_8) (xcons (s_aload_n rfl dX6_isOverBudgetAbove_9) (xcons (s_getR (f := 0) xC6 (by decide) xw_137 rfl dX6_isOverBudgetAbove_10) (xcons (s_iload_n rfl dX6_isOverBudgetAbove_13) (xcons (s_aald dX6_isOverBudgetAbove_14) (xcons (s_getI (f := 0) xC0 (by decide) xw_145 rfl dX6_isOverBudgetAbove_15) (xcons (s_inv (mid := 53) xC6 cal_53 xw_130 xw_131 xw_132 dX6_isOverBudgetAbove_18) (xcons (s_ifne dX6_isOverBudgetAbove_21 rfl) (xcons (s_iconst dX6_isOverBudgetAbove_24 rfl) (xcons (s_zret dX6_isOverBudgetAbove_25 rfl) (xcons (s_aload_n rfl dX6_isOverBudgetAbove_26) (xcons (s_getR (f := 0) xC6 (by decide) xw_137 rfl dX6_isOverBudgetAbove_27) (xcons (s_aload_n rfl dX6_isOverBudgetAbove_30) (xcons (s_getR (f := 0) xC6 (by decide) xw_137 rfl dX6_isOverBudgetAbove_31) (xcons (s_iload_n rfl dX6_isOverBudgetAbove_34) (xcons (s_aald dX6_isOverBudgetAbove_35) (xnil))))))))))))))))))))
theorem dX6_isOverBudgetAbove_36 : decode cX6_isOverBudgetAbove 36 = .ok (.getfield 73, 3) := by decide +kernel
theorem dX6_isOverBudgetAbove_39 : decode cX6_isOverBudgetAbove 39 = .ok (.aaload, 1) := by decide +kernel
theorem dX6_isOverBudgetAbove_40 : decode cX6_isOverBudgetAbove 40 = .ok (.astore_n 2, 1) := by decide +kernel
theorem dX6_isOverBudgetAbove_41 : decode cX6_isOverBudgetAbove 41 = .ok (.aload_n 2, 1) := by decide +kernel
theorem dX6_isOverBudgetAbove_42 : decode cX6_isOverBudgetAbove 42 = .ok (.getfield 224, 3) := by decide +kernel
theorem dX6_isOverBudgetAbove_45 : decode cX6_isOverBudgetAbove 45 = .ok (.aload_n 0, 1) := by decide +kernel
theorem dX6_isOverBudgetAbove_46 : decode cX6_isOverBudgetAbove 46 = .ok (.getfield 57, 3) := by decide +kernel
theorem dX6_isOverBudgetAbove_49 : decode cX6_isOverBudgetAbove 49 = .ok (.aload_n 2, 1) := by decide +kernel
theorem dX6_isOverBudgetAbove_50 : decode cX6_isOverBudgetAbove 50 = .ok (.getfield 99, 3) := by decide +kernel
theorem dX6_isOverBudgetAbove_53 : decode cX6_isOverBudgetAbove 53 = .ok (.isub, 1) := by decide +kernel
theorem dX6_isOverBudgetAbove_54 : decode cX6_isOverBudgetAbove 54 = .ok (.invokevirtual 227, 3) := by decide +kernel
theorem dX6_isOverBudgetAbove_57 : decode cX6_isOverBudgetAbove 57 = .ok (.aload_n 2, 1) := by decide +kernel
theorem dX6_isOverBudgetAbove_58 : decode cX6_isOverBudgetAbove 58 = .ok (.getfield 224, 3) := by decide +kernel
theorem dX6_isOverBudgetAbove_61 : decode cX6_isOverBudgetAbove 61 = .ok (.aload_n 0, 1) := by decide +kernel
theorem dX6_isOverBudgetAbove_62 : decode cX6_isOverBudgetAbove 62 = .ok (.getfield 57, 3) := by decide +kernel
theorem dX6_isOverBudgetAbove_65 : decode cX6_isOverBudgetAbove 65 = .ok (.invokevirtual 188, 3) := by decide +kernel
theorem dX6_isOverBudgetAbove_68 : decode cX6_isOverBudgetAbove 68 = .ok (.pop, 1) := by decide +kernel
theorem dX6_isOverBudgetAbove_69 : decode cX6_isOverBudgetAbove 69 = .ok (.aload_n 2, 1) := by decide +kernel
theorem dX6_isOverBudgetAbove_70 : decode cX6_isOverBudgetAbove 70 = .ok (.getfield 224, 3) := by decide +kernel
theorem dX6_isOverBudgetAbove_73 : decode cX6_isOverBudgetAbove 73 = .ok (.getfield 162, 3) := by decide +kernel
def k56_1 : List (Nat × XI) := [(36, x_getI 0 0 39), (39, x_aald 40), (40, x_astore 2 41), (41, x_aload 2 42), (42, x_getR 0 11 45), (45, x_aload 0 46), (46, x_getI 6 6 49), (49, x_aload 2 50), (50, x_getI 0 4 53), (53, x_isub 54), (54, x_inv 14 2 1 57), (57, x_aload 2 58), (58, x_getR 0 11 61), (61, x_aload 0 62), (62, x_getI 6 6 65), (65, x_inv 5 2 1 68), (68, x_pop 69), (69, x_aload 2 70), (70, x_getR 0 11 73), (73, x_getI 2 1 76)]
theorem o56_1 (scr : Nat × (Nat → Int32)) : ∀ q ∈ k56_1, XSnd xm scr Y56 q.1 q.2 := xcons (s_getI (f := 0) xC0 (by decide) xw_145 rfl dX6_isOverBudgetAbove_36) (xcons (s_aald dX6_isOverBudgetAbove_39) (xcons (s_astore_n rfl dX6_isOverBudgetAbove_40 (by decide)) (xcons (s_aload_n rfl dX6_isOverBudgetAbove_41) (xcons (s_getR (f := 11) xC0 (by decide) xw_273 rfl dX6_isOverBudgetAbove_42) (xcons (s_aload_n rfl dX6_isOverBudgetAbove_45) (xcons (s_getI (f := 6) xC6 (by decide) xw_159 rfl dX6_isOverBudgetAbove_46) (xcons (s_aload_n rfl dX6_isOverBudgetAbove_49) (xcons (s_getI (f := 4) xC0 (by decide) xw_144 rfl dX6_isOverBudgetAbove_50) (xcons (s_isub dX6_isOverBudgetAbove_53) (xcons (s_inv (mid := 14) xC2 cal_14 xw_275 xw_276 xw_277 dX6_isOverBudgetAbove_54) (xcons (s_aload_n rfl dX6_isOverBudgetAbove_57) (xcons (s_getR (f := 11) xC0 (by decide) xw_273 rfl dX6_isOverBudgetAbove_58) (xcons (s_aload_n rfl dX6_isOverBudgetAbove_61) (xcons (s_getI (f := 6) xC6 (by decide) xw_159 rfl dX6_isOverBudgetAbove_62) (xcons (s_inv (mid := 5) xC2 cal_5 xw_190 xw_44 xw_45 dX6_isOverBudgetAbove_65) (xcons (s_pop dX6_isOverBudgetAbove_68) (xcons (s_aload_n rfl dX6_isOverBudgetAbove_69) (xcons (s_getR (f := 11) xC0 (by decide) xw_273 rfl dX6_isOverBudgetAbove_70) (xcons (s_getI (f := 1) xC2 (by decide) xw_165 rfl dX6_isOverBudgetAbove_73) (xnil))))))))))))))))))))
theorem dX6_isOverBudgetAbove_76 : decode cX6_isOverBudgetAbove 76 = .ok (.aload_n 2, 1) := by decide +kernel
theorem dX6_isOverBudgetAbove_77 : decode cX6_isOverBudgetAbove 77 = .ok (.getfield 96, 3) := by decide +kernel
theorem dX6_isOverBudgetAbove_80 : decode cX6_isOverBudgetAbove 80 = .ok (.if_icmp .le 7, 3) := by decide +kernel
theorem dX6_isOverBudgetAbove_83 : decode cX6_isOverBudgetAbove 83 = .ok (.iconst 1, 1) := by decide +kernel
theorem dX6_isOverBudgetAbove_84 : decode cX6_isOverBudgetAbove 84 = .ok (.goto 4, 3) := by decide +kernel
theorem dX6_isOverBudgetAbove_87 : decode cX6_isOverBudgetAbove 87 = .ok (.iconst 0, 1) := by decide +kernel
theorem dX6_isOverBudgetAbove_88 : decode cX6_isOverBudgetAbove 88 = .ok (.ireturn, 1) := by decide +kernel
def k56_2 : List (Nat × XI) := [(76, x_aload 2 77), (77, x_getI 0 3 80), (80, x_icle 87 83), (83, x_push (1) 84), (84, x_goto 88), (87, x_push (0) 88), (88, x_zret)]
theorem o56_2 (scr : Nat × (Nat → Int32)) : ∀ q ∈ k56_2, XSnd xm scr Y56 q.1 q.2 := xcons (s_aload_n rfl dX6_isOverBudgetAbove_76) (xcons (s_getI (f := 3) xC0 (by decide) xw_143 rfl dX6_isOverBudgetAbove_77) (xcons (s_icle dX6_isOverBudgetAbove_80 rfl) (xcons (s_iconst dX6_isOverBudgetAbove_83 rfl) (xcons (s_goto dX6_isOverBudgetAbove_84 rfl) (xcons (s_iconst dX6_isOverBudgetAbove_87 rfl) (xcons (s_zret dX6_isOverBudgetAbove_88 rfl) (xnil)))))))
def k56 (pc : Nat) : XI := if pc < 36 then xlk k56_0 pc else if pc < 76 then xlk k56_1 pc else xlk k56_2 pc
theorem o56 (scr : Nat × (Nat → Int32)) (pc : Nat) : XSnd xm scr Y56 pc (k56 pc) := by
  unfold k56
  exact xite (xlk_ok (o56_0 scr) pc) (xite (xlk_ok (o56_1 scr) pc) (xlk_ok (o56_2 scr) pc))
theorem dX6_isRestartedWith_0 : decode cX6_isRestartedWith 0 = .ok (.aload_n 0, 1) := by decide +kernel
theorem dX6_isRestartedWith_1 : decode cX6_isRestartedWith 1 = .ok (.iload_n 2, 1) := by decide +kernel
theorem dX6_isRestartedWith_2 : decode cX6_isRestartedWith 2 = .ok (.invokevirtual 82, 3) := by decide +kernel
theorem dX6_isRestartedWith_5 : decode cX6_isRestartedWith 5 = .ok (.ifCond .eq 36, 3) := by decide +kernel
theorem dX6_isRestartedWith_8 : decode cX6_isRestartedWith 8 = .ok (.aload_n 0, 1) := by decide +kernel
theorem dX6_isRestartedWith_9 : decode cX6_isRestartedWith 9 = .ok (.aload_n 0, 1) := by decide +kernel
theorem dX6_isRestartedWith_10 : decode cX6_isRestartedWith 10 = .ok (.getfield 11, 3) := by decide +kernel
theorem dX6_isRestartedWith_13 : decode cX6_isRestartedWith 13 = .ok (.iload_n 2, 1) := by decide +kernel
theorem dX6_isRestartedWith_14 : decode cX6_isRestartedWith 14 = .ok (.aaload, 1) := by decide +kernel
theorem dX6_isRestartedWith_15 : decode cX6_isRestartedWith 15 = .ok (.getfield 73, 3) := by decide +kernel
theorem dX6_isRestartedWith_18 : decode cX6_isRestartedWith 18 = .ok (.invokevirtual 82, 3) := by decide +kernel
theorem dX6_isRestartedWith_21 : decode cX6_isRestartedWith 21 = .ok (.ifCond .eq 20, 3) := by decide +kernel
theorem dX6_isRestartedWith_24 : decode cX6_isRestartedWith 24 = .ok (.aload_n 0, 1) := by decide +kernel
theorem dX6_isRestartedWith_25 : decode cX6_isRestartedWith 25 = .ok (.iload_n 1, 1) := by decide +kernel
theorem dX6_isRestartedWith_26 : decode cX6_isRestartedWith 26 = .ok (.aload_n 0, 1) := by decide +kernel
theorem dX6_isRestartedWith_27 : decode cX6_isRestartedWith 27 = .ok (.getfield 11, 3) := by decide +kernel
theorem dX6_isRestartedWith_30 : decode cX6_isRestartedWith 30 = .ok (.iload_n 2, 1) := by decide +kernel
theorem dX6_isRestartedWith_31 : decode cX6_isRestartedWith 31 = .ok (.aaload, 1) := by decide +kernel
theorem dX6_isRestartedWith_32 : decode cX6_isRestartedWith 32 = .ok (.getfield 73, 3) := by decide +kernel
theorem dX6_isRestartedWith_35 : decode cX6_isRestartedWith 35 = .ok (.invokevirtual 199, 3) := by decide +kernel
def k57_0 : List (Nat × XI) := [(0, x_aload 0 1), (1, x_iload 2 2), (2, x_inv 53 6 1 5), (5, x_ifeq 41 8), (8, x_aload 0 9), (9, x_aload 0 10), (10, x_getR 6 0 13), (13, x_iload 2 14), (14, x_aald 15), (15, x_getI 0 0 18), (18, x_inv 53 6 1 21), (21, x_ifeq 41 24), (24, x_aload 0 25), (25, x_iload 1 26), (26, x_aload 0 27), (27, x_getR 6 0 30), (30, x_iload 2 31), (31, x_aald 32), (32, x_getI 0 0 35), (35, x_inv 55 6 2 38)]
theorem o57_0 (scr : Nat × (Nat → Int32)) : ∀ q ∈ k57_0, XSnd xm scr Y57 q.1 q.2 := xcons (s_aload_n rfl dX6_isRestartedWith_0) (xcons (s_iload_n rfl dX6_isRestartedWith_1) (xcons (s_inv (mid := 53) xC6 cal_53 xw_130 xw_131 xw_132 dX6_isRestartedWith_2) (xcons (s_ifeq dX6_isRestartedWith_5 rfl) (xcons (s_aload_n rfl dX6_isRestartedWith_8) (xcons (s_aload_n rfl dX6_isRestartedWith_9) (xcons (s_getR (f := 0) xC6 (by decide) xw_137 rfl dX6_isRestartedWith_10) (xcons (s_iload_n rfl dX6_isRestartedWith_13) (xcons (s_aald dX6_isRestartedWith_14) (xcons (s_getI (f := 0) xC0 (by decide) xw_145 rfl dX6_isRestartedWith_15) (xcons (s_inv (mid := 53) xC6 cal_53 xw_130 xw_131 xw_132 dX6_isRestartedWith_18) (xcons (s_ifeq dX6_isRestartedWith_21 rfl) (xcons (s_aload_n rfl dX6_isRestartedWith_24) (xcons (s_iload_n rfl dX6_isRestartedWith_25) (xcons (s_aload_n rfl dX6_isRestartedWith_26) (xcons (s_getR (f := 0) xC6 (by decide) xw_137 rfl dX6_isRestartedWith_27) (xcons (s_iload_n rfl dX6_isRestartedWith_30) (xcons (s_aald dX6_isRestartedWith_31) (xcons (s_getI (f := 0) xC0 (by decide) xw_145 rfl dX6_isRestartedWith_32) (xcons (s_inv (mid := 55) xC6 cal_55 xw_235 xw_236 xw_237 dX6_isRestartedWith_35) (xnil))))))))))))))))))))
theorem dX6_isRestartedWith_38 : decode cX6_isRestartedWith 38 = .ok (.ifCond .ne 5, 3) := by decide +kernel
theorem dX6_isRestartedWith_41 : decode cX6_isRestartedWith 41 = .ok (.iconst 0, 1) := by decide +kernel
theorem dX6_isRestartedWith_42 : decode cX6_isRestartedWith 42 = .ok (.ireturn, 1) := by decide +kernel
theorem dX6_isRestartedWith_43 : decode cX6_isRestartedWith 43 = .ok (.aload_n 0, 1) := by decide +kernel
theorem dX6_isRestartedWith_44 : decode cX6_isRestartedWith 44 = .ok (.getfield 11, 3) := by decide +kernel
theorem dX6_isRestartedWith_47 : decode cX6_isRestartedWith 47 = .ok (.aload_n 0, 1) := by decide +kernel
theorem dX6_isRestartedWith_48 : decode cX6_isRestartedWith 48 = .ok (.getfield 11, 3) := by decide +kernel
theorem dX6_isRestartedWith_51 : decode cX6_isRestartedWith 51 = .ok (.iload_n 2, 1) := by decide +kernel
theorem dX6_isRestartedWith_52 : decode cX6_isRestartedWith 52 = .ok (.aaload, 1) := by decide +kernel
theorem dX6_isRestartedWith_53 : decode cX6_isRestartedWith 53 = .ok (.getfield 73, 3) := by decide +kernel
theorem dX6_isRestartedWith_56 : decode cX6_isRestartedWith 56 = .ok (.aaload, 1) := by decide +kernel
theorem dX6_isRestartedWith_57 : decode cX6_isRestartedWith 57 = .ok (.getfield 93, 3) := by decide +kernel
theorem dX6_isRestartedWith_60 : decode cX6_isRestartedWith 60 = .ok (.istore_n 3, 1) := by decide +kernel
theorem dX6_isRestartedWith_61 : decode cX6_isRestartedWith 61 = .ok (.iload_n 1, 1) := by decide +kernel
theorem dX6_isRestartedWith_62 : decode cX6_isRestartedWith 62 = .ok (.iload_n 2, 1) := by decide +kernel
theorem dX6_isRestartedWith_63 : decode cX6_isRestartedWith 63 = .ok (.if_icmp .eq 18, 3) := by decide +kernel
theorem dX6_isRestartedWith_66 : decode cX6_isRestartedWith 66 = .ok (.iload_n 3, 1) := by decide +kernel
theorem dX6_isRestartedWith_67 : decode cX6_isRestartedWith 67 = .ok (.iconst 1, 1) := by decide +kernel
theorem dX6_isRestartedWith_68 : decode cX6_isRestartedWith 68 = .ok (.if_icmp .eq 13, 3) := by decide +kernel
theorem dX6_isRestartedWith_71 : decode cX6_isRestartedWith 71 = .ok (.iload_n 3, 1) := by decide +kernel
def k57_1 : List (Nat × XI) := [(38, x_ifne 43 41), (41, x_push (0) 42), (42, x_zret), (43, x_aload 0 44), (44, x_getR 6 0 47), (47, x_aload 0 48), (48, x_getR 6 0 51), (51, x_iload 2 52), (52, x_aald 53), (53, x_getI 0 0 56), (56, x_aald 57), (57, x_getI 0 2 60), (60, x_istore 3 61), (61, x_iload 1 62), (62, x_iload 2 63), (63, x_iceq 81 66), (66, x_iload 3 67), (67, x_push (1) 68), (68, x_iceq 81 71), (71, x_iload 3 72)]
theorem o57_1 (scr : Nat × (Nat → Int32)) : ∀ q ∈ k57_1, XSnd xm scr Y57 q.1 q.2 := xcons (s_ifne dX6_isRestartedWith_38 rfl) (xcons (s_iconst dX6_isRestartedWith_41 rfl) (xcons (s_zret dX6_isRestartedWith_42 rfl) (xcons (s_aload_n rfl dX6_isRestartedWith_43) (xcons (s_getR (f := 0) xC6 (by decide) xw_137 rfl dX6_isRestartedWith_44) (xcons (s_aload_n rfl dX6_isRestartedWith_47) (xcons (s_getR (f := 0) xC6 (by decide) xw_137 rfl dX6_isRestartedWith_48) (xcons (s_iload_n rfl dX6_isRestartedWith_51) (xcons (s_aald dX6_isRestartedWith_52) (xcons (s_getI (f := 0) xC0 (by decide) xw_145 rfl dX6_isRestartedWith_53) (xcons (s_aald dX6_isRestartedWith_56) (xcons (s_getI (f := 2) xC0 (by decide) xw_142 rfl dX6_isRestartedWith_57) (xcons (s_istore_n rfl dX6_isRestartedWith_60 (by decide)) (xcons (s_iload_n rfl dX6_isRestartedWith_61) (xcons (s_iload_n rfl dX6_isRestartedWith_62) (xcons (s_iceq dX6_isRestartedWith_63 rfl) (xcons (s_iload_n rfl dX6_isRestartedWith_66) (xcons (s_iconst dX6_isRestartedWith_67 rfl) (xcons (s_iceq dX6_isRestartedWith_68 rfl) (xcons (s_iload_n rfl dX6_isRestartedWith_71) (xnil))))))))))))))))))))
theorem dX6_isRestartedWith_72 : decode cX6_isRestartedWith 72 = .ok (.iconst 2, 1) := by decide +kernel
theorem dX6_isRestartedWith_73 : decode cX6_isRestartedWith 73 = .ok (.if_icmp .ne 12, 3) := by decide +kernel
theorem dX6_isRestartedWith_76 : decode cX6_isRestartedWith 76 = .ok (.iload_n 1, 1) := by decide +kernel
theorem dX6_isRestartedWith_77 : decode cX6_isRestartedWith 77 = .ok (.iload_n 2, 1) := by decide +kernel
theorem dX6_isRestartedWith_78 : decode cX6_isRestartedWith 78 = .ok (.if_icmp .le 7, 3) := by decide +kernel
theorem dX6_isRestartedWith_81 : decode cX6_isRestartedWith 81 = .ok (.iconst 1, 1) := by decide +kernel
theorem dX6_isRestartedWith_82 : decode cX6_isRestartedWith 82 = .ok (.goto 4, 3) := by decide +kernel
theorem dX6_isRestartedWith_85 : decode cX6_isRestartedWith 85 = .ok (.iconst 0, 1) := by decide +kernel
theorem dX6_isRestartedWith_86 : decode cX6_isRestartedWith 86 = .ok (.ireturn, 1) := by decide +kernel
def k57_2 : List (Nat × XI) := [(72, x_push (2) 73), (73, x_icne 85 76), (76, x_iload 1 77), (77, x_iload 2 78), (78, x_icle 85 81), (81, x_push (1) 82), (82, x_goto 86), (85, x_push (0) 86), (86, x_zret)]
theorem o57_2 (scr : Nat × (Nat → Int32)) : ∀ q ∈ k57_2, XSnd xm scr Y57 q.1 q.2 := xcons (s_iconst dX6_isRestartedWith_72 rfl) (xcons (s_icne dX6_isRestartedWith_73 rfl) (xcons (s_iload_n rfl dX6_isRestartedWith_76) (xcons (s_iload_n rfl dX6_isRestartedWith_77) (xcons (s_icle dX6_isRestartedWith_78 rfl) (xcons (s_iconst dX6_isRestartedWith_81 rfl) (xcons (s_goto dX6_isRestartedWith_82 rfl) (xcons (s_iconst dX6_isRestartedWith_85 rfl) (xcons (s_zret dX6_isRestartedWith_86 rfl) (xnil)))))))))
def k57 (pc : Nat) : XI := if pc < 38 then xlk k57_0 pc else if pc < 72 then xlk k57_1 pc else xlk k57_2 pc
theorem o57 (scr : Nat × (Nat → Int32)) (pc : Nat) : XSnd xm scr Y57 pc (k57 pc) := by
  unfold k57
  exact xite (xlk_ok (o57_0 scr) pc) (xite (xlk_ok (o57_1 scr) pc) (xlk_ok (o57_2 scr) pc))
theorem dX6_liveBits_0 : decode cX6_liveBits 0 = .ok (.iconst 0, 1) := by decide +kernel
theorem dX6_liveBits_1 : decode cX6_liveBits 1 = .ok (.istore_n 1, 1) := by decide +kernel
theorem dX6_liveBits_2 : decode cX6_liveBits 2 = .ok (.iconst 0, 1) := by decide +kernel
theorem dX6_liveBits_3 : decode cX6_liveBits 3 = .ok (.istore_n 2, 1) := by decide +kernel
theorem dX6_liveBits_4 : decode cX6_liveBits 4 = .ok (.iload_n 2, 1) := by decide +kernel
theorem dX6_liveBits_5 : decode cX6_liveBits 5 = .ok (.aload_n 0, 1) := by decide +kernel
theorem dX6_liveBits_6 : decode cX6_liveBits 6 = .ok (.getfield 44, 3) := by decide +kernel
theorem dX6_liveBits_9 : decode cX6_liveBits 9 = .ok (.if_icmp .ge 37, 3) := by decide +kernel
theorem dX6_liveBits_12 : decode cX6_liveBits 12 = .ok (.iload_n 2, 1) := by decide +kernel
theorem dX6_liveBits_13 : decode cX6_liveBits 13 = .ok (.bipush 12, 2) := by decide +kernel
theorem dX6_liveBits_15 : decode cX6_liveBits 15 = .ok (.if_icmp .ge 31, 3) := by decide +kernel
theorem dX6_liveBits_18 : decode cX6_liveBits 18 = .ok (.iload_n 1, 1) := by decide +kernel
theorem dX6_liveBits_19 : decode cX6_liveBits 19 = .ok (.aload_n 0, 1) := by decide +kernel
theorem dX6_liveBits_20 : decode cX6_liveBits 20 = .ok (.getfield 11, 3) := by decide +kernel
theorem dX6_liveBits_23 : decode cX6_liveBits 23 = .ok (.iload_n 2, 1) := by decide +kernel
theorem dX6_liveBits_24 : decode cX6_liveBits 24 = .ok (.aaload, 1) := by decide +kernel
theorem dX6_liveBits_25 : decode cX6_liveBits 25 = .ok (.getfield 69, 3) := by decide +kernel
theorem dX6_liveBits_28 : decode cX6_liveBits 28 = .ok (.ifCond .eq 9, 3) := by decide +kernel
theorem dX6_liveBits_31 : decode cX6_liveBits 31 = .ok (.iconst 1, 1) := by decide +kernel
theorem dX6_liveBits_32 : decode cX6_liveBits 32 = .ok (.iload_n 2, 1) := by decide +kernel
def k58_0 : List (Nat × XI) := [(0, x_push (0) 1), (1, x_istore 1 2), (2, x_push (0) 3), (3, x_istore 2 4), (4, x_iload 2 5), (5, x_aload 0 6), (6, x_getI 6 4 9), (9, x_icge 46 12), (12, x_iload 2 13), (13, x_push (12) 15), (15, x_icge 46 18), (18, x_iload 1 19), (19, x_aload 0 20), (20, x_getR 6 0 23), (23, x_iload 2 24), (24, x_aald 25), (25, x_getI 0 6 28), (28, x_ifeq 37 31), (31, x_push (1) 32), (32, x_iload 2 33)]
theorem o58_0 (scr : Nat × (Nat → Int32)) : ∀ q ∈ k58_0, XSnd xm scr Y58 q.1 q.2 := xcons (s_iconst dX6_liveBits_0 rfl) (xcons (s_istore_n rfl dX6_liveBits_1 (by decide)) (xcons (s_iconst dX6_liveBits_2 rfl) (xcons (s_istore_n rfl dX6_liveBits_3 (by decide)) (xcons (s_iload_n rfl dX6_liveBits_4) (xcons (s_aload_n rfl dX6_liveBits_5) (xcons (s_getI (f := 4) xC6 (by decide) xw_127 rfl dX6_liveBits_6) (xcons (s_icge dX6_liveBits_9 rfl) (xcons (s_iload_n rfl dX6_liveBits_12) (xcons (s_bipush dX6_liveBits_13 rfl) (xcons (s_icge dX6_liveBits_15 rfl) (xcons (s_iload_n rfl dX6_liveBits_18) (xcons (s_aload_n rfl dX6_liveBits_19) (xcons (s_getR (f := 0) xC6 (by decide) xw_137 rfl dX6_liveBits_20) (xcons (s_iload_n rfl dX6_liveBits_23) (xcons (s_aald dX6_liveBits_24) (xcons (s_getI (f := 6) xC0 (by decide) xw_242 rfl dX6_liveBits_25) (xcons (s_ifeq dX6_liveBits_28 rfl) (xcons (s_iconst dX6_liveBits_31 rfl) (xcons (s_iload_n rfl dX6_liveBits_32) (xnil))))))))))))))))))))
theorem dX6_liveBits_33 : decode cX6_liveBits 33 = .ok (.ishl, 1) := by decide +kernel
theorem dX6_liveBits_34 : decode cX6_liveBits 34 = .ok (.goto 4, 3) := by decide +kernel
theorem dX6_liveBits_37 : decode cX6_liveBits 37 = .ok (.iconst 0, 1) := by decide +kernel
theorem dX6_liveBits_38 : decode cX6_liveBits 38 = .ok (.ior, 1) := by decide +kernel
theorem dX6_liveBits_39 : decode cX6_liveBits 39 = .ok (.istore_n 1, 1) := by decide +kernel
theorem dX6_liveBits_40 : decode cX6_liveBits 40 = .ok (.iinc 2 1, 3) := by decide +kernel
theorem dX6_liveBits_43 : decode cX6_liveBits 43 = .ok (.goto (-39), 3) := by decide +kernel
theorem dX6_liveBits_46 : decode cX6_liveBits 46 = .ok (.iload_n 1, 1) := by decide +kernel
theorem dX6_liveBits_47 : decode cX6_liveBits 47 = .ok (.ireturn, 1) := by decide +kernel
def k58_1 : List (Nat × XI) := [(33, x_ishl 34), (34, x_goto 38), (37, x_push (0) 38), (38, x_ior 39), (39, x_istore 1 40), (40, x_iinc 2 (1) 43), (43, x_goto 4), (46, x_iload 1 47), (47, x_iret)]
theorem o58_1 (scr : Nat × (Nat → Int32)) : ∀ q ∈ k58_1, XSnd xm scr Y58 q.1 q.2 := xcons (s_ishl dX6_liveBits_33) (xcons (s_goto dX6_liveBits_34 rfl) (xcons (s_iconst dX6_liveBits_37 rfl) (xcons (s_ior dX6_liveBits_38) (xcons (s_istore_n rfl dX6_liveBits_39 (by decide)) (xcons (s_iinc dX6_liveBits_40 rfl (by decide)) (xcons (s_goto dX6_liveBits_43 rfl) (xcons (s_iload_n rfl dX6_liveBits_46) (xcons (s_iret dX6_liveBits_47 rfl) (xnil)))))))))
def k58 (pc : Nat) : XI := if pc < 33 then xlk k58_0 pc else xlk k58_1 pc
theorem o58 (scr : Nat × (Nat → Int32)) (pc : Nat) : XSnd xm scr Y58 pc (k58 pc) := by
  unfold k58
  exact xite (xlk_ok (o58_0 scr) pc) (xlk_ok (o58_1 scr) pc)
theorem dX6_mailed_0 : decode cX6_mailed 0 = .ok (.iconst 0, 1) := by decide +kernel
theorem dX6_mailed_1 : decode cX6_mailed 1 = .ok (.istore_n 1, 1) := by decide +kernel
theorem dX6_mailed_2 : decode cX6_mailed 2 = .ok (.iconst 0, 1) := by decide +kernel
theorem dX6_mailed_3 : decode cX6_mailed 3 = .ok (.istore_n 2, 1) := by decide +kernel
theorem dX6_mailed_4 : decode cX6_mailed 4 = .ok (.iload_n 2, 1) := by decide +kernel
theorem dX6_mailed_5 : decode cX6_mailed 5 = .ok (.aload_n 0, 1) := by decide +kernel
theorem dX6_mailed_6 : decode cX6_mailed 6 = .ok (.getfield 44, 3) := by decide +kernel
theorem dX6_mailed_9 : decode cX6_mailed 9 = .ok (.if_icmp .ge 30, 3) := by decide +kernel
theorem dX6_mailed_12 : decode cX6_mailed 12 = .ok (.iload_n 2, 1) := by decide +kernel
theorem dX6_mailed_13 : decode cX6_mailed 13 = .ok (.bipush 12, 2) := by decide +kernel
theorem dX6_mailed_15 : decode cX6_mailed 15 = .ok (.if_icmp .ge 24, 3) := by decide +kernel
theorem dX6_mailed_18 : decode cX6_mailed 18 = .ok (.iload_n 1, 1) := by decide +kernel
theorem dX6_mailed_19 : decode cX6_mailed 19 = .ok (.aload_n 0, 1) := by decide +kernel
theorem dX6_mailed_20 : decode cX6_mailed 20 = .ok (.getfield 11, 3) := by decide +kernel
theorem dX6_mailed_23 : decode cX6_mailed 23 = .ok (.iload_n 2, 1) := by decide +kernel
theorem dX6_mailed_24 : decode cX6_mailed 24 = .ok (.aaload, 1) := by decide +kernel
theorem dX6_mailed_25 : decode cX6_mailed 25 = .ok (.getfield 76, 3) := by decide +kernel
theorem dX6_mailed_28 : decode cX6_mailed 28 = .ok (.getfield 79, 3) := by decide +kernel
theorem dX6_mailed_31 : decode cX6_mailed 31 = .ok (.iadd, 1) := by decide +kernel
theorem dX6_mailed_32 : decode cX6_mailed 32 = .ok (.istore_n 1, 1) := by decide +kernel
def k59_0 : List (Nat × XI) := [(0, x_push (0) 1), (1, x_istore 1 2), (2, x_push (0) 3), (3, x_istore 2 4), (4, x_iload 2 5), (5, x_aload 0 6), (6, x_getI 6 4 9), (9, x_icge 39 12), (12, x_iload 2 13), (13, x_push (12) 15), (15, x_icge 39 18), (18, x_iload 1 19), (19, x_aload 0 20), (20, x_getR 6 0 23), (23, x_iload 2 24), (24, x_aald 25), (25, x_getR 0 8 28), (28, x_getI 3 2 31), (31, x_iadd 32), (32, x_istore 1 33)]
theorem o59_0 (scr : Nat × (Nat → Int32)) : ∀ q ∈ k59_0, XSnd xm scr Y59 q.1 q.2 := xcons (s_iconst dX6_mailed_0 rfl) (xcons (s_istore_n rfl dX6_mailed_1 (by decide)) (xcons (s_iconst dX6_mailed_2 rfl) (xcons (s_istore_n rfl dX6_mailed_3 (by decide)) (xcons (s_iload_n rfl dX6_mailed_4) (xcons (s_aload_n rfl dX6_mailed_5) (xcons (s_getI (f := 4) xC6 (by decide) xw_127 rfl dX6_mailed_6) (xcons (s_icge dX6_mailed_9 rfl) (xcons (s_iload_n rfl dX6_mailed_12) (xcons (s_bipush dX6_mailed_13 rfl) (xcons (s_icge dX6_mailed_15 rfl) (xcons (s_iload_n rfl dX6_mailed_18) (xcons (s_aload_n rfl dX6_mailed_19) (xcons (s_getR (f := 0) xC6 (by decide) xw_137 rfl dX6_mailed_20) (xcons (s_iload_n rfl dX6_mailed_23) (xcons (s_aald dX6_mailed_24) (xcons (s_getR (f := 8) xC0 (by decide) xw_243 rfl dX6_mailed_25) (xcons (s_getI (f := 2) xC3 (by decide) xw_204 rfl dX6_mailed_28) (xcons (s_iadd dX6_mailed_31) (xcons (s_istore_n rfl dX6_mailed_32 (by decide)) (xnil))))))))))))))))))))
theorem dX6_mailed_33 : decode cX6_mailed 33 = .ok (.iinc 2 1, 3) := by decide +kernel
theorem dX6_mailed_36 : decode cX6_mailed 36 = .ok (.goto (-32), 3) := by decide +kernel
theorem dX6_mailed_39 : decode cX6_mailed 39 = .ok (.iload_n 1, 1) := by decide +kernel
theorem dX6_mailed_40 : decode cX6_mailed 40 = .ok (.ireturn, 1) := by decide +kernel
def k59_1 : List (Nat × XI) := [(33, x_iinc 2 (1) 36), (36, x_goto 4), (39, x_iload 1 40), (40, x_iret)]
theorem o59_1 (scr : Nat × (Nat → Int32)) : ∀ q ∈ k59_1, XSnd xm scr Y59 q.1 q.2 := xcons (s_iinc dX6_mailed_33 rfl (by decide)) (xcons (s_goto dX6_mailed_36 rfl) (xcons (s_iload_n rfl dX6_mailed_39) (xcons (s_iret dX6_mailed_40 rfl) (xnil))))
def k59 (pc : Nat) : XI := if pc < 33 then xlk k59_0 pc else xlk k59_1 pc
theorem o59 (scr : Nat × (Nat → Int32)) (pc : Nat) : XSnd xm scr Y59 pc (k59 pc) := by
  unfold k59
  exact xite (xlk_ok (o59_0 scr) pc) (xlk_ok (o59_1 scr) pc)
