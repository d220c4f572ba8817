/-! 09e: the code, instruction by instruction -/
theorem dX8_cause_0 : decode cX8_cause 0 = .ok (.iload_n 1, 1) := by decide +kernel
theorem dX8_cause_1 : decode cX8_cause 1 = .ok (.ifCond .lt 12, 3) := by decide +kernel
theorem dX8_cause_4 : decode cX8_cause 4 = .ok (.iload_n 2, 1) := by decide +kernel
theorem dX8_cause_5 : decode cX8_cause 5 = .ok (.iconst 0, 1) := by decide +kernel
theorem dX8_cause_6 : decode cX8_cause 6 = .ok (.iconst 1, 1) := by decide +kernel
theorem dX8_cause_7 : decode cX8_cause 7 = .ok (.invokestatic 51, 3) := by decide +kernel
theorem dX8_cause_10 : decode cX8_cause 10 = .ok (.ifCond .ne 5, 3) := by decide +kernel
theorem dX8_cause_13 : decode cX8_cause 13 = .ok (.iconst (-1), 1) := by decide +kernel
theorem dX8_cause_14 : decode cX8_cause 14 = .ok (.ireturn, 1) := by decide +kernel
theorem dX8_cause_15 : decode cX8_cause 15 = .ok (.iload_n 1, 1) := by decide +kernel
theorem dX8_cause_16 : decode cX8_cause 16 = .ok (.aload_n 0, 1) := by decide +kernel
theorem dX8_cause_17 : decode cX8_cause 17 = .ok (.getfield 9, 3) := by decide +kernel
theorem dX8_cause_20 : decode cX8_cause 20 = .ok (.sipush 993, 3) := by decide +kernel
theorem dX8_cause_23 : decode cX8_cause 23 = .ok (.iaload, 1) := by decide +kernel
theorem dX8_cause_24 : decode cX8_cause 24 = .ok (.if_icmp .ge 20, 3) := by decide +kernel
theorem dX8_cause_27 : decode cX8_cause 27 = .ok (.aload_n 0, 1) := by decide +kernel
theorem dX8_cause_28 : decode cX8_cause 28 = .ok (.getfield 9, 3) := by decide +kernel
theorem dX8_cause_31 : decode cX8_cause 31 = .ok (.sipush 994, 3) := by decide +kernel
theorem dX8_cause_34 : decode cX8_cause 34 = .ok (.iconst 2, 1) := by decide +kernel
theorem dX8_cause_35 : decode cX8_cause 35 = .ok (.iload_n 1, 1) := by decide +kernel
def k113_0 : List (Nat × XI) := [(0, x_iload 1 1), (1, x_iflt 13 4), (4, x_iload 2 5), (5, x_push (0) 6), (6, x_push (1) 7), (7, x_invS 134 3 10), (10, x_ifne 15 13), (13, x_push (-1) 14), (14, x_iret), (15, x_iload 1 16), (16, x_aload 0 17), (17, x_getR 8 0 20), (20, x_push (993) 23), (23, x_iald 24), (24, x_icge 44 27), (27, x_aload 0 28), (28, x_getR 8 0 31), (31, x_push (994) 34), (34, x_push (2) 35), (35, x_iload 1 36)]
theorem o113_0 (scr : Nat × (Nat → Int32)) : ∀ q ∈ k113_0, XSnd xm scr Y113 q.1 q.2 := xcons (s_iload_n rfl dX8_cause_0) (xcons (s_iflt dX8_cause_1 rfl) (xcons (s_iload_n rfl dX8_cause_4) (xcons (s_iconst dX8_cause_5 rfl) (xcons (s_iconst dX8_cause_6 rfl) (xcons (s_invS (mid := 134) cal_134 xw_487 xw_488 dX8_cause_7) (xcons (s_ifne dX8_cause_10 rfl) (xcons (s_iconst dX8_cause_13 rfl) (xcons (s_iret dX8_cause_14 rfl) (xcons (s_iload_n rfl dX8_cause_15) (xcons (s_aload_n rfl dX8_cause_16) (xcons (s_getR (f := 0) xC8 (by decide) xw_470 rfl dX8_cause_17) (xcons (s_sipush dX8_cause_20 rfl) (xcons (s_iald dX8_cause_23) (xcons (s_icge dX8_cause_24 rfl) (xcons (s_aload_n rfl dX8_cause_27) (xcons (s_getR (f := 0) xC8 (by decide) xw_470 rfl dX8_cause_28) (xcons (s_sipush dX8_cause_31 rfl) (xcons (s_iconst dX8_cause_34 rfl) (xcons (s_iload_n rfl dX8_cause_35) (xnil))))))))))))))))))))
theorem dX8_cause_36 : decode cX8_cause 36 = .ok (.imul, 1) := by decide +kernel
theorem dX8_cause_37 : decode cX8_cause 37 = .ok (.iadd, 1) := by decide +kernel
theorem dX8_cause_38 : decode cX8_cause 38 = .ok (.iload_n 2, 1) := by decide +kernel
theorem dX8_cause_39 : decode cX8_cause 39 = .ok (.iadd, 1) := by decide +kernel
theorem dX8_cause_40 : decode cX8_cause 40 = .ok (.iaload, 1) := by decide +kernel
theorem dX8_cause_41 : decode cX8_cause 41 = .ok (.goto 5, 3) := by decide +kernel
theorem dX8_cause_44 : decode cX8_cause 44 = .ok (.bipush (-2), 2) := by decide +kernel
theorem dX8_cause_46 : decode cX8_cause 46 = .ok (.ireturn, 1) := by decide +kernel
def k113_1 : List (Nat × XI) := [(36, x_imul 37), (37, x_iadd 38), (38, x_iload 2 39), (39, x_iadd 40), (40, x_iald 41), (41, x_goto 46), (44, x_push (-2) 46), (46, x_iret)]
theorem o113_1 (scr : Nat × (Nat → Int32)) : ∀ q ∈ k113_1, XSnd xm scr Y113 q.1 q.2 := xcons (s_imul dX8_cause_36) (xcons (s_iadd dX8_cause_37) (xcons (s_iload_n rfl dX8_cause_38) (xcons (s_iadd dX8_cause_39) (xcons (s_iald dX8_cause_40) (xcons (s_goto dX8_cause_41 rfl) (xcons (s_bipush dX8_cause_44 rfl) (xcons (s_iret dX8_cause_46 rfl) (xnil))))))))
def k113 (pc : Nat) : XI := if pc < 36 then xlk k113_0 pc else xlk k113_1 pc
theorem o113 (scr : Nat × (Nat → Int32)) (pc : Nat) : XSnd xm scr Y113 pc (k113 pc) := by
  unfold k113
  exact xite (xlk_ok (o113_0 scr) pc) (xlk_ok (o113_1 scr) pc)
theorem dX8_childrenOf_0 : decode cX8_childrenOf 0 = .ok (.iconst 0, 1) := by decide +kernel
theorem dX8_childrenOf_1 : decode cX8_childrenOf 1 = .ok (.istore_n 2, 1) := by decide +kernel
theorem dX8_childrenOf_2 : decode cX8_childrenOf 2 = .ok (.iconst 0, 1) := by decide +kernel
theorem dX8_childrenOf_3 : decode cX8_childrenOf 3 = .ok (.istore_n 3, 1) := by decide +kernel
theorem dX8_childrenOf_4 : decode cX8_childrenOf 4 = .ok (.iload_n 3, 1) := by decide +kernel
theorem dX8_childrenOf_5 : decode cX8_childrenOf 5 = .ok (.aload_n 0, 1) := by decide +kernel
theorem dX8_childrenOf_6 : decode cX8_childrenOf 6 = .ok (.getfield 9, 3) := by decide +kernel
theorem dX8_childrenOf_9 : decode cX8_childrenOf 9 = .ok (.sipush 924, 3) := by decide +kernel
theorem dX8_childrenOf_12 : decode cX8_childrenOf 12 = .ok (.iaload, 1) := by decide +kernel
theorem dX8_childrenOf_13 : decode cX8_childrenOf 13 = .ok (.if_icmp .ge 29, 3) := by decide +kernel
theorem dX8_childrenOf_16 : decode cX8_childrenOf 16 = .ok (.iload_n 2, 1) := by decide +kernel
theorem dX8_childrenOf_17 : decode cX8_childrenOf 17 = .ok (.aload_n 0, 1) := by decide +kernel
theorem dX8_childrenOf_18 : decode cX8_childrenOf 18 = .ok (.iload_n 3, 1) := by decide +kernel
theorem dX8_childrenOf_19 : decode cX8_childrenOf 19 = .ok (.iconst 0, 1) := by decide +kernel
theorem dX8_childrenOf_20 : decode cX8_childrenOf 20 = .ok (.invokevirtual 55, 3) := by decide +kernel
theorem dX8_childrenOf_23 : decode cX8_childrenOf 23 = .ok (.iload_n 1, 1) := by decide +kernel
theorem dX8_childrenOf_24 : decode cX8_childrenOf 24 = .ok (.if_icmp .ne 9, 3) := by decide +kernel
theorem dX8_childrenOf_27 : decode cX8_childrenOf 27 = .ok (.iconst 1, 1) := by decide +kernel
theorem dX8_childrenOf_28 : decode cX8_childrenOf 28 = .ok (.iload_n 3, 1) := by decide +kernel
theorem dX8_childrenOf_29 : decode cX8_childrenOf 29 = .ok (.ishl, 1) := by decide +kernel
def k114_0 : List (Nat × XI) := [(0, x_push (0) 1), (1, x_istore 2 2), (2, x_push (0) 3), (3, x_istore 3 4), (4, x_iload 3 5), (5, x_aload 0 6), (6, x_getR 8 0 9), (9, x_push (924) 12), (12, x_iald 13), (13, x_icge 42 16), (16, x_iload 2 17), (17, x_aload 0 18), (18, x_iload 3 19), (19, x_push (0) 20), (20, x_inv 108 8 2 23), (23, x_iload 1 24), (24, x_icne 33 27), (27, x_push (1) 28), (28, x_iload 3 29), (29, x_ishl 30)]
theorem o114_0 (scr : Nat × (Nat → Int32)) : ∀ q ∈ k114_0, XSnd xm scr Y114 q.1 q.2 := xcons (s_iconst dX8_childrenOf_0 rfl) (xcons (s_istore_n rfl dX8_childrenOf_1 (by decide)) (xcons (s_iconst dX8_childrenOf_2 rfl) (xcons (s_istore_n rfl dX8_childrenOf_3 (by decide)) (xcons (s_iload_n rfl dX8_childrenOf_4) (xcons (s_aload_n rfl dX8_childrenOf_5) (xcons (s_getR (f := 0) xC8 (by decide) xw_470 rfl dX8_childrenOf_6) (xcons (s_sipush dX8_childrenOf_9 rfl) (xcons (s_iald dX8_childrenOf_12) (xcons (s_icge dX8_childrenOf_13 rfl) (xcons (s_iload_n rfl dX8_childrenOf_16) (xcons (s_aload_n rfl dX8_childrenOf_17) (xcons (s_iload_n rfl dX8_childrenOf_18) (xcons (s_iconst dX8_childrenOf_19 rfl) (xcons (s_inv (mid := 108) xC8 cal_108 xw_508 xw_509 xw_510 dX8_childrenOf_20) (xcons (s_iload_n rfl dX8_childrenOf_23) (xcons (s_icne dX8_childrenOf_24 rfl) (xcons (s_iconst dX8_childrenOf_27 rfl) (xcons (s_iload_n rfl dX8_childrenOf_28) (xcons (s_ishl dX8_childrenOf_29) (xnil))))))))))))))))))))
theorem dX8_childrenOf_30 : decode cX8_childrenOf 30 = .ok (.goto 4, 3) := by decide +kernel
theorem dX8_childrenOf_33 : decode cX8_childrenOf 33 = .ok (.iconst 0, 1) := by decide +kernel
theorem dX8_childrenOf_34 : decode cX8_childrenOf 34 = .ok (.ior, 1) := by decide +kernel
theorem dX8_childrenOf_35 : decode cX8_childrenOf 35 = .ok (.istore_n 2, 1) := by decide +kernel
theorem dX8_childrenOf_36 : decode cX8_childrenOf 36 = .ok (.iinc 3 1, 3) := by decide +kernel
theorem dX8_childrenOf_39 : decode cX8_childrenOf 39 = .ok (.goto (-35), 3) := by decide +kernel
theorem dX8_childrenOf_42 : decode cX8_childrenOf 42 = .ok (.iload_n 2, 1) := by decide +kernel
theorem dX8_childrenOf_43 : decode cX8_childrenOf 43 = .ok (.ireturn, 1) := by decide +kernel
def k114_1 : List (Nat × XI) := [(30, x_goto 34), (33, x_push (0) 34), (34, x_ior 35), (35, x_istore 2 36), (36, x_iinc 3 (1) 39), (39, x_goto 4), (42, x_iload 2 43), (43, x_iret)]
theorem o114_1 (scr : Nat × (Nat → Int32)) : ∀ q ∈ k114_1, XSnd xm scr Y114 q.1 q.2 := xcons (s_goto dX8_childrenOf_30 rfl) (xcons (s_iconst dX8_childrenOf_33 rfl) (xcons (s_ior dX8_childrenOf_34) (xcons (s_istore_n rfl dX8_childrenOf_35 (by decide)) (xcons (s_iinc dX8_childrenOf_36 rfl (by decide)) (xcons (s_goto dX8_childrenOf_39 rfl) (xcons (s_iload_n rfl dX8_childrenOf_42) (xcons (s_iret dX8_childrenOf_43 rfl) (xnil))))))))
def k114 (pc : Nat) : XI := if pc < 30 then xlk k114_0 pc else xlk k114_1 pc
theorem o114 (scr : Nat × (Nat → Int32)) (pc : Nat) : XSnd xm scr Y114 pc (k114 pc) := by
  unfold k114
  exact xite (xlk_ok (o114_0 scr) pc) (xlk_ok (o114_1 scr) pc)
theorem dX8_comesBack_0 : decode cX8_comesBack 0 = .ok (.aload_n 0, 1) := by decide +kernel
theorem dX8_comesBack_1 : decode cX8_comesBack 1 = .ok (.iload_n 1, 1) := by decide +kernel
theorem dX8_comesBack_2 : decode cX8_comesBack 2 = .ok (.bipush 13, 2) := by decide +kernel
theorem dX8_comesBack_4 : decode cX8_comesBack 4 = .ok (.invokevirtual 55, 3) := by decide +kernel
theorem dX8_comesBack_7 : decode cX8_comesBack 7 = .ok (.istore_n 2, 1) := by decide +kernel
theorem dX8_comesBack_8 : decode cX8_comesBack 8 = .ok (.aload_n 0, 1) := by decide +kernel
theorem dX8_comesBack_9 : decode cX8_comesBack 9 = .ok (.iload_n 1, 1) := by decide +kernel
theorem dX8_comesBack_10 : decode cX8_comesBack 10 = .ok (.bipush 38, 2) := by decide +kernel
theorem dX8_comesBack_12 : decode cX8_comesBack 12 = .ok (.invokevirtual 55, 3) := by decide +kernel
theorem dX8_comesBack_15 : decode cX8_comesBack 15 = .ok (.istore_n 3, 1) := by decide +kernel
theorem dX8_comesBack_16 : decode cX8_comesBack 16 = .ok (.iload_n 3, 1) := by decide +kernel
theorem dX8_comesBack_17 : decode cX8_comesBack 17 = .ok (.bipush 12, 2) := by decide +kernel
theorem dX8_comesBack_19 : decode cX8_comesBack 19 = .ok (.iload_n 2, 1) := by decide +kernel
theorem dX8_comesBack_20 : decode cX8_comesBack 20 = .ok (.isub, 1) := by decide +kernel
theorem dX8_comesBack_21 : decode cX8_comesBack 21 = .ok (.if_icmp .ge 7, 3) := by decide +kernel
theorem dX8_comesBack_24 : decode cX8_comesBack 24 = .ok (.iload_n 3, 1) := by decide +kernel
theorem dX8_comesBack_25 : decode cX8_comesBack 25 = .ok (.goto 7, 3) := by decide +kernel
theorem dX8_comesBack_28 : decode cX8_comesBack 28 = .ok (.bipush 12, 2) := by decide +kernel
theorem dX8_comesBack_30 : decode cX8_comesBack 30 = .ok (.iload_n 2, 1) := by decide +kernel
theorem dX8_comesBack_31 : decode cX8_comesBack 31 = .ok (.isub, 1) := by decide +kernel
def k115_0 : List (Nat × XI) := [(0, x_aload 0 1), (1, x_iload 1 2), (2, x_push (13) 4), (4, x_inv 108 8 2 7), (7, x_istore 2 8), (8, x_aload 0 9), (9, x_iload 1 10), (10, x_push (38) 12), (12, x_inv 108 8 2 15), (15, x_istore 3 16), (16, x_iload 3 17), (17, x_push (12) 19), (19, x_iload 2 20), (20, x_isub 21), (21, x_icge 28 24), (24, x_iload 3 25), (25, x_goto 32), (28, x_push (12) 30), (30, x_iload 2 31), (31, x_isub 32)]
theorem o115_0 (scr : Nat × (Nat → Int32)) : ∀ q ∈ k115_0, XSnd xm scr Y115 q.1 q.2 := xcons (s_aload_n rfl dX8_comesBack_0) (xcons (s_iload_n rfl dX8_comesBack_1) (xcons (s_bipush dX8_comesBack_2 rfl) (xcons (s_inv (mid := 108) xC8 cal_108 xw_508 xw_509 xw_510 dX8_comesBack_4) (xcons (s_istore_n rfl dX8_comesBack_7 (by decide)) (xcons (s_aload_n rfl dX8_comesBack_8) (xcons (s_iload_n rfl dX8_comesBack_9) (xcons (s_bipush dX8_comesBack_10 rfl) (xcons (s_inv (mid := 108) xC8 cal_108 xw_508 xw_509 xw_510 dX8_comesBack_12) (xcons (s_istore_n rfl dX8_comesBack_15 (by decide)) (xcons (s_iload_n rfl dX8_comesBack_16) (xcons (s_bipush dX8_comesBack_17 rfl) (xcons (s_iload_n rfl dX8_comesBack_19) (xcons (s_isub dX8_comesBack_20) (xcons (s_icge dX8_comesBack_21 rfl) (xcons (s_iload_n rfl dX8_comesBack_24) (xcons (s_goto dX8_comesBack_25 rfl) (xcons (s_bipush dX8_comesBack_28 rfl) (xcons (s_iload_n rfl dX8_comesBack_30) (xcons (s_isub dX8_comesBack_31) (xnil))))))))))))))))))))
theorem dX8_comesBack_32 : decode cX8_comesBack 32 = .ok (.istore 4, 2) := by decide +kernel
theorem dX8_comesBack_34 : decode cX8_comesBack 34 = .ok (.iconst 2, 1) := by decide +kernel
theorem dX8_comesBack_35 : decode cX8_comesBack 35 = .ok (.iload_n 2, 1) := by decide +kernel
theorem dX8_comesBack_36 : decode cX8_comesBack 36 = .ok (.imul, 1) := by decide +kernel
theorem dX8_comesBack_37 : decode cX8_comesBack 37 = .ok (.iconst 1, 1) := by decide +kernel
theorem dX8_comesBack_38 : decode cX8_comesBack 38 = .ok (.isub, 1) := by decide +kernel
theorem dX8_comesBack_39 : decode cX8_comesBack 39 = .ok (.istore 5, 2) := by decide +kernel
theorem dX8_comesBack_41 : decode cX8_comesBack 41 = .ok (.iload 5, 2) := by decide +kernel
theorem dX8_comesBack_43 : decode cX8_comesBack 43 = .ok (.ifCond .lt 34, 3) := by decide +kernel
theorem dX8_comesBack_46 : decode cX8_comesBack 46 = .ok (.aload_n 0, 1) := by decide +kernel
theorem dX8_comesBack_47 : decode cX8_comesBack 47 = .ok (.iload_n 1, 1) := by decide +kernel
theorem dX8_comesBack_48 : decode cX8_comesBack 48 = .ok (.bipush 14, 2) := by decide +kernel
theorem dX8_comesBack_50 : decode cX8_comesBack 50 = .ok (.iconst 2, 1) := by decide +kernel
theorem dX8_comesBack_51 : decode cX8_comesBack 51 = .ok (.iload 4, 2) := by decide +kernel
theorem dX8_comesBack_53 : decode cX8_comesBack 53 = .ok (.imul, 1) := by decide +kernel
theorem dX8_comesBack_54 : decode cX8_comesBack 54 = .ok (.iadd, 1) := by decide +kernel
theorem dX8_comesBack_55 : decode cX8_comesBack 55 = .ok (.iload 5, 2) := by decide +kernel
theorem dX8_comesBack_57 : decode cX8_comesBack 57 = .ok (.iadd, 1) := by decide +kernel
theorem dX8_comesBack_58 : decode cX8_comesBack 58 = .ok (.aload_n 0, 1) := by decide +kernel
theorem dX8_comesBack_59 : decode cX8_comesBack 59 = .ok (.iload_n 1, 1) := by decide +kernel
def k115_1 : List (Nat × XI) := [(32, x_istore 4 34), (34, x_push (2) 35), (35, x_iload 2 36), (36, x_imul 37), (37, x_push (1) 38), (38, x_isub 39), (39, x_istore 5 41), (41, x_iload 5 43), (43, x_iflt 77 46), (46, x_aload 0 47), (47, x_iload 1 48), (48, x_push (14) 50), (50, x_push (2) 51), (51, x_iload 4 53), (53, x_imul 54), (54, x_iadd 55), (55, x_iload 5 57), (57, x_iadd 58), (58, x_aload 0 59), (59, x_iload 1 60)]
theorem o115_1 (scr : Nat × (Nat → Int32)) : ∀ q ∈ k115_1, XSnd xm scr Y115 q.1 q.2 := xcons (s_istore dX8_comesBack_32 (by decide)) (xcons (s_iconst dX8_comesBack_34 rfl) (xcons (s_iload_n rfl dX8_comesBack_35) (xcons (s_imul dX8_comesBack_36) (xcons (s_iconst dX8_comesBack_37 rfl) (xcons (s_isub dX8_comesBack_38) (xcons (s_istore dX8_comesBack_39 (by decide)) (xcons (s_iload dX8_comesBack_41) (xcons (s_iflt dX8_comesBack_43 rfl) (xcons (s_aload_n rfl dX8_comesBack_46) (xcons (s_iload_n rfl dX8_comesBack_47) (xcons (s_bipush dX8_comesBack_48 rfl) (xcons (s_iconst dX8_comesBack_50 rfl) (xcons (s_iload dX8_comesBack_51) (xcons (s_imul dX8_comesBack_53) (xcons (s_iadd dX8_comesBack_54) (xcons (s_iload dX8_comesBack_55) (xcons (s_iadd dX8_comesBack_57) (xcons (s_aload_n rfl dX8_comesBack_58) (xcons (s_iload_n rfl dX8_comesBack_59) (xnil))))))))))))))))))))
theorem dX8_comesBack_60 : decode cX8_comesBack 60 = .ok (.bipush 14, 2) := by decide +kernel
theorem dX8_comesBack_62 : decode cX8_comesBack 62 = .ok (.iload 5, 2) := by decide +kernel
theorem dX8_comesBack_64 : decode cX8_comesBack 64 = .ok (.iadd, 1) := by decide +kernel
theorem dX8_comesBack_65 : decode cX8_comesBack 65 = .ok (.invokevirtual 55, 3) := by decide +kernel
theorem dX8_comesBack_68 : decode cX8_comesBack 68 = .ok (.invokevirtual 63, 3) := by decide +kernel
theorem dX8_comesBack_71 : decode cX8_comesBack 71 = .ok (.iinc 5 (-1), 3) := by decide +kernel
theorem dX8_comesBack_74 : decode cX8_comesBack 74 = .ok (.goto (-33), 3) := by decide +kernel
theorem dX8_comesBack_77 : decode cX8_comesBack 77 = .ok (.iconst 0, 1) := by decide +kernel
theorem dX8_comesBack_78 : decode cX8_comesBack 78 = .ok (.istore 5, 2) := by decide +kernel
theorem dX8_comesBack_80 : decode cX8_comesBack 80 = .ok (.iload 5, 2) := by decide +kernel
theorem dX8_comesBack_82 : decode cX8_comesBack 82 = .ok (.iconst 2, 1) := by decide +kernel
theorem dX8_comesBack_83 : decode cX8_comesBack 83 = .ok (.iload 4, 2) := by decide +kernel
theorem dX8_comesBack_85 : decode cX8_comesBack 85 = .ok (.imul, 1) := by decide +kernel
theorem dX8_comesBack_86 : decode cX8_comesBack 86 = .ok (.if_icmp .ge 29, 3) := by decide +kernel
theorem dX8_comesBack_89 : decode cX8_comesBack 89 = .ok (.aload_n 0, 1) := by decide +kernel
theorem dX8_comesBack_90 : decode cX8_comesBack 90 = .ok (.iload_n 1, 1) := by decide +kernel
theorem dX8_comesBack_91 : decode cX8_comesBack 91 = .ok (.bipush 14, 2) := by decide +kernel
theorem dX8_comesBack_93 : decode cX8_comesBack 93 = .ok (.iload 5, 2) := by decide +kernel
theorem dX8_comesBack_95 : decode cX8_comesBack 95 = .ok (.iadd, 1) := by decide +kernel
theorem dX8_comesBack_96 : decode cX8_comesBack 96 = .ok (.aload_n 0, 1) := by decide +kernel
def k115_2 : List (Nat × XI) := [(60, x_push (14) 62), (62, x_iload 5 64), (64, x_iadd 65), (65, x_inv 108 8 2 68), (68, x_inv 172 8 3 71), (71, x_iinc 5 (-1) 74), (74, x_goto 41), (77, x_push (0) 78), (78, x_istore 5 80), (80, x_iload 5 82), (82, x_push (2) 83), (83, x_iload 4 85), (85, x_imul 86), (86, x_icge 115 89), (89, x_aload 0 90), (90, x_iload 1 91), (91, x_push (14) 93), (93, x_iload 5 95), (95, x_iadd 96), (96, x_aload 0 97)]
theorem o115_2 (scr : Nat × (Nat → Int32)) : ∀ q ∈ k115_2, XSnd xm scr Y115 q.1 q.2 := xcons (s_bipush dX8_comesBack_60 rfl) (xcons (s_iload dX8_comesBack_62) (xcons (s_iadd dX8_comesBack_64) (xcons (s_inv (mid := 108) xC8 cal_108 xw_508 xw_509 xw_510 dX8_comesBack_65) (xcons (s_inv (mid := 172) xC8 cal_172 xw_472 xw_473 xw_474 dX8_comesBack_68) (xcons (s_iinc dX8_comesBack_71 rfl (by decide)) (xcons (s_goto dX8_comesBack_74 rfl) (xcons (s_iconst dX8_comesBack_77 rfl) (xcons (s_istore dX8_comesBack_78 (by decide)) (xcons (s_iload dX8_comesBack_80) (xcons (s_iconst dX8_comesBack_82 rfl) (xcons (s_iload dX8_comesBack_83) (xcons (s_imul dX8_comesBack_85) (xcons (s_icge dX8_comesBack_86 rfl) (xcons (s_aload_n rfl dX8_comesBack_89) (xcons (s_iload_n rfl dX8_comesBack_90) (xcons (s_bipush dX8_comesBack_91 rfl) (xcons (s_iload dX8_comesBack_93) (xcons (s_iadd dX8_comesBack_95) (xcons (s_aload_n rfl dX8_comesBack_96) (xnil))))))))))))))))))))
theorem dX8_comesBack_97 : decode cX8_comesBack 97 = .ok (.iload_n 1, 1) := by decide +kernel
theorem dX8_comesBack_98 : decode cX8_comesBack 98 = .ok (.bipush 39, 2) := by decide +kernel
theorem dX8_comesBack_100 : decode cX8_comesBack 100 = .ok (.iload 5, 2) := by decide +kernel
theorem dX8_comesBack_102 : decode cX8_comesBack 102 = .ok (.iadd, 1) := by decide +kernel
theorem dX8_comesBack_103 : decode cX8_comesBack 103 = .ok (.invokevirtual 55, 3) := by decide +kernel
theorem dX8_comesBack_106 : decode cX8_comesBack 106 = .ok (.invokevirtual 63, 3) := by decide +kernel
theorem dX8_comesBack_109 : decode cX8_comesBack 109 = .ok (.iinc 5 1, 3) := by decide +kernel
theorem dX8_comesBack_112 : decode cX8_comesBack 112 = .ok (.goto (-32), 3) := by decide +kernel
theorem dX8_comesBack_115 : decode cX8_comesBack 115 = .ok (.aload_n 0, 1) := by decide +kernel
theorem dX8_comesBack_116 : decode cX8_comesBack 116 = .ok (.iload_n 1, 1) := by decide +kernel
theorem dX8_comesBack_117 : decode cX8_comesBack 117 = .ok (.bipush 13, 2) := by decide +kernel
theorem dX8_comesBack_119 : decode cX8_comesBack 119 = .ok (.iload_n 2, 1) := by decide +kernel
theorem dX8_comesBack_120 : decode cX8_comesBack 120 = .ok (.iload 4, 2) := by decide +kernel
theorem dX8_comesBack_122 : decode cX8_comesBack 122 = .ok (.iadd, 1) := by decide +kernel
theorem dX8_comesBack_123 : decode cX8_comesBack 123 = .ok (.invokevirtual 63, 3) := by decide +kernel
theorem dX8_comesBack_126 : decode cX8_comesBack 126 = .ok (.aload_n 0, 1) := by decide +kernel
theorem dX8_comesBack_127 : decode cX8_comesBack 127 = .ok (.iload_n 1, 1) := by decide +kernel
theorem dX8_comesBack_128 : decode cX8_comesBack 128 = .ok (.bipush 38, 2) := by decide +kernel
theorem dX8_comesBack_130 : decode cX8_comesBack 130 = .ok (.iconst 0, 1) := by decide +kernel
theorem dX8_comesBack_131 : decode cX8_comesBack 131 = .ok (.invokevirtual 63, 3) := by decide +kernel
def k115_3 : List (Nat × XI) := [(97, x_iload 1 98), (98, x_push (39) 100), (100, x_iload 5 102), (102, x_iadd 103), (103, x_inv 108 8 2 106), (106, x_inv 172 8 3 109), (109, x_iinc 5 (1) 112), (112, x_goto 80), (115, x_aload 0 116), (116, x_iload 1 117), (117, x_push (13) 119), (119, x_iload 2 120), (120, x_iload 4 122), (122, x_iadd 123), (123, x_inv 172 8 3 126), (126, x_aload 0 127), (127, x_iload 1 128), (128, x_push (38) 130), (130, x_push (0) 131), (131, x_inv 172 8 3 134)]
theorem o115_3 (scr : Nat × (Nat → Int32)) : ∀ q ∈ k115_3, XSnd xm scr Y115 q.1 q.2 := xcons (s_iload_n rfl dX8_comesBack_97) (xcons (s_bipush dX8_comesBack_98 rfl) (xcons (s_iload dX8_comesBack_100) (xcons (s_iadd dX8_comesBack_102) (xcons (s_inv (mid := 108) xC8 cal_108 xw_508 xw_509 xw_510 dX8_comesBack_103) (xcons (s_inv (mid := 172) xC8 cal_172 xw_472 xw_473 xw_474 dX8_comesBack_106) (xcons (s_iinc dX8_comesBack_109 rfl (by decide)) (xcons (s_goto dX8_comesBack_112 rfl) (xcons (s_aload_n rfl dX8_comesBack_115) (xcons (s_iload_n rfl dX8_comesBack_116) (xcons (s_bipush dX8_comesBack_117 rfl) (xcons (s_iload_n rfl dX8_comesBack_119) (xcons (s_iload dX8_comesBack_120) (xcons (s_iadd dX8_comesBack_122) (xcons (s_inv (mid := 172) xC8 cal_172 xw_472 xw_473 xw_474 dX8_comesBack_123) (xcons (s_aload_n rfl dX8_comesBack_126) (xcons (s_iload_n rfl dX8_comesBack_127) (xcons (s_bipush dX8_comesBack_128 rfl) (xcons (s_iconst dX8_comesBack_130 rfl) (xcons (s_inv (mid := 172) xC8 cal_172 xw_472 xw_473 xw_474 dX8_comesBack_131) (xnil))))))))))))))))))))
theorem dX8_comesBack_134 : decode cX8_comesBack 134 = .ok (.aload_n 0, 1) := by decide +kernel
theorem dX8_comesBack_135 : decode cX8_comesBack 135 = .ok (.getfield 9, 3) := by decide +kernel
theorem dX8_comesBack_138 : decode cX8_comesBack 138 = .ok (.sipush 927, 3) := by decide +kernel
theorem dX8_comesBack_141 : decode cX8_comesBack 141 = .ok (.dup2, 1) := by decide +kernel
theorem dX8_comesBack_142 : decode cX8_comesBack 142 = .ok (.iaload, 1) := by decide +kernel
theorem dX8_comesBack_143 : decode cX8_comesBack 143 = .ok (.iload_n 3, 1) := by decide +kernel
theorem dX8_comesBack_144 : decode cX8_comesBack 144 = .ok (.iload 4, 2) := by decide +kernel
theorem dX8_comesBack_146 : decode cX8_comesBack 146 = .ok (.isub, 1) := by decide +kernel
theorem dX8_comesBack_147 : decode cX8_comesBack 147 = .ok (.iadd, 1) := by decide +kernel
theorem dX8_comesBack_148 : decode cX8_comesBack 148 = .ok (.iastore, 1) := by decide +kernel
theorem dX8_comesBack_149 : decode cX8_comesBack 149 = .ok (.return_, 1) := by decide +kernel
def k115_4 : List (Nat × XI) := [(134, x_aload 0 135), (135, x_getR 8 0 138), (138, x_push (927) 141), (141, x_dup2 142), (142, x_iald 143), (143, x_iload 3 144), (144, x_iload 4 146), (146, x_isub 147), (147, x_iadd 148), (148, x_iast 149), (149, x_ret)]
theorem o115_4 (scr : Nat × (Nat → Int32)) : ∀ q ∈ k115_4, XSnd xm scr Y115 q.1 q.2 := xcons (s_aload_n rfl dX8_comesBack_134) (xcons (s_getR (f := 0) xC8 (by decide) xw_470 rfl dX8_comesBack_135) (xcons (s_sipush dX8_comesBack_138 rfl) (xcons (s_dup2 dX8_comesBack_141) (xcons (s_iald dX8_comesBack_142) (xcons (s_iload_n rfl dX8_comesBack_143) (xcons (s_iload dX8_comesBack_144) (xcons (s_isub dX8_comesBack_146) (xcons (s_iadd dX8_comesBack_147) (xcons (s_iast dX8_comesBack_148) (xcons (s_ret dX8_comesBack_149 rfl) (xnil)))))))))))
def k115 (pc : Nat) : XI := if pc < 60 then if pc < 32 then xlk k115_0 pc else xlk k115_1 pc else if pc < 97 then xlk k115_2 pc else if pc < 134 then xlk k115_3 pc else xlk k115_4 pc
theorem o115 (scr : Nat × (Nat → Int32)) (pc : Nat) : XSnd xm scr Y115 pc (k115 pc) := by
  unfold k115
  exact xite (xite (xlk_ok (o115_0 scr) pc) (xlk_ok (o115_1 scr) pc)) (xite (xlk_ok (o115_2 scr) pc) (xite (xlk_ok (o115_3 scr) pc) (xlk_ok (o115_4 scr) pc)))
theorem dX8_count_0 : decode cX8_count 0 = .ok (.iconst 0, 1) := by decide +kernel
theorem dX8_count_1 : decode cX8_count 1 = .ok (.istore_n 2, 1) := by decide +kernel
theorem dX8_count_2 : decode cX8_count 2 = .ok (.iload_n 1, 1) := by decide +kernel
theorem dX8_count_3 : decode cX8_count 3 = .ok (.tableswitch 161 0 9 #[53, 62, 70, 102, 111, 120, 129, 138, 147, 156], 53) := by decide +kernel
theorem dX8_count_56 : decode cX8_count 56 = .ok (.aload_n 0, 1) := by decide +kernel
theorem dX8_count_57 : decode cX8_count 57 = .ok (.getfield 9, 3) := by decide +kernel
theorem dX8_count_60 : decode cX8_count 60 = .ok (.sipush 924, 3) := by decide +kernel
theorem dX8_count_63 : decode cX8_count 63 = .ok (.iaload, 1) := by decide +kernel
theorem dX8_count_64 : decode cX8_count 64 = .ok (.ireturn, 1) := by decide +kernel
theorem dX8_count_65 : decode cX8_count 65 = .ok (.aload_n 0, 1) := by decide +kernel
theorem dX8_count_66 : decode cX8_count 66 = .ok (.invokevirtual 191, 3) := by decide +kernel
theorem dX8_count_69 : decode cX8_count 69 = .ok (.invokestatic 194, 3) := by decide +kernel
theorem dX8_count_72 : decode cX8_count 72 = .ok (.ireturn, 1) := by decide +kernel
theorem dX8_count_73 : decode cX8_count 73 = .ok (.iconst 0, 1) := by decide +kernel
theorem dX8_count_74 : decode cX8_count 74 = .ok (.istore_n 3, 1) := by decide +kernel
theorem dX8_count_75 : decode cX8_count 75 = .ok (.iload_n 3, 1) := by decide +kernel
theorem dX8_count_76 : decode cX8_count 76 = .ok (.aload_n 0, 1) := by decide +kernel
theorem dX8_count_77 : decode cX8_count 77 = .ok (.getfield 9, 3) := by decide +kernel
theorem dX8_count_80 : decode cX8_count 80 = .ok (.sipush 924, 3) := by decide +kernel
theorem dX8_count_83 : decode cX8_count 83 = .ok (.iaload, 1) := by decide +kernel
def k116_0 : List (Nat × XI) := [(0, x_push (0) 1), (1, x_istore 2 2), (2, x_iload 1 3), (3, x_tsw (0) (9) [56, 65, 73, 105, 114, 123, 132, 141, 150, 159] 164), (56, x_aload 0 57), (57, x_getR 8 0 60), (60, x_push (924) 63), (63, x_iald 64), (64, x_iret), (65, x_aload 0 66), (66, x_inv 147 8 0 69), (69, x_invS 110 1 72), (72, x_iret), (73, x_push (0) 74), (74, x_istore 3 75), (75, x_iload 3 76), (76, x_aload 0 77), (77, x_getR 8 0 80), (80, x_push (924) 83), (83, x_iald 84)]
theorem o116_0 (scr : Nat × (Nat → Int32)) : ∀ q ∈ k116_0, XSnd xm scr Y116 q.1 q.2 := xcons (s_iconst dX8_count_0 rfl) (xcons (s_istore_n rfl dX8_count_1 (by decide)) (xcons (s_iload_n rfl dX8_count_2) (xcons (s_tsw dX8_count_3 rfl rfl) (xcons (s_aload_n rfl dX8_count_56) (xcons (s_getR (f := 0) xC8 (by decide) xw_470 rfl dX8_count_57) (xcons (s_sipush dX8_count_60 rfl) (xcons (s_iald dX8_count_63) (xcons (s_iret dX8_count_64 rfl) (xcons (s_aload_n rfl dX8_count_65) (xcons (s_inv (mid := 147) xC8 cal_147 xw_496 xw_497 xw_498 dX8_count_66) (xcons (s_invS (mid := 110) cal_110 xw_512 xw_513 dX8_count_69) (xcons (s_iret dX8_count_72 rfl) (xcons (s_iconst dX8_count_73 rfl) (xcons (s_istore_n rfl dX8_count_74 (by decide)) (xcons (s_iload_n rfl dX8_count_75) (xcons (s_aload_n rfl dX8_count_76) (xcons (s_getR (f := 0) xC8 (by decide) xw_470 rfl dX8_count_77) (xcons (s_sipush dX8_count_80 rfl) (xcons (s_iald dX8_count_83) (xnil))))))))))))))))))))
theorem dX8_count_84 : decode cX8_count 84 = .ok (.if_icmp .ge 19, 3) := by decide +kernel
theorem dX8_count_87 : decode cX8_count 87 = .ok (.iload_n 2, 1) := by decide +kernel
theorem dX8_count_88 : decode cX8_count 88 = .ok (.aload_n 0, 1) := by decide +kernel
theorem dX8_count_89 : decode cX8_count 89 = .ok (.iload_n 3, 1) := by decide +kernel
theorem dX8_count_90 : decode cX8_count 90 = .ok (.bipush 13, 2) := by decide +kernel
theorem dX8_count_92 : decode cX8_count 92 = .ok (.invokevirtual 55, 3) := by decide +kernel
theorem dX8_count_95 : decode cX8_count 95 = .ok (.iadd, 1) := by decide +kernel
theorem dX8_count_96 : decode cX8_count 96 = .ok (.istore_n 2, 1) := by decide +kernel
theorem dX8_count_97 : decode cX8_count 97 = .ok (.iinc 3 1, 3) := by decide +kernel
theorem dX8_count_100 : decode cX8_count 100 = .ok (.goto (-25), 3) := by decide +kernel
theorem dX8_count_103 : decode cX8_count 103 = .ok (.iload_n 2, 1) := by decide +kernel
theorem dX8_count_104 : decode cX8_count 104 = .ok (.ireturn, 1) := by decide +kernel
theorem dX8_count_105 : decode cX8_count 105 = .ok (.aload_n 0, 1) := by decide +kernel
theorem dX8_count_106 : decode cX8_count 106 = .ok (.getfield 9, 3) := by decide +kernel
theorem dX8_count_109 : decode cX8_count 109 = .ok (.sipush 931, 3) := by decide +kernel
theorem dX8_count_112 : decode cX8_count 112 = .ok (.iaload, 1) := by decide +kernel
theorem dX8_count_113 : decode cX8_count 113 = .ok (.ireturn, 1) := by decide +kernel
theorem dX8_count_114 : decode cX8_count 114 = .ok (.aload_n 0, 1) := by decide +kernel
theorem dX8_count_115 : decode cX8_count 115 = .ok (.getfield 9, 3) := by decide +kernel
theorem dX8_count_118 : decode cX8_count 118 = .ok (.sipush 927, 3) := by decide +kernel
def k116_1 : List (Nat × XI) := [(84, x_icge 103 87), (87, x_iload 2 88), (88, x_aload 0 89), (89, x_iload 3 90), (90, x_push (13) 92), (92, x_inv 108 8 2 95), (95, x_iadd 96), (96, x_istore 2 97), (97, x_iinc 3 (1) 100), (100, x_goto 75), (103, x_iload 2 104), (104, x_iret), (105, x_aload 0 106), (106, x_getR 8 0 109), (109, x_push (931) 112), (112, x_iald 113), (113, x_iret), (114, x_aload 0 115), (115, x_getR 8 0 118), (118, x_push (927) 121)]
theorem o116_1 (scr : Nat × (Nat → Int32)) : ∀ q ∈ k116_1, XSnd xm scr Y116 q.1 q.2 := xcons (s_icge dX8_count_84 rfl) (xcons (s_iload_n rfl dX8_count_87) (xcons (s_aload_n rfl dX8_count_88) (xcons (s_iload_n rfl dX8_count_89) (xcons (s_bipush dX8_count_90 rfl) (xcons (s_inv (mid := 108) xC8 cal_108 xw_508 xw_509 xw_510 dX8_count_92) (xcons (s_iadd dX8_count_95) (xcons (s_istore_n rfl dX8_count_96 (by decide)) (xcons (s_iinc dX8_count_97 rfl (by decide)) (xcons (s_goto dX8_count_100 rfl) (xcons (s_iload_n rfl dX8_count_103) (xcons (s_iret dX8_count_104 rfl) (xcons (s_aload_n rfl dX8_count_105) (xcons (s_getR (f := 0) xC8 (by decide) xw_470 rfl dX8_count_106) (xcons (s_sipush dX8_count_109 rfl) (xcons (s_iald dX8_count_112) (xcons (s_iret dX8_count_113 rfl) (xcons (s_aload_n rfl dX8_count_114) (xcons (s_getR (f := 0) xC8 (by decide) xw_470 rfl dX8_count_115) (xcons (s_sipush dX8_count_118 rfl) (xnil))))))))))))))))))))
theorem dX8_count_121 : decode cX8_count 121 = .ok (.iaload, 1) := by decide +kernel
theorem dX8_count_122 : decode cX8_count 122 = .ok (.ireturn, 1) := by decide +kernel
theorem dX8_count_123 : decode cX8_count 123 = .ok (.aload_n 0, 1) := by decide +kernel
theorem dX8_count_124 : decode cX8_count 124 = .ok (.getfield 9, 3) := by decide +kernel
theorem dX8_count_127 : decode cX8_count 127 = .ok (.sipush 926, 3) := by decide +kernel
theorem dX8_count_130 : decode cX8_count 130 = .ok (.iaload, 1) := by decide +kernel
theorem dX8_count_131 : decode cX8_count 131 = .ok (.ireturn, 1) := by decide +kernel
theorem dX8_count_132 : decode cX8_count 132 = .ok (.aload_n 0, 1) := by decide +kernel
theorem dX8_count_133 : decode cX8_count 133 = .ok (.getfield 9, 3) := by decide +kernel
theorem dX8_count_136 : decode cX8_count 136 = .ok (.sipush 925, 3) := by decide +kernel
theorem dX8_count_139 : decode cX8_count 139 = .ok (.iaload, 1) := by decide +kernel
theorem dX8_count_140 : decode cX8_count 140 = .ok (.ireturn, 1) := by decide +kernel
theorem dX8_count_141 : decode cX8_count 141 = .ok (.aload_n 0, 1) := by decide +kernel
theorem dX8_count_142 : decode cX8_count 142 = .ok (.getfield 9, 3) := by decide +kernel
theorem dX8_count_145 : decode cX8_count 145 = .ok (.sipush 993, 3) := by decide +kernel
theorem dX8_count_148 : decode cX8_count 148 = .ok (.iaload, 1) := by decide +kernel
theorem dX8_count_149 : decode cX8_count 149 = .ok (.ireturn, 1) := by decide +kernel
theorem dX8_count_150 : decode cX8_count 150 = .ok (.aload_n 0, 1) := by decide +kernel
theorem dX8_count_151 : decode cX8_count 151 = .ok (.getfield 9, 3) := by decide +kernel
theorem dX8_count_154 : decode cX8_count 154 = .ok (.sipush 962, 3) := by decide +kernel
def k116_2 : List (Nat × XI) := [(121, x_iald 122), (122, x_iret), (123, x_aload 0 124), (124, x_getR 8 0 127), (127, x_push (926) 130), (130, x_iald 131), (131, x_iret), (132, x_aload 0 133), (133, x_getR 8 0 136), (136, x_push (925) 139), (139, x_iald 140), (140, x_iret), (141, x_aload 0 142), (142, x_getR 8 0 145), (145, x_push (993) 148), (148, x_iald 149), (149, x_iret), (150, x_aload 0 151), (151, x_getR 8 0 154), (154, x_push (962) 157)]
theorem o116_2 (scr : Nat × (Nat → Int32)) : ∀ q ∈ k116_2, XSnd xm scr Y116 q.1 q.2 := xcons (s_iald dX8_count_121) (xcons (s_iret dX8_count_122 rfl) (xcons (s_aload_n rfl dX8_count_123) (xcons (s_getR (f := 0) xC8 (by decide) xw_470 rfl dX8_count_124) (xcons (s_sipush dX8_count_127 rfl) (xcons (s_iald dX8_count_130) (xcons (s_iret dX8_count_131 rfl) (xcons (s_aload_n rfl dX8_count_132) (xcons (s_getR (f := 0) xC8 (by decide) xw_470 rfl dX8_count_133) (xcons (s_sipush dX8_count_136 rfl) (xcons (s_iald dX8_count_139) (xcons (s_iret dX8_count_140 rfl) (xcons (s_aload_n rfl dX8_count_141) (xcons (s_getR (f := 0) xC8 (by decide) xw_470 rfl dX8_count_142) (xcons (s_sipush dX8_count_145 rfl) (xcons (s_iald dX8_count_148) (xcons (s_iret dX8_count_149 rfl) (xcons (s_aload_n rfl dX8_count_150) (xcons (s_getR (f := 0) xC8 (by decide) xw_470 rfl dX8_count_151) (xcons (s_sipush dX8_count_154 rfl) (xnil))))))))))))))))))))
theorem dX8_count_157 : decode cX8_count 157 = .ok (.iaload, 1) := by decide +kernel
theorem dX8_count_158 : decode cX8_count 158 = .ok (.ireturn, 1) := by decide +kernel
theorem dX8_count_159 : decode cX8_count 159 = .ok (.aload_n 0, 1) := by decide +kernel
theorem dX8_count_160 : decode cX8_count 160 = .ok (.getfield 207, 3) := by decide +kernel
theorem dX8_count_163 : decode cX8_count 163 = .ok (.ireturn, 1) := by decide +kernel
theorem dX8_count_164 : decode cX8_count 164 = .ok (.iconst (-1), 1) := by decide +kernel
theorem dX8_count_165 : decode cX8_count 165 = .ok (.ireturn, 1) := by decide +kernel
def k116_3 : List (Nat × XI) := [(157, x_iald 158), (158, x_iret), (159, x_aload 0 160), (160, x_getI 8 11 163), (163, x_iret), (164, x_push (-1) 165), (165, x_iret)]
theorem o116_3 (scr : Nat × (Nat → Int32)) : ∀ q ∈ k116_3, XSnd xm scr Y116 q.1 q.2 := xcons (s_iald dX8_count_157) (xcons (s_iret dX8_count_158 rfl) (xcons (s_aload_n rfl dX8_count_159) (xcons (s_getI (f := 11) xC8 (by decide) xw_514 rfl dX8_count_160) (xcons (s_iret dX8_count_163 rfl) (xcons (s_iconst dX8_count_164 rfl) (xcons (s_iret dX8_count_165 rfl) (xnil)))))))
def k116 (pc : Nat) : XI := if pc < 121 then if pc < 84 then xlk k116_0 pc else xlk k116_1 pc else if pc < 157 then xlk k116_2 pc else xlk k116_3 pc
theorem o116 (scr : Nat × (Nat → Int32)) (pc : Nat) : XSnd xm scr Y116 pc (k116 pc) := by
  unfold k116
  exact xite (xite (xlk_ok (o116_0 scr) pc) (xlk_ok (o116_1 scr) pc)) (xite (xlk_ok (o116_2 scr) pc) (xlk_ok (o116_3 scr) pc))
theorem dX8_counted_0 : decode cX8_counted 0 = .ok (.aload_n 0, 1) := by decide +kernel
theorem dX8_counted_1 : decode cX8_counted 1 = .ok (.iload_n 1, 1) := by decide +kernel
theorem dX8_counted_2 : decode cX8_counted 2 = .ok (.invokevirtual 167, 3) := by decide +kernel
theorem dX8_counted_5 : decode cX8_counted 5 = .ok (.ifCond .eq 13, 3) := by decide +kernel
theorem dX8_counted_8 : decode cX8_counted 8 = .ok (.aload_n 0, 1) := by decide +kernel
theorem dX8_counted_9 : decode cX8_counted 9 = .ok (.iload_n 1, 1) := by decide +kernel
theorem dX8_counted_10 : decode cX8_counted 10 = .ok (.bipush 6, 2) := by decide +kernel
theorem dX8_counted_12 : decode cX8_counted 12 = .ok (.invokevirtual 55, 3) := by decide +kernel
theorem dX8_counted_15 : decode cX8_counted 15 = .ok (.goto 5, 3) := by decide +kernel
theorem dX8_counted_18 : decode cX8_counted 18 = .ok (.ldc 186, 2) := by decide +kernel
theorem dX8_counted_20 : decode cX8_counted 20 = .ok (.ireturn, 1) := by decide +kernel
def k117_0 : List (Nat × XI) := [(0, x_aload 0 1), (1, x_iload 1 2), (2, x_inv 136 8 1 5), (5, x_ifeq 18 8), (8, x_aload 0 9), (9, x_iload 1 10), (10, x_push (6) 12), (12, x_inv 108 8 2 15), (15, x_goto 20), (18, x_push (-2000000000) 20), (20, x_iret)]
theorem o117_0 (scr : Nat × (Nat → Int32)) : ∀ q ∈ k117_0, XSnd xm scr Y117 q.1 q.2 := xcons (s_aload_n rfl dX8_counted_0) (xcons (s_iload_n rfl dX8_counted_1) (xcons (s_inv (mid := 136) xC8 cal_136 xw_483 xw_484 xw_485 dX8_counted_2) (xcons (s_ifeq dX8_counted_5 rfl) (xcons (s_aload_n rfl dX8_counted_8) (xcons (s_iload_n rfl dX8_counted_9) (xcons (s_bipush dX8_counted_10 rfl) (xcons (s_inv (mid := 108) xC8 cal_108 xw_508 xw_509 xw_510 dX8_counted_12) (xcons (s_goto dX8_counted_15 rfl) (xcons (s_ldc dX8_counted_18 xw_493) (xcons (s_iret dX8_counted_20 rfl) (xnil)))))))))))
def k117 (pc : Nat) : XI := xlk k117_0 pc
theorem o117 (scr : Nat × (Nat → Int32)) (pc : Nat) : XSnd xm scr Y117 pc (k117 pc) := by
  unfold k117
  exact xlk_ok (o117_0 scr) pc
theorem dX8_deals_0 : decode cX8_deals 0 = .ok (.aload_n 0, 1) := by decide +kernel
theorem dX8_deals_1 : decode cX8_deals 1 = .ok (.iload_n 1, 1) := by decide +kernel
theorem dX8_deals_2 : decode cX8_deals 2 = .ok (.invokevirtual 115, 3) := by decide +kernel
theorem dX8_deals_5 : decode cX8_deals 5 = .ok (.istore 4, 2) := by decide +kernel
theorem dX8_deals_7 : decode cX8_deals 7 = .ok (.iload_n 3, 1) := by decide +kernel
theorem dX8_deals_8 : decode cX8_deals 8 = .ok (.sipush 1000, 3) := by decide +kernel
theorem dX8_deals_11 : decode cX8_deals 11 = .ok (.if_icmp .lt 42, 3) := by decide +kernel
theorem dX8_deals_14 : decode cX8_deals 14 = .ok (.iload 4, 2) := by decide +kernel
theorem dX8_deals_16 : decode cX8_deals 16 = .ok (.iconst 5, 1) := by decide +kernel
theorem dX8_deals_17 : decode cX8_deals 17 = .ok (.if_icmp .ne 12, 3) := by decide +kernel
theorem dX8_deals_20 : decode cX8_deals 20 = .ok (.aload_n 0, 1) := by decide +kernel
theorem dX8_deals_21 : decode cX8_deals 21 = .ok (.iload_n 1, 1) := by decide +kernel
theorem dX8_deals_22 : decode cX8_deals 22 = .ok (.iconst 2, 1) := by decide +kernel
theorem dX8_deals_23 : decode cX8_deals 23 = .ok (.invokevirtual 111, 3) := by decide +kernel
theorem dX8_deals_26 : decode cX8_deals 26 = .ok (.goto 26, 3) := by decide +kernel
theorem dX8_deals_29 : decode cX8_deals 29 = .ok (.aload_n 0, 1) := by decide +kernel
theorem dX8_deals_30 : decode cX8_deals 30 = .ok (.iload_n 1, 1) := by decide +kernel
theorem dX8_deals_31 : decode cX8_deals 31 = .ok (.bipush 6, 2) := by decide +kernel
theorem dX8_deals_33 : decode cX8_deals 33 = .ok (.aload_n 0, 1) := by decide +kernel
theorem dX8_deals_34 : decode cX8_deals 34 = .ok (.iload_n 1, 1) := by decide +kernel
def k118_0 : List (Nat × XI) := [(0, x_aload 0 1), (1, x_iload 1 2), (2, x_inv 121 8 1 5), (5, x_istore 4 7), (7, x_iload 3 8), (8, x_push (1000) 11), (11, x_iclt 53 14), (14, x_iload 4 16), (16, x_push (5) 17), (17, x_icne 29 20), (20, x_aload 0 21), (21, x_iload 1 22), (22, x_push (2) 23), (23, x_inv 125 8 2 26), (26, x_goto 52), (29, x_aload 0 30), (30, x_iload 1 31), (31, x_push (6) 33), (33, x_aload 0 34), (34, x_iload 1 35)]
theorem o118_0 (scr : Nat × (Nat → Int32)) : ∀ q ∈ k118_0, XSnd xm scr Y118 q.1 q.2 := xcons (s_aload_n rfl dX8_deals_0) (xcons (s_iload_n rfl dX8_deals_1) (xcons (s_inv (mid := 121) xC8 cal_121 xw_516 xw_517 xw_518 dX8_deals_2) (xcons (s_istore dX8_deals_5 (by decide)) (xcons (s_iload_n rfl dX8_deals_7) (xcons (s_sipush dX8_deals_8 rfl) (xcons (s_iclt dX8_deals_11 rfl) (xcons (s_iload dX8_deals_14) (xcons (s_iconst dX8_deals_16 rfl) (xcons (s_icne dX8_deals_17 rfl) (xcons (s_aload_n rfl dX8_deals_20) (xcons (s_iload_n rfl dX8_deals_21) (xcons (s_iconst dX8_deals_22 rfl) (xcons (s_inv (mid := 125) xC8 cal_125 xw_501 xw_502 xw_503 dX8_deals_23) (xcons (s_goto dX8_deals_26 rfl) (xcons (s_aload_n rfl dX8_deals_29) (xcons (s_iload_n rfl dX8_deals_30) (xcons (s_bipush dX8_deals_31 rfl) (xcons (s_aload_n rfl dX8_deals_33) (xcons (s_iload_n rfl dX8_deals_34) (xnil))))))))))))))))))))
theorem dX8_deals_35 : decode cX8_deals 35 = .ok (.bipush 6, 2) := by decide +kernel
theorem dX8_deals_37 : decode cX8_deals 37 = .ok (.invokevirtual 55, 3) := by decide +kernel
theorem dX8_deals_40 : decode cX8_deals 40 = .ok (.bipush 100, 2) := by decide +kernel
theorem dX8_deals_42 : decode cX8_deals 42 = .ok (.iadd, 1) := by decide +kernel
theorem dX8_deals_43 : decode cX8_deals 43 = .ok (.iload_n 3, 1) := by decide +kernel
theorem dX8_deals_44 : decode cX8_deals 44 = .ok (.iadd, 1) := by decide +kernel
theorem dX8_deals_45 : decode cX8_deals 45 = .ok (.sipush 1000, 3) := by decide +kernel
theorem dX8_deals_48 : decode cX8_deals 48 = .ok (.isub, 1) := by decide +kernel
theorem dX8_deals_49 : decode cX8_deals 49 = .ok (.invokevirtual 63, 3) := by decide +kernel
theorem dX8_deals_52 : decode cX8_deals 52 = .ok (.return_, 1) := by decide +kernel
theorem dX8_deals_53 : decode cX8_deals 53 = .ok (.iload 4, 2) := by decide +kernel
theorem dX8_deals_55 : decode cX8_deals 55 = .ok (.tableswitch 177 0 8 #[49, 68, 78, 99, 109, 118, 149, 158, 168], 49) := by decide +kernel
theorem dX8_deals_104 : decode cX8_deals 104 = .ok (.aload_n 0, 1) := by decide +kernel
theorem dX8_deals_105 : decode cX8_deals 105 = .ok (.iload_n 1, 1) := by decide +kernel
theorem dX8_deals_106 : decode cX8_deals 106 = .ok (.bipush 6, 2) := by decide +kernel
theorem dX8_deals_108 : decode cX8_deals 108 = .ok (.aload_n 0, 1) := by decide +kernel
theorem dX8_deals_109 : decode cX8_deals 109 = .ok (.iload_n 1, 1) := by decide +kernel
theorem dX8_deals_110 : decode cX8_deals 110 = .ok (.bipush 6, 2) := by decide +kernel
theorem dX8_deals_112 : decode cX8_deals 112 = .ok (.invokevirtual 55, 3) := by decide +kernel
theorem dX8_deals_115 : decode cX8_deals 115 = .ok (.iload_n 3, 1) := by decide +kernel
def k118_1 : List (Nat × XI) := [(35, x_push (6) 37), (37, x_inv 108 8 2 40), (40, x_push (100) 42), (42, x_iadd 43), (43, x_iload 3 44), (44, x_iadd 45), (45, x_push (1000) 48), (48, x_isub 49), (49, x_inv 172 8 3 52), (52, x_ret), (53, x_iload 4 55), (55, x_tsw (0) (8) [104, 123, 133, 154, 164, 173, 204, 213, 223] 232), (104, x_aload 0 105), (105, x_iload 1 106), (106, x_push (6) 108), (108, x_aload 0 109), (109, x_iload 1 110), (110, x_push (6) 112), (112, x_inv 108 8 2 115), (115, x_iload 3 116)]
theorem o118_1 (scr : Nat × (Nat → Int32)) : ∀ q ∈ k118_1, XSnd xm scr Y118 q.1 q.2 := xcons (s_bipush dX8_deals_35 rfl) (xcons (s_inv (mid := 108) xC8 cal_108 xw_508 xw_509 xw_510 dX8_deals_37) (xcons (s_bipush dX8_deals_40 rfl) (xcons (s_iadd dX8_deals_42) (xcons (s_iload_n rfl dX8_deals_43) (xcons (s_iadd dX8_deals_44) (xcons (s_sipush dX8_deals_45 rfl) (xcons (s_isub dX8_deals_48) (xcons (s_inv (mid := 172) xC8 cal_172 xw_472 xw_473 xw_474 dX8_deals_49) (xcons (s_ret dX8_deals_52 rfl) (xcons (s_iload dX8_deals_53) (xcons (s_tsw dX8_deals_55 rfl rfl) (xcons (s_aload_n rfl dX8_deals_104) (xcons (s_iload_n rfl dX8_deals_105) (xcons (s_bipush dX8_deals_106 rfl) (xcons (s_aload_n rfl dX8_deals_108) (xcons (s_iload_n rfl dX8_deals_109) (xcons (s_bipush dX8_deals_110 rfl) (xcons (s_inv (mid := 108) xC8 cal_108 xw_508 xw_509 xw_510 dX8_deals_112) (xcons (s_iload_n rfl dX8_deals_115) (xnil))))))))))))))))))))
theorem dX8_deals_116 : decode cX8_deals 116 = .ok (.iadd, 1) := by decide +kernel
theorem dX8_deals_117 : decode cX8_deals 117 = .ok (.invokevirtual 63, 3) := by decide +kernel
theorem dX8_deals_120 : decode cX8_deals 120 = .ok (.goto 117, 3) := by decide +kernel
theorem dX8_deals_123 : decode cX8_deals 123 = .ok (.aload_n 0, 1) := by decide +kernel
theorem dX8_deals_124 : decode cX8_deals 124 = .ok (.iload_n 1, 1) := by decide +kernel
theorem dX8_deals_125 : decode cX8_deals 125 = .ok (.iload_n 3, 1) := by decide +kernel
theorem dX8_deals_126 : decode cX8_deals 126 = .ok (.iconst 0, 1) := by decide +kernel
theorem dX8_deals_127 : decode cX8_deals 127 = .ok (.invokevirtual 119, 3) := by decide +kernel
theorem dX8_deals_130 : decode cX8_deals 130 = .ok (.goto 107, 3) := by decide +kernel
theorem dX8_deals_133 : decode cX8_deals 133 = .ok (.iload_n 3, 1) := by decide +kernel
theorem dX8_deals_134 : decode cX8_deals 134 = .ok (.ifCond .le 103, 3) := by decide +kernel
theorem dX8_deals_137 : decode cX8_deals 137 = .ok (.iload_n 2, 1) := by decide +kernel
theorem dX8_deals_138 : decode cX8_deals 138 = .ok (.ifCond .lt 99, 3) := by decide +kernel
theorem dX8_deals_141 : decode cX8_deals 141 = .ok (.aload_n 0, 1) := by decide +kernel
theorem dX8_deals_142 : decode cX8_deals 142 = .ok (.iload_n 2, 1) := by decide +kernel
theorem dX8_deals_143 : decode cX8_deals 143 = .ok (.iload_n 1, 1) := by decide +kernel
theorem dX8_deals_144 : decode cX8_deals 144 = .ok (.iload_n 3, 1) := by decide +kernel
theorem dX8_deals_145 : decode cX8_deals 145 = .ok (.iconst 1, 1) := by decide +kernel
theorem dX8_deals_146 : decode cX8_deals 146 = .ok (.isub, 1) := by decide +kernel
theorem dX8_deals_147 : decode cX8_deals 147 = .ok (.invokevirtual 84, 3) := by decide +kernel
def k118_2 : List (Nat × XI) := [(116, x_iadd 117), (117, x_inv 172 8 3 120), (120, x_goto 237), (123, x_aload 0 124), (124, x_iload 1 125), (125, x_iload 3 126), (126, x_push (0) 127), (127, x_inv 159 8 3 130), (130, x_goto 237), (133, x_iload 3 134), (134, x_ifle 237 137), (137, x_iload 2 138), (138, x_iflt 237 141), (141, x_aload 0 142), (142, x_iload 2 143), (143, x_iload 1 144), (144, x_iload 3 145), (145, x_push (1) 146), (146, x_isub 147), (147, x_inv 171 8 3 150)]
theorem o118_2 (scr : Nat × (Nat → Int32)) : ∀ q ∈ k118_2, XSnd xm scr Y118 q.1 q.2 := xcons (s_iadd dX8_deals_116) (xcons (s_inv (mid := 172) xC8 cal_172 xw_472 xw_473 xw_474 dX8_deals_117) (xcons (s_goto dX8_deals_120 rfl) (xcons (s_aload_n rfl dX8_deals_123) (xcons (s_iload_n rfl dX8_deals_124) (xcons (s_iload_n rfl dX8_deals_125) (xcons (s_iconst dX8_deals_126 rfl) (xcons (s_inv (mid := 159) xC8 cal_159 xw_520 xw_521 xw_522 dX8_deals_127) (xcons (s_goto dX8_deals_130 rfl) (xcons (s_iload_n rfl dX8_deals_133) (xcons (s_ifle dX8_deals_134 rfl) (xcons (s_iload_n rfl dX8_deals_137) (xcons (s_iflt dX8_deals_138 rfl) (xcons (s_aload_n rfl dX8_deals_141) (xcons (s_iload_n rfl dX8_deals_142) (xcons (s_iload_n rfl dX8_deals_143) (xcons (s_iload_n rfl dX8_deals_144) (xcons (s_iconst dX8_deals_145 rfl) (xcons (s_isub dX8_deals_146) (xcons (s_inv (mid := 171) xC8 cal_171 xw_524 xw_525 xw_526 dX8_deals_147) (xnil))))))))))))))))))))
theorem dX8_deals_150 : decode cX8_deals 150 = .ok (.pop, 1) := by decide +kernel
theorem dX8_deals_151 : decode cX8_deals 151 = .ok (.goto 86, 3) := by decide +kernel
theorem dX8_deals_154 : decode cX8_deals 154 = .ok (.aload_n 0, 1) := by decide +kernel
theorem dX8_deals_155 : decode cX8_deals 155 = .ok (.iload_n 1, 1) := by decide +kernel
theorem dX8_deals_156 : decode cX8_deals 156 = .ok (.iload_n 2, 1) := by decide +kernel
theorem dX8_deals_157 : decode cX8_deals 157 = .ok (.iload_n 3, 1) := by decide +kernel
theorem dX8_deals_158 : decode cX8_deals 158 = .ok (.invokevirtual 123, 3) := by decide +kernel
theorem dX8_deals_161 : decode cX8_deals 161 = .ok (.goto 76, 3) := by decide +kernel
theorem dX8_deals_164 : decode cX8_deals 164 = .ok (.aload_n 0, 1) := by decide +kernel
theorem dX8_deals_165 : decode cX8_deals 165 = .ok (.iload_n 1, 1) := by decide +kernel
theorem dX8_deals_166 : decode cX8_deals 166 = .ok (.iload_n 3, 1) := by decide +kernel
theorem dX8_deals_167 : decode cX8_deals 167 = .ok (.invokevirtual 126, 3) := by decide +kernel
theorem dX8_deals_170 : decode cX8_deals 170 = .ok (.goto 67, 3) := by decide +kernel
theorem dX8_deals_173 : decode cX8_deals 173 = .ok (.iload_n 3, 1) := by decide +kernel
theorem dX8_deals_174 : decode cX8_deals 174 = .ok (.aload_n 0, 1) := by decide +kernel
theorem dX8_deals_175 : decode cX8_deals 175 = .ok (.iload_n 1, 1) := by decide +kernel
theorem dX8_deals_176 : decode cX8_deals 176 = .ok (.bipush 6, 2) := by decide +kernel
theorem dX8_deals_178 : decode cX8_deals 178 = .ok (.invokevirtual 55, 3) := by decide +kernel
theorem dX8_deals_181 : decode cX8_deals 181 = .ok (.if_icmp .ge 12, 3) := by decide +kernel
theorem dX8_deals_184 : decode cX8_deals 184 = .ok (.aload_n 0, 1) := by decide +kernel
def k118_3 : List (Nat × XI) := [(150, x_pop 151), (151, x_goto 237), (154, x_aload 0 155), (155, x_iload 1 156), (156, x_iload 2 157), (157, x_iload 3 158), (158, x_inv 132 8 3 161), (161, x_goto 237), (164, x_aload 0 165), (165, x_iload 1 166), (166, x_iload 3 167), (167, x_inv 178 8 2 170), (170, x_goto 237), (173, x_iload 3 174), (174, x_aload 0 175), (175, x_iload 1 176), (176, x_push (6) 178), (178, x_inv 108 8 2 181), (181, x_icge 193 184), (184, x_aload 0 185)]
theorem o118_3 (scr : Nat × (Nat → Int32)) : ∀ q ∈ k118_3, XSnd xm scr Y118 q.1 q.2 := xcons (s_pop dX8_deals_150) (xcons (s_goto dX8_deals_151 rfl) (xcons (s_aload_n rfl dX8_deals_154) (xcons (s_iload_n rfl dX8_deals_155) (xcons (s_iload_n rfl dX8_deals_156) (xcons (s_iload_n rfl dX8_deals_157) (xcons (s_inv (mid := 132) xC8 cal_132 xw_528 xw_529 xw_530 dX8_deals_158) (xcons (s_goto dX8_deals_161 rfl) (xcons (s_aload_n rfl dX8_deals_164) (xcons (s_iload_n rfl dX8_deals_165) (xcons (s_iload_n rfl dX8_deals_166) (xcons (s_inv (mid := 178) xC8 cal_178 xw_532 xw_533 xw_534 dX8_deals_167) (xcons (s_goto dX8_deals_170 rfl) (xcons (s_iload_n rfl dX8_deals_173) (xcons (s_aload_n rfl dX8_deals_174) (xcons (s_iload_n rfl dX8_deals_175) (xcons (s_bipush dX8_deals_176 rfl) (xcons (s_inv (mid := 108) xC8 cal_108 xw_508 xw_509 xw_510 dX8_deals_178) (xcons (s_icge dX8_deals_181 rfl) (xcons (s_aload_n rfl dX8_deals_184) (xnil))))))))))))))))))))
theorem dX8_deals_185 : decode cX8_deals 185 = .ok (.iload_n 1, 1) := by decide +kernel
theorem dX8_deals_186 : decode cX8_deals 186 = .ok (.iconst 1, 1) := by decide +kernel
theorem dX8_deals_187 : decode cX8_deals 187 = .ok (.invokevirtual 111, 3) := by decide +kernel
theorem dX8_deals_190 : decode cX8_deals 190 = .ok (.goto 47, 3) := by decide +kernel
theorem dX8_deals_193 : decode cX8_deals 193 = .ok (.aload_n 0, 1) := by decide +kernel
theorem dX8_deals_194 : decode cX8_deals 194 = .ok (.iload_n 1, 1) := by decide +kernel
theorem dX8_deals_195 : decode cX8_deals 195 = .ok (.bipush 6, 2) := by decide +kernel
theorem dX8_deals_197 : decode cX8_deals 197 = .ok (.iload_n 3, 1) := by decide +kernel
theorem dX8_deals_198 : decode cX8_deals 198 = .ok (.invokevirtual 63, 3) := by decide +kernel
theorem dX8_deals_201 : decode cX8_deals 201 = .ok (.goto 36, 3) := by decide +kernel
theorem dX8_deals_204 : decode cX8_deals 204 = .ok (.aload_n 0, 1) := by decide +kernel
theorem dX8_deals_205 : decode cX8_deals 205 = .ok (.iload_n 1, 1) := by decide +kernel
theorem dX8_deals_206 : decode cX8_deals 206 = .ok (.iload_n 3, 1) := by decide +kernel
theorem dX8_deals_207 : decode cX8_deals 207 = .ok (.invokevirtual 129, 3) := by decide +kernel
theorem dX8_deals_210 : decode cX8_deals 210 = .ok (.goto 27, 3) := by decide +kernel
theorem dX8_deals_213 : decode cX8_deals 213 = .ok (.aload_n 0, 1) := by decide +kernel
theorem dX8_deals_214 : decode cX8_deals 214 = .ok (.iload_n 1, 1) := by decide +kernel
theorem dX8_deals_215 : decode cX8_deals 215 = .ok (.iload_n 3, 1) := by decide +kernel
theorem dX8_deals_216 : decode cX8_deals 216 = .ok (.iconst 1, 1) := by decide +kernel
theorem dX8_deals_217 : decode cX8_deals 217 = .ok (.invokevirtual 119, 3) := by decide +kernel
def k118_4 : List (Nat × XI) := [(185, x_iload 1 186), (186, x_push (1) 187), (187, x_inv 125 8 2 190), (190, x_goto 237), (193, x_aload 0 194), (194, x_iload 1 195), (195, x_push (6) 197), (197, x_iload 3 198), (198, x_inv 172 8 3 201), (201, x_goto 237), (204, x_aload 0 205), (205, x_iload 1 206), (206, x_iload 3 207), (207, x_inv 119 8 2 210), (210, x_goto 237), (213, x_aload 0 214), (214, x_iload 1 215), (215, x_iload 3 216), (216, x_push (1) 217), (217, x_inv 159 8 3 220)]
theorem o118_4 (scr : Nat × (Nat → Int32)) : ∀ q ∈ k118_4, XSnd xm scr Y118 q.1 q.2 := xcons (s_iload_n rfl dX8_deals_185) (xcons (s_iconst dX8_deals_186 rfl) (xcons (s_inv (mid := 125) xC8 cal_125 xw_501 xw_502 xw_503 dX8_deals_187) (xcons (s_goto dX8_deals_190 rfl) (xcons (s_aload_n rfl dX8_deals_193) (xcons (s_iload_n rfl dX8_deals_194) (xcons (s_bipush dX8_deals_195 rfl) (xcons (s_iload_n rfl dX8_deals_197) (xcons (s_inv (mid := 172) xC8 cal_172 xw_472 xw_473 xw_474 dX8_deals_198) (xcons (s_goto dX8_deals_201 rfl) (xcons (s_aload_n rfl dX8_deals_204) (xcons (s_iload_n rfl dX8_deals_205) (xcons (s_iload_n rfl dX8_deals_206) (xcons (s_inv (mid := 119) xC8 cal_119 xw_536 xw_537 xw_538 dX8_deals_207) (xcons (s_goto dX8_deals_210 rfl) (xcons (s_aload_n rfl dX8_deals_213) (xcons (s_iload_n rfl dX8_deals_214) (xcons (s_iload_n rfl dX8_deals_215) (xcons (s_iconst dX8_deals_216 rfl) (xcons (s_inv (mid := 159) xC8 cal_159 xw_520 xw_521 xw_522 dX8_deals_217) (xnil))))))))))))))))))))
theorem dX8_deals_220 : decode cX8_deals 220 = .ok (.goto 17, 3) := by decide +kernel
theorem dX8_deals_223 : decode cX8_deals 223 = .ok (.aload_n 0, 1) := by decide +kernel
theorem dX8_deals_224 : decode cX8_deals 224 = .ok (.iload_n 1, 1) := by decide +kernel
theorem dX8_deals_225 : decode cX8_deals 225 = .ok (.iload_n 3, 1) := by decide +kernel
theorem dX8_deals_226 : decode cX8_deals 226 = .ok (.invokevirtual 132, 3) := by decide +kernel
theorem dX8_deals_229 : decode cX8_deals 229 = .ok (.goto 8, 3) := by decide +kernel
theorem dX8_deals_232 : decode cX8_deals 232 = .ok (.aload_n 0, 1) := by decide +kernel
theorem dX8_deals_233 : decode cX8_deals 233 = .ok (.iload_n 1, 1) := by decide +kernel
theorem dX8_deals_234 : decode cX8_deals 234 = .ok (.invokevirtual 71, 3) := by decide +kernel
theorem dX8_deals_237 : decode cX8_deals 237 = .ok (.return_, 1) := by decide +kernel
def k118_5 : List (Nat × XI) := [(220, x_goto 237), (223, x_aload 0 224), (224, x_iload 1 225), (225, x_iload 3 226), (226, x_inv 187 8 2 229), (229, x_goto 237), (232, x_aload 0 233), (233, x_iload 1 234), (234, x_inv 176 8 1 237), (237, x_ret)]
theorem o118_5 (scr : Nat × (Nat → Int32)) : ∀ q ∈ k118_5, XSnd xm scr Y118 q.1 q.2 := xcons (s_goto dX8_deals_220 rfl) (xcons (s_aload_n rfl dX8_deals_223) (xcons (s_iload_n rfl dX8_deals_224) (xcons (s_iload_n rfl dX8_deals_225) (xcons (s_inv (mid := 187) xC8 cal_187 xw_540 xw_541 xw_542 dX8_deals_226) (xcons (s_goto dX8_deals_229 rfl) (xcons (s_aload_n rfl dX8_deals_232) (xcons (s_iload_n rfl dX8_deals_233) (xcons (s_inv (mid := 176) xC8 cal_176 xw_544 xw_545 xw_546 dX8_deals_234) (xcons (s_ret dX8_deals_237 rfl) (xnil))))))))))
def k118 (pc : Nat) : XI := if pc < 150 then if pc < 35 then xlk k118_0 pc else if pc < 116 then xlk k118_1 pc else xlk k118_2 pc else if pc < 185 then xlk k118_3 pc else if pc < 220 then xlk k118_4 pc else xlk k118_5 pc
theorem o118 (scr : Nat × (Nat → Int32)) (pc : Nat) : XSnd xm scr Y118 pc (k118 pc) := by
  unfold k118
  exact xite (xite (xlk_ok (o118_0 scr) pc) (xite (xlk_ok (o118_1 scr) pc) (xlk_ok (o118_2 scr) pc))) (xite (xlk_ok (o118_3 scr) pc) (xite (xlk_ok (o118_4 scr) pc) (xlk_ok (o118_5 scr) pc)))
theorem dX8_delays_0 : decode cX8_delays 0 = .ok (.iload_n 2, 1) := by decide +kernel
theorem dX8_delays_1 : decode cX8_delays 1 = .ok (.ifCond .le 84, 3) := by decide +kernel
theorem dX8_delays_4 : decode cX8_delays 4 = .ok (.aload_n 0, 1) := by decide +kernel
theorem dX8_delays_5 : decode cX8_delays 5 = .ok (.getfield 9, 3) := by decide +kernel
theorem dX8_delays_8 : decode cX8_delays 8 = .ok (.sipush 931, 3) := by decide +kernel
theorem dX8_delays_11 : decode cX8_delays 11 = .ok (.iaload, 1) := by decide +kernel
theorem dX8_delays_12 : decode cX8_delays 12 = .ok (.bipush 10, 2) := by decide +kernel
theorem dX8_delays_14 : decode cX8_delays 14 = .ok (.if_icmp .ge 71, 3) := by decide +kernel
theorem dX8_delays_17 : decode cX8_delays 17 = .ok (.sipush 932, 3) := by decide +kernel
theorem dX8_delays_20 : decode cX8_delays 20 = .ok (.iconst 3, 1) := by decide +kernel
theorem dX8_delays_21 : decode cX8_delays 21 = .ok (.aload_n 0, 1) := by decide +kernel
theorem dX8_delays_22 : decode cX8_delays 22 = .ok (.getfield 9, 3) := by decide +kernel
theorem dX8_delays_25 : decode cX8_delays 25 = .ok (.sipush 931, 3) := by decide +kernel
theorem dX8_delays_28 : decode cX8_delays 28 = .ok (.iaload, 1) := by decide +kernel
theorem dX8_delays_29 : decode cX8_delays 29 = .ok (.imul, 1) := by decide +kernel
theorem dX8_delays_30 : decode cX8_delays 30 = .ok (.iadd, 1) := by decide +kernel
theorem dX8_delays_31 : decode cX8_delays 31 = .ok (.istore_n 3, 1) := by decide +kernel
theorem dX8_delays_32 : decode cX8_delays 32 = .ok (.aload_n 0, 1) := by decide +kernel
theorem dX8_delays_33 : decode cX8_delays 33 = .ok (.getfield 9, 3) := by decide +kernel
theorem dX8_delays_36 : decode cX8_delays 36 = .ok (.iload_n 3, 1) := by decide +kernel
def k119_0 : List (Nat × XI) := [(0, x_iload 2 1), (1, x_ifle 85 4), (4, x_aload 0 5), (5, x_getR 8 0 8), (8, x_push (931) 11), (11, x_iald 12), (12, x_push (10) 14), (14, x_icge 85 17), (17, x_push (932) 20), (20, x_push (3) 21), (21, x_aload 0 22), (22, x_getR 8 0 25), (25, x_push (931) 28), (28, x_iald 29), (29, x_imul 30), (30, x_iadd 31), (31, x_istore 3 32), (32, x_aload 0 33), (33, x_getR 8 0 36), (36, x_iload 3 37)]
theorem o119_0 (scr : Nat × (Nat → Int32)) : ∀ q ∈ k119_0, XSnd xm scr Y119 q.1 q.2 := xcons (s_iload_n rfl dX8_delays_0) (xcons (s_ifle dX8_delays_1 rfl) (xcons (s_aload_n rfl dX8_delays_4) (xcons (s_getR (f := 0) xC8 (by decide) xw_470 rfl dX8_delays_5) (xcons (s_sipush dX8_delays_8 rfl) (xcons (s_iald dX8_delays_11) (xcons (s_bipush dX8_delays_12 rfl) (xcons (s_icge dX8_delays_14 rfl) (xcons (s_sipush dX8_delays_17 rfl) (xcons (s_iconst dX8_delays_20 rfl) (xcons (s_aload_n rfl dX8_delays_21) (xcons (s_getR (f := 0) xC8 (by decide) xw_470 rfl dX8_delays_22) (xcons (s_sipush dX8_delays_25 rfl) (xcons (s_iald dX8_delays_28) (xcons (s_imul dX8_delays_29) (xcons (s_iadd dX8_delays_30) (xcons (s_istore_n rfl dX8_delays_31 (by decide)) (xcons (s_aload_n rfl dX8_delays_32) (xcons (s_getR (f := 0) xC8 (by decide) xw_470 rfl dX8_delays_33) (xcons (s_iload_n rfl dX8_delays_36) (xnil))))))))))))))))))))
theorem dX8_delays_37 : decode cX8_delays 37 = .ok (.iload_n 1, 1) := by decide +kernel
theorem dX8_delays_38 : decode cX8_delays 38 = .ok (.iastore, 1) := by decide +kernel
theorem dX8_delays_39 : decode cX8_delays 39 = .ok (.aload_n 0, 1) := by decide +kernel
theorem dX8_delays_40 : decode cX8_delays 40 = .ok (.getfield 9, 3) := by decide +kernel
theorem dX8_delays_43 : decode cX8_delays 43 = .ok (.iload_n 3, 1) := by decide +kernel
theorem dX8_delays_44 : decode cX8_delays 44 = .ok (.iconst 1, 1) := by decide +kernel
theorem dX8_delays_45 : decode cX8_delays 45 = .ok (.iadd, 1) := by decide +kernel
theorem dX8_delays_46 : decode cX8_delays 46 = .ok (.aload_n 0, 1) := by decide +kernel
theorem dX8_delays_47 : decode cX8_delays 47 = .ok (.getfield 9, 3) := by decide +kernel
theorem dX8_delays_50 : decode cX8_delays 50 = .ok (.sipush 925, 3) := by decide +kernel
theorem dX8_delays_53 : decode cX8_delays 53 = .ok (.iaload, 1) := by decide +kernel
theorem dX8_delays_54 : decode cX8_delays 54 = .ok (.iconst 1, 1) := by decide +kernel
theorem dX8_delays_55 : decode cX8_delays 55 = .ok (.iadd, 1) := by decide +kernel
theorem dX8_delays_56 : decode cX8_delays 56 = .ok (.iload_n 2, 1) := by decide +kernel
theorem dX8_delays_57 : decode cX8_delays 57 = .ok (.bipush 8, 2) := by decide +kernel
theorem dX8_delays_59 : decode cX8_delays 59 = .ok (.irem, 1) := by decide +kernel
theorem dX8_delays_60 : decode cX8_delays 60 = .ok (.iadd, 1) := by decide +kernel
theorem dX8_delays_61 : decode cX8_delays 61 = .ok (.iastore, 1) := by decide +kernel
theorem dX8_delays_62 : decode cX8_delays 62 = .ok (.aload_n 0, 1) := by decide +kernel
theorem dX8_delays_63 : decode cX8_delays 63 = .ok (.getfield 9, 3) := by decide +kernel
def k119_1 : List (Nat × XI) := [(37, x_iload 1 38), (38, x_iast 39), (39, x_aload 0 40), (40, x_getR 8 0 43), (43, x_iload 3 44), (44, x_push (1) 45), (45, x_iadd 46), (46, x_aload 0 47), (47, x_getR 8 0 50), (50, x_push (925) 53), (53, x_iald 54), (54, x_push (1) 55), (55, x_iadd 56), (56, x_iload 2 57), (57, x_push (8) 59), (59, x_irem 60), (60, x_iadd 61), (61, x_iast 62), (62, x_aload 0 63), (63, x_getR 8 0 66)]
theorem o119_1 (scr : Nat × (Nat → Int32)) : ∀ q ∈ k119_1, XSnd xm scr Y119 q.1 q.2 := xcons (s_iload_n rfl dX8_delays_37) (xcons (s_iast dX8_delays_38) (xcons (s_aload_n rfl dX8_delays_39) (xcons (s_getR (f := 0) xC8 (by decide) xw_470 rfl dX8_delays_40) (xcons (s_iload_n rfl dX8_delays_43) (xcons (s_iconst dX8_delays_44 rfl) (xcons (s_iadd dX8_delays_45) (xcons (s_aload_n rfl dX8_delays_46) (xcons (s_getR (f := 0) xC8 (by decide) xw_470 rfl dX8_delays_47) (xcons (s_sipush dX8_delays_50 rfl) (xcons (s_iald dX8_delays_53) (xcons (s_iconst dX8_delays_54 rfl) (xcons (s_iadd dX8_delays_55) (xcons (s_iload_n rfl dX8_delays_56) (xcons (s_bipush dX8_delays_57 rfl) (xcons (s_irem dX8_delays_59) (xcons (s_iadd dX8_delays_60) (xcons (s_iast dX8_delays_61) (xcons (s_aload_n rfl dX8_delays_62) (xcons (s_getR (f := 0) xC8 (by decide) xw_470 rfl dX8_delays_63) (xnil))))))))))))))))))))
theorem dX8_delays_66 : decode cX8_delays 66 = .ok (.iload_n 3, 1) := by decide +kernel
theorem dX8_delays_67 : decode cX8_delays 67 = .ok (.iconst 2, 1) := by decide +kernel
theorem dX8_delays_68 : decode cX8_delays 68 = .ok (.iadd, 1) := by decide +kernel
theorem dX8_delays_69 : decode cX8_delays 69 = .ok (.iload_n 2, 1) := by decide +kernel
theorem dX8_delays_70 : decode cX8_delays 70 = .ok (.iconst 1, 1) := by decide +kernel
theorem dX8_delays_71 : decode cX8_delays 71 = .ok (.isub, 1) := by decide +kernel
theorem dX8_delays_72 : decode cX8_delays 72 = .ok (.iastore, 1) := by decide +kernel
theorem dX8_delays_73 : decode cX8_delays 73 = .ok (.aload_n 0, 1) := by decide +kernel
theorem dX8_delays_74 : decode cX8_delays 74 = .ok (.getfield 9, 3) := by decide +kernel
theorem dX8_delays_77 : decode cX8_delays 77 = .ok (.sipush 931, 3) := by decide +kernel
theorem dX8_delays_80 : decode cX8_delays 80 = .ok (.dup2, 1) := by decide +kernel
theorem dX8_delays_81 : decode cX8_delays 81 = .ok (.iaload, 1) := by decide +kernel
theorem dX8_delays_82 : decode cX8_delays 82 = .ok (.iconst 1, 1) := by decide +kernel
theorem dX8_delays_83 : decode cX8_delays 83 = .ok (.iadd, 1) := by decide +kernel
theorem dX8_delays_84 : decode cX8_delays 84 = .ok (.iastore, 1) := by decide +kernel
theorem dX8_delays_85 : decode cX8_delays 85 = .ok (.return_, 1) := by decide +kernel
def k119_2 : List (Nat × XI) := [(66, x_iload 3 67), (67, x_push (2) 68), (68, x_iadd 69), (69, x_iload 2 70), (70, x_push (1) 71), (71, x_isub 72), (72, x_iast 73), (73, x_aload 0 74), (74, x_getR 8 0 77), (77, x_push (931) 80), (80, x_dup2 81), (81, x_iald 82), (82, x_push (1) 83), (83, x_iadd 84), (84, x_iast 85), (85, x_ret)]
theorem o119_2 (scr : Nat × (Nat → Int32)) : ∀ q ∈ k119_2, XSnd xm scr Y119 q.1 q.2 := xcons (s_iload_n rfl dX8_delays_66) (xcons (s_iconst dX8_delays_67 rfl) (xcons (s_iadd dX8_delays_68) (xcons (s_iload_n rfl dX8_delays_69) (xcons (s_iconst dX8_delays_70 rfl) (xcons (s_isub dX8_delays_71) (xcons (s_iast dX8_delays_72) (xcons (s_aload_n rfl dX8_delays_73) (xcons (s_getR (f := 0) xC8 (by decide) xw_470 rfl dX8_delays_74) (xcons (s_sipush dX8_delays_77 rfl) (xcons (s_dup2 dX8_delays_80) (xcons (s_iald dX8_delays_81) (xcons (s_iconst dX8_delays_82 rfl) (xcons (s_iadd dX8_delays_83) (xcons (s_iast dX8_delays_84) (xcons (s_ret dX8_delays_85 rfl) (xnil))))))))))))))))
def k119 (pc : Nat) : XI := if pc < 37 then xlk k119_0 pc else if pc < 66 then xlk k119_1 pc else xlk k119_2 pc
theorem o119 (scr : Nat × (Nat → Int32)) (pc : Nat) : XSnd xm scr Y119 pc (k119 pc) := by
  unfold k119
  exact xite (xlk_ok (o119_0 scr) pc) (xite (xlk_ok (o119_1 scr) pc) (xlk_ok (o119_2 scr) pc))
theorem dX8_does_0 : decode cX8_does 0 = .ok (.iload_n 1, 1) := by decide +kernel
theorem dX8_does_1 : decode cX8_does 1 = .ok (.bipush 97, 2) := by decide +kernel
theorem dX8_does_3 : decode cX8_does 3 = .ok (.if_icmp .ne 126, 3) := by decide +kernel
theorem dX8_does_6 : decode cX8_does 6 = .ok (.aload_n 0, 1) := by decide +kernel
theorem dX8_does_7 : decode cX8_does 7 = .ok (.getfield 48, 3) := by decide +kernel
theorem dX8_does_10 : decode cX8_does 10 = .ok (.iconst 0, 1) := by decide +kernel
theorem dX8_does_11 : decode cX8_does 11 = .ok (.iaload, 1) := by decide +kernel
theorem dX8_does_12 : decode cX8_does 12 = .ok (.bipush 99, 2) := by decide +kernel
theorem dX8_does_14 : decode cX8_does 14 = .ok (.if_icmp .ne 7, 3) := by decide +kernel
theorem dX8_does_17 : decode cX8_does 17 = .ok (.iconst (-1), 1) := by decide +kernel
theorem dX8_does_18 : decode cX8_does 18 = .ok (.goto 9, 3) := by decide +kernel
theorem dX8_does_21 : decode cX8_does 21 = .ok (.aload_n 0, 1) := by decide +kernel
theorem dX8_does_22 : decode cX8_does 22 = .ok (.getfield 48, 3) := by decide +kernel
theorem dX8_does_25 : decode cX8_does 25 = .ok (.iconst 0, 1) := by decide +kernel
theorem dX8_does_26 : decode cX8_does 26 = .ok (.iaload, 1) := by decide +kernel
theorem dX8_does_27 : decode cX8_does 27 = .ok (.istore_n 2, 1) := by decide +kernel
theorem dX8_does_28 : decode cX8_does 28 = .ok (.aload_n 0, 1) := by decide +kernel
theorem dX8_does_29 : decode cX8_does 29 = .ok (.getfield 48, 3) := by decide +kernel
theorem dX8_does_32 : decode cX8_does 32 = .ok (.iconst 2, 1) := by decide +kernel
theorem dX8_does_33 : decode cX8_does 33 = .ok (.iaload, 1) := by decide +kernel
def k120_0 : List (Nat × XI) := [(0, x_iload 1 1), (1, x_push (97) 3), (3, x_icne 129 6), (6, x_aload 0 7), (7, x_getR 8 21 10), (10, x_push (0) 11), (11, x_iald 12), (12, x_push (99) 14), (14, x_icne 21 17), (17, x_push (-1) 18), (18, x_goto 27), (21, x_aload 0 22), (22, x_getR 8 21 25), (25, x_push (0) 26), (26, x_iald 27), (27, x_istore 2 28), (28, x_aload 0 29), (29, x_getR 8 21 32), (32, x_push (2) 33), (33, x_iald 34)]
theorem o120_0 (scr : Nat × (Nat → Int32)) : ∀ q ∈ k120_0, XSnd xm scr Y120 q.1 q.2 := xcons (s_iload_n rfl dX8_does_0) (xcons (s_bipush dX8_does_1 rfl) (xcons (s_icne dX8_does_3 rfl) (xcons (s_aload_n rfl dX8_does_6) (xcons (s_getR (f := 21) xC8 (by decide) xw_547 rfl dX8_does_7) (xcons (s_iconst dX8_does_10 rfl) (xcons (s_iald dX8_does_11) (xcons (s_bipush dX8_does_12 rfl) (xcons (s_icne dX8_does_14 rfl) (xcons (s_iconst dX8_does_17 rfl) (xcons (s_goto dX8_does_18 rfl) (xcons (s_aload_n rfl dX8_does_21) (xcons (s_getR (f := 21) xC8 (by decide) xw_547 rfl dX8_does_22) (xcons (s_iconst dX8_does_25 rfl) (xcons (s_iald dX8_does_26) (xcons (s_istore_n rfl dX8_does_27 (by decide)) (xcons (s_aload_n rfl dX8_does_28) (xcons (s_getR (f := 21) xC8 (by decide) xw_547 rfl dX8_does_29) (xcons (s_iconst dX8_does_32 rfl) (xcons (s_iald dX8_does_33) (xnil))))))))))))))))))))
theorem dX8_does_34 : decode cX8_does 34 = .ok (.iconst 0, 1) := by decide +kernel
theorem dX8_does_35 : decode cX8_does 35 = .ok (.iconst 2, 1) := by decide +kernel
theorem dX8_does_36 : decode cX8_does 36 = .ok (.invokestatic 51, 3) := by decide +kernel
theorem dX8_does_39 : decode cX8_does 39 = .ok (.ifCond .eq 37, 3) := by decide +kernel
theorem dX8_does_42 : decode cX8_does 42 = .ok (.aload_n 0, 1) := by decide +kernel
theorem dX8_does_43 : decode cX8_does 43 = .ok (.getfield 48, 3) := by decide +kernel
theorem dX8_does_46 : decode cX8_does 46 = .ok (.iconst 3, 1) := by decide +kernel
theorem dX8_does_47 : decode cX8_does 47 = .ok (.iaload, 1) := by decide +kernel
theorem dX8_does_48 : decode cX8_does 48 = .ok (.iconst 0, 1) := by decide +kernel
theorem dX8_does_49 : decode cX8_does 49 = .ok (.bipush 9, 2) := by decide +kernel
theorem dX8_does_51 : decode cX8_does 51 = .ok (.invokestatic 51, 3) := by decide +kernel
theorem dX8_does_54 : decode cX8_does 54 = .ok (.ifCond .eq 22, 3) := by decide +kernel
theorem dX8_does_57 : decode cX8_does 57 = .ok (.aload_n 0, 1) := by decide +kernel
theorem dX8_does_58 : decode cX8_does 58 = .ok (.getfield 48, 3) := by decide +kernel
theorem dX8_does_61 : decode cX8_does 61 = .ok (.iconst 4, 1) := by decide +kernel
theorem dX8_does_62 : decode cX8_does 62 = .ok (.iaload, 1) := by decide +kernel
theorem dX8_does_63 : decode cX8_does 63 = .ok (.iconst 1, 1) := by decide +kernel
theorem dX8_does_64 : decode cX8_does 64 = .ok (.bipush 50, 2) := by decide +kernel
theorem dX8_does_66 : decode cX8_does 66 = .ok (.invokestatic 51, 3) := by decide +kernel
theorem dX8_does_69 : decode cX8_does 69 = .ok (.ifCond .eq 7, 3) := by decide +kernel
def k120_1 : List (Nat × XI) := [(34, x_push (0) 35), (35, x_push (2) 36), (36, x_invS 134 3 39), (39, x_ifeq 76 42), (42, x_aload 0 43), (43, x_getR 8 21 46), (46, x_push (3) 47), (47, x_iald 48), (48, x_push (0) 49), (49, x_push (9) 51), (51, x_invS 134 3 54), (54, x_ifeq 76 57), (57, x_aload 0 58), (58, x_getR 8 21 61), (61, x_push (4) 62), (62, x_iald 63), (63, x_push (1) 64), (64, x_push (50) 66), (66, x_invS 134 3 69), (69, x_ifeq 76 72)]
theorem o120_1 (scr : Nat × (Nat → Int32)) : ∀ q ∈ k120_1, XSnd xm scr Y120 q.1 q.2 := xcons (s_iconst dX8_does_34 rfl) (xcons (s_iconst dX8_does_35 rfl) (xcons (s_invS (mid := 134) cal_134 xw_487 xw_488 dX8_does_36) (xcons (s_ifeq dX8_does_39 rfl) (xcons (s_aload_n rfl dX8_does_42) (xcons (s_getR (f := 21) xC8 (by decide) xw_547 rfl dX8_does_43) (xcons (s_iconst dX8_does_46 rfl) (xcons (s_iald dX8_does_47) (xcons (s_iconst dX8_does_48 rfl) (xcons (s_bipush dX8_does_49 rfl) (xcons (s_invS (mid := 134) cal_134 xw_487 xw_488 dX8_does_51) (xcons (s_ifeq dX8_does_54 rfl) (xcons (s_aload_n rfl dX8_does_57) (xcons (s_getR (f := 21) xC8 (by decide) xw_547 rfl dX8_does_58) (xcons (s_iconst dX8_does_61 rfl) (xcons (s_iald dX8_does_62) (xcons (s_iconst dX8_does_63 rfl) (xcons (s_bipush dX8_does_64 rfl) (xcons (s_invS (mid := 134) cal_134 xw_487 xw_488 dX8_does_66) (xcons (s_ifeq dX8_does_69 rfl) (xnil))))))))))))))))))))
theorem dX8_does_72 : decode cX8_does 72 = .ok (.iconst 1, 1) := by decide +kernel
theorem dX8_does_73 : decode cX8_does 73 = .ok (.goto 4, 3) := by decide +kernel
theorem dX8_does_76 : decode cX8_does 76 = .ok (.iconst 0, 1) := by decide +kernel
theorem dX8_does_77 : decode cX8_does 77 = .ok (.istore_n 3, 1) := by decide +kernel
theorem dX8_does_78 : decode cX8_does 78 = .ok (.iload_n 3, 1) := by decide +kernel
theorem dX8_does_79 : decode cX8_does 79 = .ok (.ifCond .eq 48, 3) := by decide +kernel
theorem dX8_does_82 : decode cX8_does 82 = .ok (.aload_n 0, 1) := by decide +kernel
theorem dX8_does_83 : decode cX8_does 83 = .ok (.iload_n 2, 1) := by decide +kernel
theorem dX8_does_84 : decode cX8_does 84 = .ok (.aload_n 0, 1) := by decide +kernel
theorem dX8_does_85 : decode cX8_does 85 = .ok (.getfield 48, 3) := by decide +kernel
theorem dX8_does_88 : decode cX8_does 88 = .ok (.iconst 1, 1) := by decide +kernel
theorem dX8_does_89 : decode cX8_does 89 = .ok (.iaload, 1) := by decide +kernel
theorem dX8_does_90 : decode cX8_does 90 = .ok (.sipush 1000, 3) := by decide +kernel
theorem dX8_does_93 : decode cX8_does 93 = .ok (.aload_n 0, 1) := by decide +kernel
theorem dX8_does_94 : decode cX8_does 94 = .ok (.getfield 48, 3) := by decide +kernel
theorem dX8_does_97 : decode cX8_does 97 = .ok (.iconst 2, 1) := by decide +kernel
theorem dX8_does_98 : decode cX8_does 98 = .ok (.iaload, 1) := by decide +kernel
theorem dX8_does_99 : decode cX8_does 99 = .ok (.imul, 1) := by decide +kernel
theorem dX8_does_100 : decode cX8_does 100 = .ok (.bipush 100, 2) := by decide +kernel
theorem dX8_does_102 : decode cX8_does 102 = .ok (.aload_n 0, 1) := by decide +kernel
def k120_2 : List (Nat × XI) := [(72, x_push (1) 73), (73, x_goto 77), (76, x_push (0) 77), (77, x_istore 3 78), (78, x_iload 3 79), (79, x_ifeq 127 82), (82, x_aload 0 83), (83, x_iload 2 84), (84, x_aload 0 85), (85, x_getR 8 21 88), (88, x_push (1) 89), (89, x_iald 90), (90, x_push (1000) 93), (93, x_aload 0 94), (94, x_getR 8 21 97), (97, x_push (2) 98), (98, x_iald 99), (99, x_imul 100), (100, x_push (100) 102), (102, x_aload 0 103)]
theorem o120_2 (scr : Nat × (Nat → Int32)) : ∀ q ∈ k120_2, XSnd xm scr Y120 q.1 q.2 := xcons (s_iconst dX8_does_72 rfl) (xcons (s_goto dX8_does_73 rfl) (xcons (s_iconst dX8_does_76 rfl) (xcons (s_istore_n rfl dX8_does_77 (by decide)) (xcons (s_iload_n rfl dX8_does_78) (xcons (s_ifeq dX8_does_79 rfl) (xcons (s_aload_n rfl dX8_does_82) (xcons (s_iload_n rfl dX8_does_83) (xcons (s_aload_n rfl dX8_does_84) (xcons (s_getR (f := 21) xC8 (by decide) xw_547 rfl dX8_does_85) (xcons (s_iconst dX8_does_88 rfl) (xcons (s_iald dX8_does_89) (xcons (s_sipush dX8_does_90 rfl) (xcons (s_aload_n rfl dX8_does_93) (xcons (s_getR (f := 21) xC8 (by decide) xw_547 rfl dX8_does_94) (xcons (s_iconst dX8_does_97 rfl) (xcons (s_iald dX8_does_98) (xcons (s_imul dX8_does_99) (xcons (s_bipush dX8_does_100 rfl) (xcons (s_aload_n rfl dX8_does_102) (xnil))))))))))))))))))))
theorem dX8_does_103 : decode cX8_does 103 = .ok (.getfield 48, 3) := by decide +kernel
theorem dX8_does_106 : decode cX8_does 106 = .ok (.iconst 3, 1) := by decide +kernel
theorem dX8_does_107 : decode cX8_does 107 = .ok (.iaload, 1) := by decide +kernel
theorem dX8_does_108 : decode cX8_does 108 = .ok (.imul, 1) := by decide +kernel
theorem dX8_does_109 : decode cX8_does 109 = .ok (.iadd, 1) := by decide +kernel
theorem dX8_does_110 : decode cX8_does 110 = .ok (.aload_n 0, 1) := by decide +kernel
theorem dX8_does_111 : decode cX8_does 111 = .ok (.getfield 48, 3) := by decide +kernel
theorem dX8_does_114 : decode cX8_does 114 = .ok (.iconst 4, 1) := by decide +kernel
theorem dX8_does_115 : decode cX8_does 115 = .ok (.iaload, 1) := by decide +kernel
theorem dX8_does_116 : decode cX8_does 116 = .ok (.iadd, 1) := by decide +kernel
theorem dX8_does_117 : decode cX8_does 117 = .ok (.invokevirtual 229, 3) := by decide +kernel
theorem dX8_does_120 : decode cX8_does 120 = .ok (.ifCond .lt 7, 3) := by decide +kernel
theorem dX8_does_123 : decode cX8_does 123 = .ok (.iconst 1, 1) := by decide +kernel
theorem dX8_does_124 : decode cX8_does 124 = .ok (.goto 4, 3) := by decide +kernel
theorem dX8_does_127 : decode cX8_does 127 = .ok (.iconst 0, 1) := by decide +kernel
theorem dX8_does_128 : decode cX8_does 128 = .ok (.ireturn, 1) := by decide +kernel
theorem dX8_does_129 : decode cX8_does 129 = .ok (.iload_n 1, 1) := by decide +kernel
theorem dX8_does_130 : decode cX8_does 130 = .ok (.bipush 109, 2) := by decide +kernel
theorem dX8_does_132 : decode cX8_does 132 = .ok (.if_icmp .ne 38, 3) := by decide +kernel
theorem dX8_does_135 : decode cX8_does 135 = .ok (.aload_n 0, 1) := by decide +kernel
def k120_3 : List (Nat × XI) := [(103, x_getR 8 21 106), (106, x_push (3) 107), (107, x_iald 108), (108, x_imul 109), (109, x_iadd 110), (110, x_aload 0 111), (111, x_getR 8 21 114), (114, x_push (4) 115), (115, x_iald 116), (116, x_iadd 117), (117, x_inv 107 8 3 120), (120, x_iflt 127 123), (123, x_push (1) 124), (124, x_goto 128), (127, x_push (0) 128), (128, x_zret), (129, x_iload 1 130), (130, x_push (109) 132), (132, x_icne 170 135), (135, x_aload 0 136)]
theorem o120_3 (scr : Nat × (Nat → Int32)) : ∀ q ∈ k120_3, XSnd xm scr Y120 q.1 q.2 := xcons (s_getR (f := 21) xC8 (by decide) xw_547 rfl dX8_does_103) (xcons (s_iconst dX8_does_106 rfl) (xcons (s_iald dX8_does_107) (xcons (s_imul dX8_does_108) (xcons (s_iadd dX8_does_109) (xcons (s_aload_n rfl dX8_does_110) (xcons (s_getR (f := 21) xC8 (by decide) xw_547 rfl dX8_does_111) (xcons (s_iconst dX8_does_114 rfl) (xcons (s_iald dX8_does_115) (xcons (s_iadd dX8_does_116) (xcons (s_inv (mid := 107) xC8 cal_107 xw_549 xw_550 xw_551 dX8_does_117) (xcons (s_iflt dX8_does_120 rfl) (xcons (s_iconst dX8_does_123 rfl) (xcons (s_goto dX8_does_124 rfl) (xcons (s_iconst dX8_does_127 rfl) (xcons (s_zret dX8_does_128 rfl) (xcons (s_iload_n rfl dX8_does_129) (xcons (s_bipush dX8_does_130 rfl) (xcons (s_icne dX8_does_132 rfl) (xcons (s_aload_n rfl dX8_does_135) (xnil))))))))))))))))))))
theorem dX8_does_136 : decode cX8_does 136 = .ok (.aload_n 0, 1) := by decide +kernel
theorem dX8_does_137 : decode cX8_does 137 = .ok (.getfield 48, 3) := by decide +kernel
theorem dX8_does_140 : decode cX8_does 140 = .ok (.iconst 0, 1) := by decide +kernel
theorem dX8_does_141 : decode cX8_does 141 = .ok (.iaload, 1) := by decide +kernel
theorem dX8_does_142 : decode cX8_does 142 = .ok (.invokevirtual 167, 3) := by decide +kernel
theorem dX8_does_145 : decode cX8_does 145 = .ok (.istore_n 2, 1) := by decide +kernel
theorem dX8_does_146 : decode cX8_does 146 = .ok (.iload_n 2, 1) := by decide +kernel
theorem dX8_does_147 : decode cX8_does 147 = .ok (.ifCond .eq 21, 3) := by decide +kernel
theorem dX8_does_150 : decode cX8_does 150 = .ok (.aload_n 0, 1) := by decide +kernel
theorem dX8_does_151 : decode cX8_does 151 = .ok (.aload_n 0, 1) := by decide +kernel
theorem dX8_does_152 : decode cX8_does 152 = .ok (.getfield 48, 3) := by decide +kernel
theorem dX8_does_155 : decode cX8_does 155 = .ok (.iconst 0, 1) := by decide +kernel
theorem dX8_does_156 : decode cX8_does 156 = .ok (.iaload, 1) := by decide +kernel
theorem dX8_does_157 : decode cX8_does 157 = .ok (.iconst (-1), 1) := by decide +kernel
theorem dX8_does_158 : decode cX8_does 158 = .ok (.aload_n 0, 1) := by decide +kernel
theorem dX8_does_159 : decode cX8_does 159 = .ok (.getfield 48, 3) := by decide +kernel
theorem dX8_does_162 : decode cX8_does 162 = .ok (.iconst 1, 1) := by decide +kernel
theorem dX8_does_163 : decode cX8_does 163 = .ok (.iaload, 1) := by decide +kernel
theorem dX8_does_164 : decode cX8_does 164 = .ok (.invokevirtual 84, 3) := by decide +kernel
theorem dX8_does_167 : decode cX8_does 167 = .ok (.pop, 1) := by decide +kernel
def k120_4 : List (Nat × XI) := [(136, x_aload 0 137), (137, x_getR 8 21 140), (140, x_push (0) 141), (141, x_iald 142), (142, x_inv 136 8 1 145), (145, x_istore 2 146), (146, x_iload 2 147), (147, x_ifeq 168 150), (150, x_aload 0 151), (151, x_aload 0 152), (152, x_getR 8 21 155), (155, x_push (0) 156), (156, x_iald 157), (157, x_push (-1) 158), (158, x_aload 0 159), (159, x_getR 8 21 162), (162, x_push (1) 163), (163, x_iald 164), (164, x_inv 171 8 3 167), (167, x_pop 168)]
theorem o120_4 (scr : Nat × (Nat → Int32)) : ∀ q ∈ k120_4, XSnd xm scr Y120 q.1 q.2 := xcons (s_aload_n rfl dX8_does_136) (xcons (s_getR (f := 21) xC8 (by decide) xw_547 rfl dX8_does_137) (xcons (s_iconst dX8_does_140 rfl) (xcons (s_iald dX8_does_141) (xcons (s_inv (mid := 136) xC8 cal_136 xw_483 xw_484 xw_485 dX8_does_142) (xcons (s_istore_n rfl dX8_does_145 (by decide)) (xcons (s_iload_n rfl dX8_does_146) (xcons (s_ifeq dX8_does_147 rfl) (xcons (s_aload_n rfl dX8_does_150) (xcons (s_aload_n rfl dX8_does_151) (xcons (s_getR (f := 21) xC8 (by decide) xw_547 rfl dX8_does_152) (xcons (s_iconst dX8_does_155 rfl) (xcons (s_iald dX8_does_156) (xcons (s_iconst dX8_does_157 rfl) (xcons (s_aload_n rfl dX8_does_158) (xcons (s_getR (f := 21) xC8 (by decide) xw_547 rfl dX8_does_159) (xcons (s_iconst dX8_does_162 rfl) (xcons (s_iald dX8_does_163) (xcons (s_inv (mid := 171) xC8 cal_171 xw_524 xw_525 xw_526 dX8_does_164) (xcons (s_pop dX8_does_167) (xnil))))))))))))))))))))
theorem dX8_does_168 : decode cX8_does 168 = .ok (.iload_n 2, 1) := by decide +kernel
theorem dX8_does_169 : decode cX8_does 169 = .ok (.ireturn, 1) := by decide +kernel
theorem dX8_does_170 : decode cX8_does 170 = .ok (.aload_n 0, 1) := by decide +kernel
theorem dX8_does_171 : decode cX8_does 171 = .ok (.getfield 48, 3) := by decide +kernel
theorem dX8_does_174 : decode cX8_does 174 = .ok (.iconst 0, 1) := by decide +kernel
theorem dX8_does_175 : decode cX8_does 175 = .ok (.iaload, 1) := by decide +kernel
theorem dX8_does_176 : decode cX8_does 176 = .ok (.ifCond .le 20, 3) := by decide +kernel
theorem dX8_does_179 : decode cX8_does 179 = .ok (.aload_n 0, 1) := by decide +kernel
theorem dX8_does_180 : decode cX8_does 180 = .ok (.aload_n 0, 1) := by decide +kernel
theorem dX8_does_181 : decode cX8_does 181 = .ok (.getfield 48, 3) := by decide +kernel
theorem dX8_does_184 : decode cX8_does 184 = .ok (.iconst 0, 1) := by decide +kernel
theorem dX8_does_185 : decode cX8_does 185 = .ok (.iaload, 1) := by decide +kernel
theorem dX8_does_186 : decode cX8_does 186 = .ok (.invokevirtual 232, 3) := by decide +kernel
theorem dX8_does_189 : decode cX8_does 189 = .ok (.ifCond .lt 7, 3) := by decide +kernel
theorem dX8_does_192 : decode cX8_does 192 = .ok (.iconst 1, 1) := by decide +kernel
theorem dX8_does_193 : decode cX8_does 193 = .ok (.goto 4, 3) := by decide +kernel
theorem dX8_does_196 : decode cX8_does 196 = .ok (.iconst 0, 1) := by decide +kernel
theorem dX8_does_197 : decode cX8_does 197 = .ok (.ireturn, 1) := by decide +kernel
def k120_5 : List (Nat × XI) := [(168, x_iload 2 169), (169, x_zret), (170, x_aload 0 171), (171, x_getR 8 21 174), (174, x_push (0) 175), (175, x_iald 176), (176, x_ifle 196 179), (179, x_aload 0 180), (180, x_aload 0 181), (181, x_getR 8 21 184), (184, x_push (0) 185), (185, x_iald 186), (186, x_inv 165 8 1 189), (189, x_iflt 196 192), (192, x_push (1) 193), (193, x_goto 197), (196, x_push (0) 197), (197, x_zret)]
theorem o120_5 (scr : Nat × (Nat → Int32)) : ∀ q ∈ k120_5, XSnd xm scr Y120 q.1 q.2 := xcons (s_iload_n rfl dX8_does_168) (xcons (s_zret dX8_does_169 rfl) (xcons (s_aload_n rfl dX8_does_170) (xcons (s_getR (f := 21) xC8 (by decide) xw_547 rfl dX8_does_171) (xcons (s_iconst dX8_does_174 rfl) (xcons (s_iald dX8_does_175) (xcons (s_ifle dX8_does_176 rfl) (xcons (s_aload_n rfl dX8_does_179) (xcons (s_aload_n rfl dX8_does_180) (xcons (s_getR (f := 21) xC8 (by decide) xw_547 rfl dX8_does_181) (xcons (s_iconst dX8_does_184 rfl) (xcons (s_iald dX8_does_185) (xcons (s_inv (mid := 165) xC8 cal_165 xw_553 xw_554 xw_555 dX8_does_186) (xcons (s_iflt dX8_does_189 rfl) (xcons (s_iconst dX8_does_192 rfl) (xcons (s_goto dX8_does_193 rfl) (xcons (s_iconst dX8_does_196 rfl) (xcons (s_zret dX8_does_197 rfl) (xnil))))))))))))))))))
def k120 (pc : Nat) : XI := if pc < 103 then if pc < 34 then xlk k120_0 pc else if pc < 72 then xlk k120_1 pc else xlk k120_2 pc else if pc < 136 then xlk k120_3 pc else if pc < 168 then xlk k120_4 pc else xlk k120_5 pc
theorem o120 (scr : Nat × (Nat → Int32)) (pc : Nat) : XSnd xm scr Y120 pc (k120 pc) := by
  unfold k120
  exact xite (xite (xlk_ok (o120_0 scr) pc) (xite (xlk_ok (o120_1 scr) pc) (xlk_ok (o120_2 scr) pc))) (xite (xlk_ok (o120_3 scr) pc) (xite (xlk_ok (o120_4 scr) pc) (xlk_ok (o120_5 scr) pc)))
theorem dX8_doing_0 : decode cX8_doing 0 = .ok (.aload_n 0, 1) := by decide +kernel
theorem dX8_doing_1 : decode cX8_doing 1 = .ok (.iload_n 1, 1) := by decide +kernel
theorem dX8_doing_2 : decode cX8_doing 2 = .ok (.bipush 8, 2) := by decide +kernel
theorem dX8_doing_4 : decode cX8_doing 4 = .ok (.aload_n 0, 1) := by decide +kernel
theorem dX8_doing_5 : decode cX8_doing 5 = .ok (.iload_n 1, 1) := by decide +kernel
theorem dX8_doing_6 : decode cX8_doing 6 = .ok (.bipush 7, 2) := by decide +kernel
theorem dX8_doing_8 : decode cX8_doing 8 = .ok (.invokevirtual 55, 3) := by decide +kernel
theorem dX8_doing_11 : decode cX8_doing 11 = .ok (.iadd, 1) := by decide +kernel
theorem dX8_doing_12 : decode cX8_doing 12 = .ok (.iconst 1, 1) := by decide +kernel
theorem dX8_doing_13 : decode cX8_doing 13 = .ok (.isub, 1) := by decide +kernel
theorem dX8_doing_14 : decode cX8_doing 14 = .ok (.invokevirtual 55, 3) := by decide +kernel
theorem dX8_doing_17 : decode cX8_doing 17 = .ok (.ireturn, 1) := by decide +kernel
def k121_0 : List (Nat × XI) := [(0, x_aload 0 1), (1, x_iload 1 2), (2, x_push (8) 4), (4, x_aload 0 5), (5, x_iload 1 6), (6, x_push (7) 8), (8, x_inv 108 8 2 11), (11, x_iadd 12), (12, x_push (1) 13), (13, x_isub 14), (14, x_inv 108 8 2 17), (17, x_iret)]
theorem o121_0 (scr : Nat × (Nat → Int32)) : ∀ q ∈ k121_0, XSnd xm scr Y121 q.1 q.2 := xcons (s_aload_n rfl dX8_doing_0) (xcons (s_iload_n rfl dX8_doing_1) (xcons (s_bipush dX8_doing_2 rfl) (xcons (s_aload_n rfl dX8_doing_4) (xcons (s_iload_n rfl dX8_doing_5) (xcons (s_bipush dX8_doing_6 rfl) (xcons (s_inv (mid := 108) xC8 cal_108 xw_508 xw_509 xw_510 dX8_doing_8) (xcons (s_iadd dX8_doing_11) (xcons (s_iconst dX8_doing_12 rfl) (xcons (s_isub dX8_doing_13) (xcons (s_inv (mid := 108) xC8 cal_108 xw_508 xw_509 xw_510 dX8_doing_14) (xcons (s_iret dX8_doing_17 rfl) (xnil))))))))))))
def k121 (pc : Nat) : XI := xlk k121_0 pc
theorem o121 (scr : Nat × (Nat → Int32)) (pc : Nat) : XSnd xm scr Y121 pc (k121 pc) := by
  unfold k121
  exact xlk_ok (o121_0 scr) pc
theorem dX8_drawn_0 : decode cX8_drawn 0 = .ok (.iload_n 1, 1) := by decide +kernel
theorem dX8_drawn_1 : decode cX8_drawn 1 = .ok (.iconst 1, 1) := by decide +kernel
theorem dX8_drawn_2 : decode cX8_drawn 2 = .ok (.bipush 40, 2) := by decide +kernel
theorem dX8_drawn_4 : decode cX8_drawn 4 = .ok (.invokestatic 51, 3) := by decide +kernel
theorem dX8_drawn_7 : decode cX8_drawn 7 = .ok (.ifCond .ne 5, 3) := by decide +kernel
theorem dX8_drawn_10 : decode cX8_drawn 10 = .ok (.iconst (-1), 1) := by decide +kernel
theorem dX8_drawn_11 : decode cX8_drawn 11 = .ok (.ireturn, 1) := by decide +kernel
theorem dX8_drawn_12 : decode cX8_drawn 12 = .ok (.aload_n 0, 1) := by decide +kernel
theorem dX8_drawn_13 : decode cX8_drawn 13 = .ok (.getfield 9, 3) := by decide +kernel
theorem dX8_drawn_16 : decode cX8_drawn 16 = .ok (.sipush 924, 3) := by decide +kernel
theorem dX8_drawn_19 : decode cX8_drawn 19 = .ok (.iaload, 1) := by decide +kernel
theorem dX8_drawn_20 : decode cX8_drawn 20 = .ok (.ifCond .ne 6, 3) := by decide +kernel
theorem dX8_drawn_23 : decode cX8_drawn 23 = .ok (.bipush (-5), 2) := by decide +kernel
theorem dX8_drawn_25 : decode cX8_drawn 25 = .ok (.ireturn, 1) := by decide +kernel
theorem dX8_drawn_26 : decode cX8_drawn 26 = .ok (.aload_n 0, 1) := by decide +kernel
theorem dX8_drawn_27 : decode cX8_drawn 27 = .ok (.getfield 9, 3) := by decide +kernel
theorem dX8_drawn_30 : decode cX8_drawn 30 = .ok (.sipush 927, 3) := by decide +kernel
theorem dX8_drawn_33 : decode cX8_drawn 33 = .ok (.iaload, 1) := by decide +kernel
theorem dX8_drawn_34 : decode cX8_drawn 34 = .ok (.istore_n 2, 1) := by decide +kernel
theorem dX8_drawn_35 : decode cX8_drawn 35 = .ok (.iconst 0, 1) := by decide +kernel
def k122_0 : List (Nat × XI) := [(0, x_iload 1 1), (1, x_push (1) 2), (2, x_push (40) 4), (4, x_invS 134 3 7), (7, x_ifne 12 10), (10, x_push (-1) 11), (11, x_iret), (12, x_aload 0 13), (13, x_getR 8 0 16), (16, x_push (924) 19), (19, x_iald 20), (20, x_ifne 26 23), (23, x_push (-5) 25), (25, x_iret), (26, x_aload 0 27), (27, x_getR 8 0 30), (30, x_push (927) 33), (33, x_iald 34), (34, x_istore 2 35), (35, x_push (0) 36)]
theorem o122_0 (scr : Nat × (Nat → Int32)) : ∀ q ∈ k122_0, XSnd xm scr Y122 q.1 q.2 := xcons (s_iload_n rfl dX8_drawn_0) (xcons (s_iconst dX8_drawn_1 rfl) (xcons (s_bipush dX8_drawn_2 rfl) (xcons (s_invS (mid := 134) cal_134 xw_487 xw_488 dX8_drawn_4) (xcons (s_ifne dX8_drawn_7 rfl) (xcons (s_iconst dX8_drawn_10 rfl) (xcons (s_iret dX8_drawn_11 rfl) (xcons (s_aload_n rfl dX8_drawn_12) (xcons (s_getR (f := 0) xC8 (by decide) xw_470 rfl dX8_drawn_13) (xcons (s_sipush dX8_drawn_16 rfl) (xcons (s_iald dX8_drawn_19) (xcons (s_ifne dX8_drawn_20 rfl) (xcons (s_bipush dX8_drawn_23 rfl) (xcons (s_iret dX8_drawn_25 rfl) (xcons (s_aload_n rfl dX8_drawn_26) (xcons (s_getR (f := 0) xC8 (by decide) xw_470 rfl dX8_drawn_27) (xcons (s_sipush dX8_drawn_30 rfl) (xcons (s_iald dX8_drawn_33) (xcons (s_istore_n rfl dX8_drawn_34 (by decide)) (xcons (s_iconst dX8_drawn_35 rfl) (xnil))))))))))))))))))))
theorem dX8_drawn_36 : decode cX8_drawn 36 = .ok (.istore_n 3, 1) := by decide +kernel
theorem dX8_drawn_37 : decode cX8_drawn 37 = .ok (.iload_n 3, 1) := by decide +kernel
theorem dX8_drawn_38 : decode cX8_drawn 38 = .ok (.iload_n 1, 1) := by decide +kernel
theorem dX8_drawn_39 : decode cX8_drawn 39 = .ok (.if_icmp .ge 78, 3) := by decide +kernel
theorem dX8_drawn_42 : decode cX8_drawn 42 = .ok (.aload_n 0, 1) := by decide +kernel
theorem dX8_drawn_43 : decode cX8_drawn 43 = .ok (.getfield 9, 3) := by decide +kernel
theorem dX8_drawn_46 : decode cX8_drawn 46 = .ok (.sipush 929, 3) := by decide +kernel
theorem dX8_drawn_49 : decode cX8_drawn 49 = .ok (.aload_n 0, 1) := by decide +kernel
theorem dX8_drawn_50 : decode cX8_drawn 50 = .ok (.getfield 9, 3) := by decide +kernel
theorem dX8_drawn_53 : decode cX8_drawn 53 = .ok (.sipush 929, 3) := by decide +kernel
theorem dX8_drawn_56 : decode cX8_drawn 56 = .ok (.iaload, 1) := by decide +kernel
theorem dX8_drawn_57 : decode cX8_drawn 57 = .ok (.ldc 241, 2) := by decide +kernel
theorem dX8_drawn_59 : decode cX8_drawn 59 = .ok (.imul, 1) := by decide +kernel
theorem dX8_drawn_60 : decode cX8_drawn 60 = .ok (.sipush 12345, 3) := by decide +kernel
theorem dX8_drawn_63 : decode cX8_drawn 63 = .ok (.iadd, 1) := by decide +kernel
theorem dX8_drawn_64 : decode cX8_drawn 64 = .ok (.iastore, 1) := by decide +kernel
theorem dX8_drawn_65 : decode cX8_drawn 65 = .ok (.aload_n 0, 1) := by decide +kernel
theorem dX8_drawn_66 : decode cX8_drawn 66 = .ok (.getfield 9, 3) := by decide +kernel
theorem dX8_drawn_69 : decode cX8_drawn 69 = .ok (.sipush 929, 3) := by decide +kernel
theorem dX8_drawn_72 : decode cX8_drawn 72 = .ok (.iaload, 1) := by decide +kernel
def k122_1 : List (Nat × XI) := [(36, x_istore 3 37), (37, x_iload 3 38), (38, x_iload 1 39), (39, x_icge 117 42), (42, x_aload 0 43), (43, x_getR 8 0 46), (46, x_push (929) 49), (49, x_aload 0 50), (50, x_getR 8 0 53), (53, x_push (929) 56), (56, x_iald 57), (57, x_push (1103515245) 59), (59, x_imul 60), (60, x_push (12345) 63), (63, x_iadd 64), (64, x_iast 65), (65, x_aload 0 66), (66, x_getR 8 0 69), (69, x_push (929) 72), (72, x_iald 73)]
theorem o122_1 (scr : Nat × (Nat → Int32)) : ∀ q ∈ k122_1, XSnd xm scr Y122 q.1 q.2 := xcons (s_istore_n rfl dX8_drawn_36 (by decide)) (xcons (s_iload_n rfl dX8_drawn_37) (xcons (s_iload_n rfl dX8_drawn_38) (xcons (s_icge dX8_drawn_39 rfl) (xcons (s_aload_n rfl dX8_drawn_42) (xcons (s_getR (f := 0) xC8 (by decide) xw_470 rfl dX8_drawn_43) (xcons (s_sipush dX8_drawn_46 rfl) (xcons (s_aload_n rfl dX8_drawn_49) (xcons (s_getR (f := 0) xC8 (by decide) xw_470 rfl dX8_drawn_50) (xcons (s_sipush dX8_drawn_53 rfl) (xcons (s_iald dX8_drawn_56) (xcons (s_ldc dX8_drawn_57 xw_556) (xcons (s_imul dX8_drawn_59) (xcons (s_sipush dX8_drawn_60 rfl) (xcons (s_iadd dX8_drawn_63) (xcons (s_iast dX8_drawn_64) (xcons (s_aload_n rfl dX8_drawn_65) (xcons (s_getR (f := 0) xC8 (by decide) xw_470 rfl dX8_drawn_66) (xcons (s_sipush dX8_drawn_69 rfl) (xcons (s_iald dX8_drawn_72) (xnil))))))))))))))))))))
theorem dX8_drawn_73 : decode cX8_drawn 73 = .ok (.bipush 16, 2) := by decide +kernel
theorem dX8_drawn_75 : decode cX8_drawn 75 = .ok (.iushr, 1) := by decide +kernel
theorem dX8_drawn_76 : decode cX8_drawn 76 = .ok (.sipush 32767, 3) := by decide +kernel
theorem dX8_drawn_79 : decode cX8_drawn 79 = .ok (.iand, 1) := by decide +kernel
theorem dX8_drawn_80 : decode cX8_drawn 80 = .ok (.istore 4, 2) := by decide +kernel
theorem dX8_drawn_82 : decode cX8_drawn 82 = .ok (.aload_n 0, 1) := by decide +kernel
theorem dX8_drawn_83 : decode cX8_drawn 83 = .ok (.iload 4, 2) := by decide +kernel
theorem dX8_drawn_85 : decode cX8_drawn 85 = .ok (.aload_n 0, 1) := by decide +kernel
theorem dX8_drawn_86 : decode cX8_drawn 86 = .ok (.getfield 9, 3) := by decide +kernel
theorem dX8_drawn_89 : decode cX8_drawn 89 = .ok (.sipush 924, 3) := by decide +kernel
theorem dX8_drawn_92 : decode cX8_drawn 92 = .ok (.iaload, 1) := by decide +kernel
theorem dX8_drawn_93 : decode cX8_drawn 93 = .ok (.irem, 1) := by decide +kernel
theorem dX8_drawn_94 : decode cX8_drawn 94 = .ok (.iconst (-1), 1) := by decide +kernel
theorem dX8_drawn_95 : decode cX8_drawn 95 = .ok (.iload 4, 2) := by decide +kernel
theorem dX8_drawn_97 : decode cX8_drawn 97 = .ok (.bipush 12, 2) := by decide +kernel
theorem dX8_drawn_99 : decode cX8_drawn 99 = .ok (.idiv, 1) := by decide +kernel
theorem dX8_drawn_100 : decode cX8_drawn 100 = .ok (.sipush 199, 3) := by decide +kernel
theorem dX8_drawn_103 : decode cX8_drawn 103 = .ok (.irem, 1) := by decide +kernel
theorem dX8_drawn_104 : decode cX8_drawn 104 = .ok (.bipush 99, 2) := by decide +kernel
theorem dX8_drawn_106 : decode cX8_drawn 106 = .ok (.isub, 1) := by decide +kernel
def k122_2 : List (Nat × XI) := [(73, x_push (16) 75), (75, x_iushr 76), (76, x_push (32767) 79), (79, x_iand 80), (80, x_istore 4 82), (82, x_aload 0 83), (83, x_iload 4 85), (85, x_aload 0 86), (86, x_getR 8 0 89), (89, x_push (924) 92), (92, x_iald 93), (93, x_irem 94), (94, x_push (-1) 95), (95, x_iload 4 97), (97, x_push (12) 99), (99, x_idiv 100), (100, x_push (199) 103), (103, x_irem 104), (104, x_push (99) 106), (106, x_isub 107)]
theorem o122_2 (scr : Nat × (Nat → Int32)) : ∀ q ∈ k122_2, XSnd xm scr Y122 q.1 q.2 := xcons (s_bipush dX8_drawn_73 rfl) (xcons (s_iushr dX8_drawn_75) (xcons (s_sipush dX8_drawn_76 rfl) (xcons (s_iand dX8_drawn_79) (xcons (s_istore dX8_drawn_80 (by decide)) (xcons (s_aload_n rfl dX8_drawn_82) (xcons (s_iload dX8_drawn_83) (xcons (s_aload_n rfl dX8_drawn_85) (xcons (s_getR (f := 0) xC8 (by decide) xw_470 rfl dX8_drawn_86) (xcons (s_sipush dX8_drawn_89 rfl) (xcons (s_iald dX8_drawn_92) (xcons (s_irem dX8_drawn_93) (xcons (s_iconst dX8_drawn_94 rfl) (xcons (s_iload dX8_drawn_95) (xcons (s_bipush dX8_drawn_97 rfl) (xcons (s_idiv dX8_drawn_99) (xcons (s_sipush dX8_drawn_100 rfl) (xcons (s_irem dX8_drawn_103) (xcons (s_bipush dX8_drawn_104 rfl) (xcons (s_isub dX8_drawn_106) (xnil))))))))))))))))))))
theorem dX8_drawn_107 : decode cX8_drawn 107 = .ok (.invokevirtual 84, 3) := by decide +kernel
theorem dX8_drawn_110 : decode cX8_drawn 110 = .ok (.pop, 1) := by decide +kernel
theorem dX8_drawn_111 : decode cX8_drawn 111 = .ok (.iinc 3 1, 3) := by decide +kernel
theorem dX8_drawn_114 : decode cX8_drawn 114 = .ok (.goto (-77), 3) := by decide +kernel
theorem dX8_drawn_117 : decode cX8_drawn 117 = .ok (.aload_n 0, 1) := by decide +kernel
theorem dX8_drawn_118 : decode cX8_drawn 118 = .ok (.getfield 9, 3) := by decide +kernel
theorem dX8_drawn_121 : decode cX8_drawn 121 = .ok (.sipush 927, 3) := by decide +kernel
theorem dX8_drawn_124 : decode cX8_drawn 124 = .ok (.iaload, 1) := by decide +kernel
theorem dX8_drawn_125 : decode cX8_drawn 125 = .ok (.iload_n 2, 1) := by decide +kernel
theorem dX8_drawn_126 : decode cX8_drawn 126 = .ok (.isub, 1) := by decide +kernel
theorem dX8_drawn_127 : decode cX8_drawn 127 = .ok (.ireturn, 1) := by decide +kernel
def k122_3 : List (Nat × XI) := [(107, x_inv 171 8 3 110), (110, x_pop 111), (111, x_iinc 3 (1) 114), (114, x_goto 37), (117, x_aload 0 118), (118, x_getR 8 0 121), (121, x_push (927) 124), (124, x_iald 125), (125, x_iload 2 126), (126, x_isub 127), (127, x_iret)]
theorem o122_3 (scr : Nat × (Nat → Int32)) : ∀ q ∈ k122_3, XSnd xm scr Y122 q.1 q.2 := xcons (s_inv (mid := 171) xC8 cal_171 xw_524 xw_525 xw_526 dX8_drawn_107) (xcons (s_pop dX8_drawn_110) (xcons (s_iinc dX8_drawn_111 rfl (by decide)) (xcons (s_goto dX8_drawn_114 rfl) (xcons (s_aload_n rfl dX8_drawn_117) (xcons (s_getR (f := 0) xC8 (by decide) xw_470 rfl dX8_drawn_118) (xcons (s_sipush dX8_drawn_121 rfl) (xcons (s_iald dX8_drawn_124) (xcons (s_iload_n rfl dX8_drawn_125) (xcons (s_isub dX8_drawn_126) (xcons (s_iret dX8_drawn_127 rfl) (xnil)))))))))))
def k122 (pc : Nat) : XI := if pc < 73 then if pc < 36 then xlk k122_0 pc else xlk k122_1 pc else if pc < 107 then xlk k122_2 pc else xlk k122_3 pc
theorem o122 (scr : Nat × (Nat → Int32)) (pc : Nat) : XSnd xm scr Y122 pc (k122 pc) := by
  unfold k122
  exact xite (xite (xlk_ok (o122_0 scr) pc) (xlk_ok (o122_1 scr) pc)) (xite (xlk_ok (o122_2 scr) pc) (xlk_ok (o122_3 scr) pc))
theorem dX8_dry_0 : decode cX8_dry 0 = .ok (.iload_n 1, 1) := by decide +kernel
theorem dX8_dry_1 : decode cX8_dry 1 = .ok (.iconst 1, 1) := by decide +kernel
theorem dX8_dry_2 : decode cX8_dry 2 = .ok (.sipush 200, 3) := by decide +kernel
theorem dX8_dry_5 : decode cX8_dry 5 = .ok (.invokestatic 51, 3) := by decide +kernel
theorem dX8_dry_8 : decode cX8_dry 8 = .ok (.ifCond .eq 29, 3) := by decide +kernel
theorem dX8_dry_11 : decode cX8_dry 11 = .ok (.iload_n 2, 1) := by decide +kernel
theorem dX8_dry_12 : decode cX8_dry 12 = .ok (.iconst 0, 1) := by decide +kernel
theorem dX8_dry_13 : decode cX8_dry 13 = .ok (.iconst 5, 1) := by decide +kernel
theorem dX8_dry_14 : decode cX8_dry 14 = .ok (.invokestatic 51, 3) := by decide +kernel
theorem dX8_dry_17 : decode cX8_dry 17 = .ok (.ifCond .ne 23, 3) := by decide +kernel
theorem dX8_dry_20 : decode cX8_dry 20 = .ok (.iload_n 2, 1) := by decide +kernel
theorem dX8_dry_21 : decode cX8_dry 21 = .ok (.bipush 10, 2) := by decide +kernel
theorem dX8_dry_23 : decode cX8_dry 23 = .ok (.if_icmp .lt 14, 3) := by decide +kernel
theorem dX8_dry_26 : decode cX8_dry 26 = .ok (.aload_n 0, 1) := by decide +kernel
theorem dX8_dry_27 : decode cX8_dry 27 = .ok (.iload_n 2, 1) := by decide +kernel
theorem dX8_dry_28 : decode cX8_dry 28 = .ok (.bipush 10, 2) := by decide +kernel
theorem dX8_dry_30 : decode cX8_dry 30 = .ok (.isub, 1) := by decide +kernel
theorem dX8_dry_31 : decode cX8_dry 31 = .ok (.invokevirtual 167, 3) := by decide +kernel
theorem dX8_dry_34 : decode cX8_dry 34 = .ok (.ifCond .ne 6, 3) := by decide +kernel
theorem dX8_dry_37 : decode cX8_dry 37 = .ok (.ldc 186, 2) := by decide +kernel
def k123_0 : List (Nat × XI) := [(0, x_iload 1 1), (1, x_push (1) 2), (2, x_push (200) 5), (5, x_invS 134 3 8), (8, x_ifeq 37 11), (11, x_iload 2 12), (12, x_push (0) 13), (13, x_push (5) 14), (14, x_invS 134 3 17), (17, x_ifne 40 20), (20, x_iload 2 21), (21, x_push (10) 23), (23, x_iclt 37 26), (26, x_aload 0 27), (27, x_iload 2 28), (28, x_push (10) 30), (30, x_isub 31), (31, x_inv 136 8 1 34), (34, x_ifne 40 37), (37, x_push (-2000000000) 39)]
theorem o123_0 (scr : Nat × (Nat → Int32)) : ∀ q ∈ k123_0, XSnd xm scr Y123 q.1 q.2 := xcons (s_iload_n rfl dX8_dry_0) (xcons (s_iconst dX8_dry_1 rfl) (xcons (s_sipush dX8_dry_2 rfl) (xcons (s_invS (mid := 134) cal_134 xw_487 xw_488 dX8_dry_5) (xcons (s_ifeq dX8_dry_8 rfl) (xcons (s_iload_n rfl dX8_dry_11) (xcons (s_iconst dX8_dry_12 rfl) (xcons (s_iconst dX8_dry_13 rfl) (xcons (s_invS (mid := 134) cal_134 xw_487 xw_488 dX8_dry_14) (xcons (s_ifne dX8_dry_17 rfl) (xcons (s_iload_n rfl dX8_dry_20) (xcons (s_bipush dX8_dry_21 rfl) (xcons (s_iclt dX8_dry_23 rfl) (xcons (s_aload_n rfl dX8_dry_26) (xcons (s_iload_n rfl dX8_dry_27) (xcons (s_bipush dX8_dry_28 rfl) (xcons (s_isub dX8_dry_30) (xcons (s_inv (mid := 136) xC8 cal_136 xw_483 xw_484 xw_485 dX8_dry_31) (xcons (s_ifne dX8_dry_34 rfl) (xcons (s_ldc dX8_dry_37 xw_493) (xnil))))))))))))))))))))
theorem dX8_dry_39 : decode cX8_dry 39 = .ok (.ireturn, 1) := by decide +kernel
theorem dX8_dry_40 : decode cX8_dry 40 = .ok (.aload_n 0, 1) := by decide +kernel
theorem dX8_dry_41 : decode cX8_dry 41 = .ok (.getfield 9, 3) := by decide +kernel
theorem dX8_dry_44 : decode cX8_dry 44 = .ok (.aload_n 0, 1) := by decide +kernel
theorem dX8_dry_45 : decode cX8_dry 45 = .ok (.getfield 13, 3) := by decide +kernel
theorem dX8_dry_48 : decode cX8_dry 48 = .ok (.invokestatic 200, 3) := by decide +kernel
theorem dX8_dry_51 : decode cX8_dry 51 = .ok (.aload_n 0, 1) := by decide +kernel
theorem dX8_dry_52 : decode cX8_dry 52 = .ok (.iload_n 1, 1) := by decide +kernel
theorem dX8_dry_53 : decode cX8_dry 53 = .ok (.invokevirtual 197, 3) := by decide +kernel
theorem dX8_dry_56 : decode cX8_dry 56 = .ok (.istore_n 3, 1) := by decide +kernel
theorem dX8_dry_57 : decode cX8_dry 57 = .ok (.iload_n 2, 1) := by decide +kernel
theorem dX8_dry_58 : decode cX8_dry 58 = .ok (.tableswitch 101 0 5 #[38, 44, 53, 62, 75, 88], 38) := by decide +kernel
theorem dX8_dry_96 : decode cX8_dry 96 = .ok (.iload_n 3, 1) := by decide +kernel
theorem dX8_dry_97 : decode cX8_dry 97 = .ok (.istore 4, 2) := by decide +kernel
theorem dX8_dry_99 : decode cX8_dry 99 = .ok (.goto 72, 3) := by decide +kernel
theorem dX8_dry_102 : decode cX8_dry 102 = .ok (.aload_n 0, 1) := by decide +kernel
theorem dX8_dry_103 : decode cX8_dry 103 = .ok (.getfield 158, 3) := by decide +kernel
theorem dX8_dry_106 : decode cX8_dry 106 = .ok (.istore 4, 2) := by decide +kernel
theorem dX8_dry_108 : decode cX8_dry 108 = .ok (.goto 63, 3) := by decide +kernel
theorem dX8_dry_111 : decode cX8_dry 111 = .ok (.aload_n 0, 1) := by decide +kernel
def k123_1 : List (Nat × XI) := [(39, x_iret), (40, x_aload 0 41), (41, x_getR 8 0 44), (44, x_aload 0 45), (45, x_getR 8 1 48), (48, x_invS 179 2 51), (51, x_aload 0 52), (52, x_iload 1 53), (53, x_inv 166 8 1 56), (56, x_istore 3 57), (57, x_iload 2 58), (58, x_tsw (0) (5) [96, 102, 111, 120, 133, 146] 159), (96, x_iload 3 97), (97, x_istore 4 99), (99, x_goto 171), (102, x_aload 0 103), (103, x_getI 8 18 106), (106, x_istore 4 108), (108, x_goto 171), (111, x_aload 0 112)]
theorem o123_1 (scr : Nat × (Nat → Int32)) : ∀ q ∈ k123_1, XSnd xm scr Y123 q.1 q.2 := xcons (s_iret dX8_dry_39 rfl) (xcons (s_aload_n rfl dX8_dry_40) (xcons (s_getR (f := 0) xC8 (by decide) xw_470 rfl dX8_dry_41) (xcons (s_aload_n rfl dX8_dry_44) (xcons (s_getR (f := 1) xC8 (by decide) xw_494 rfl dX8_dry_45) (xcons (s_invS (mid := 179) cal_179 xw_478 xw_479 dX8_dry_48) (xcons (s_aload_n rfl dX8_dry_51) (xcons (s_iload_n rfl dX8_dry_52) (xcons (s_inv (mid := 166) xC8 cal_166 xw_558 xw_559 xw_560 dX8_dry_53) (xcons (s_istore_n rfl dX8_dry_56 (by decide)) (xcons (s_iload_n rfl dX8_dry_57) (xcons (s_tsw dX8_dry_58 rfl rfl) (xcons (s_iload_n rfl dX8_dry_96) (xcons (s_istore dX8_dry_97 (by decide)) (xcons (s_goto dX8_dry_99 rfl) (xcons (s_aload_n rfl dX8_dry_102) (xcons (s_getI (f := 18) xC8 (by decide) xw_561 rfl dX8_dry_103) (xcons (s_istore dX8_dry_106 (by decide)) (xcons (s_goto dX8_dry_108 rfl) (xcons (s_aload_n rfl dX8_dry_111) (xnil))))))))))))))))))))
theorem dX8_dry_112 : decode cX8_dry 112 = .ok (.invokevirtual 191, 3) := by decide +kernel
theorem dX8_dry_115 : decode cX8_dry 115 = .ok (.istore 4, 2) := by decide +kernel
theorem dX8_dry_117 : decode cX8_dry 117 = .ok (.goto 54, 3) := by decide +kernel
theorem dX8_dry_120 : decode cX8_dry 120 = .ok (.aload_n 0, 1) := by decide +kernel
theorem dX8_dry_121 : decode cX8_dry 121 = .ok (.getfield 9, 3) := by decide +kernel
theorem dX8_dry_124 : decode cX8_dry 124 = .ok (.sipush 927, 3) := by decide +kernel
theorem dX8_dry_127 : decode cX8_dry 127 = .ok (.iaload, 1) := by decide +kernel
theorem dX8_dry_128 : decode cX8_dry 128 = .ok (.istore 4, 2) := by decide +kernel
theorem dX8_dry_130 : decode cX8_dry 130 = .ok (.goto 41, 3) := by decide +kernel
theorem dX8_dry_133 : decode cX8_dry 133 = .ok (.aload_n 0, 1) := by decide +kernel
theorem dX8_dry_134 : decode cX8_dry 134 = .ok (.getfield 9, 3) := by decide +kernel
theorem dX8_dry_137 : decode cX8_dry 137 = .ok (.sipush 926, 3) := by decide +kernel
theorem dX8_dry_140 : decode cX8_dry 140 = .ok (.iaload, 1) := by decide +kernel
theorem dX8_dry_141 : decode cX8_dry 141 = .ok (.istore 4, 2) := by decide +kernel
theorem dX8_dry_143 : decode cX8_dry 143 = .ok (.goto 28, 3) := by decide +kernel
theorem dX8_dry_146 : decode cX8_dry 146 = .ok (.aload_n 0, 1) := by decide +kernel
theorem dX8_dry_147 : decode cX8_dry 147 = .ok (.getfield 9, 3) := by decide +kernel
theorem dX8_dry_150 : decode cX8_dry 150 = .ok (.sipush 925, 3) := by decide +kernel
theorem dX8_dry_153 : decode cX8_dry 153 = .ok (.iaload, 1) := by decide +kernel
theorem dX8_dry_154 : decode cX8_dry 154 = .ok (.istore 4, 2) := by decide +kernel
def k123_2 : List (Nat × XI) := [(112, x_inv 147 8 0 115), (115, x_istore 4 117), (117, x_goto 171), (120, x_aload 0 121), (121, x_getR 8 0 124), (124, x_push (927) 127), (127, x_iald 128), (128, x_istore 4 130), (130, x_goto 171), (133, x_aload 0 134), (134, x_getR 8 0 137), (137, x_push (926) 140), (140, x_iald 141), (141, x_istore 4 143), (143, x_goto 171), (146, x_aload 0 147), (147, x_getR 8 0 150), (150, x_push (925) 153), (153, x_iald 154), (154, x_istore 4 156)]
theorem o123_2 (scr : Nat × (Nat → Int32)) : ∀ q ∈ k123_2, XSnd xm scr Y123 q.1 q.2 := xcons (s_inv (mid := 147) xC8 cal_147 xw_496 xw_497 xw_498 dX8_dry_112) (xcons (s_istore dX8_dry_115 (by decide)) (xcons (s_goto dX8_dry_117 rfl) (xcons (s_aload_n rfl dX8_dry_120) (xcons (s_getR (f := 0) xC8 (by decide) xw_470 rfl dX8_dry_121) (xcons (s_sipush dX8_dry_124 rfl) (xcons (s_iald dX8_dry_127) (xcons (s_istore dX8_dry_128 (by decide)) (xcons (s_goto dX8_dry_130 rfl) (xcons (s_aload_n rfl dX8_dry_133) (xcons (s_getR (f := 0) xC8 (by decide) xw_470 rfl dX8_dry_134) (xcons (s_sipush dX8_dry_137 rfl) (xcons (s_iald dX8_dry_140) (xcons (s_istore dX8_dry_141 (by decide)) (xcons (s_goto dX8_dry_143 rfl) (xcons (s_aload_n rfl dX8_dry_146) (xcons (s_getR (f := 0) xC8 (by decide) xw_470 rfl dX8_dry_147) (xcons (s_sipush dX8_dry_150 rfl) (xcons (s_iald dX8_dry_153) (xcons (s_istore dX8_dry_154 (by decide)) (xnil))))))))))))))))))))
theorem dX8_dry_156 : decode cX8_dry 156 = .ok (.goto 15, 3) := by decide +kernel
theorem dX8_dry_159 : decode cX8_dry 159 = .ok (.aload_n 0, 1) := by decide +kernel
theorem dX8_dry_160 : decode cX8_dry 160 = .ok (.iload_n 2, 1) := by decide +kernel
theorem dX8_dry_161 : decode cX8_dry 161 = .ok (.bipush 10, 2) := by decide +kernel
theorem dX8_dry_163 : decode cX8_dry 163 = .ok (.isub, 1) := by decide +kernel
theorem dX8_dry_164 : decode cX8_dry 164 = .ok (.bipush 6, 2) := by decide +kernel
theorem dX8_dry_166 : decode cX8_dry 166 = .ok (.invokevirtual 55, 3) := by decide +kernel
theorem dX8_dry_169 : decode cX8_dry 169 = .ok (.istore 4, 2) := by decide +kernel
theorem dX8_dry_171 : decode cX8_dry 171 = .ok (.aload_n 0, 1) := by decide +kernel
theorem dX8_dry_172 : decode cX8_dry 172 = .ok (.getfield 13, 3) := by decide +kernel
theorem dX8_dry_175 : decode cX8_dry 175 = .ok (.aload_n 0, 1) := by decide +kernel
theorem dX8_dry_176 : decode cX8_dry 176 = .ok (.getfield 9, 3) := by decide +kernel
theorem dX8_dry_179 : decode cX8_dry 179 = .ok (.invokestatic 200, 3) := by decide +kernel
theorem dX8_dry_182 : decode cX8_dry 182 = .ok (.iload 4, 2) := by decide +kernel
theorem dX8_dry_184 : decode cX8_dry 184 = .ok (.ireturn, 1) := by decide +kernel
def k123_3 : List (Nat × XI) := [(156, x_goto 171), (159, x_aload 0 160), (160, x_iload 2 161), (161, x_push (10) 163), (163, x_isub 164), (164, x_push (6) 166), (166, x_inv 108 8 2 169), (169, x_istore 4 171), (171, x_aload 0 172), (172, x_getR 8 1 175), (175, x_aload 0 176), (176, x_getR 8 0 179), (179, x_invS 179 2 182), (182, x_iload 4 184), (184, x_iret)]
theorem o123_3 (scr : Nat × (Nat → Int32)) : ∀ q ∈ k123_3, XSnd xm scr Y123 q.1 q.2 := xcons (s_goto dX8_dry_156 rfl) (xcons (s_aload_n rfl dX8_dry_159) (xcons (s_iload_n rfl dX8_dry_160) (xcons (s_bipush dX8_dry_161 rfl) (xcons (s_isub dX8_dry_163) (xcons (s_bipush dX8_dry_164 rfl) (xcons (s_inv (mid := 108) xC8 cal_108 xw_508 xw_509 xw_510 dX8_dry_166) (xcons (s_istore dX8_dry_169 (by decide)) (xcons (s_aload_n rfl dX8_dry_171) (xcons (s_getR (f := 1) xC8 (by decide) xw_494 rfl dX8_dry_172) (xcons (s_aload_n rfl dX8_dry_175) (xcons (s_getR (f := 0) xC8 (by decide) xw_470 rfl dX8_dry_176) (xcons (s_invS (mid := 179) cal_179 xw_478 xw_479 dX8_dry_179) (xcons (s_iload dX8_dry_182) (xcons (s_iret dX8_dry_184 rfl) (xnil)))))))))))))))
def k123 (pc : Nat) : XI := if pc < 112 then if pc < 39 then xlk k123_0 pc else xlk k123_1 pc else if pc < 156 then xlk k123_2 pc else xlk k123_3 pc
theorem o123 (scr : Nat × (Nat → Int32)) (pc : Nat) : XSnd xm scr Y123 pc (k123 pc) := by
  unfold k123
  exact xite (xite (xlk_ok (o123_0 scr) pc) (xlk_ok (o123_1 scr) pc)) (xite (xlk_ok (o123_2 scr) pc) (xlk_ok (o123_3 scr) pc))
theorem dX8_ended_0 : decode cX8_ended 0 = .ok (.aload_n 0, 1) := by decide +kernel
theorem dX8_ended_1 : decode cX8_ended 1 = .ok (.getfield 9, 3) := by decide +kernel
theorem dX8_ended_4 : decode cX8_ended 4 = .ok (.sipush 930, 3) := by decide +kernel
theorem dX8_ended_7 : decode cX8_ended 7 = .ok (.iaload, 1) := by decide +kernel
theorem dX8_ended_8 : decode cX8_ended 8 = .ok (.ireturn, 1) := by decide +kernel
def k124_0 : List (Nat × XI) := [(0, x_aload 0 1), (1, x_getR 8 0 4), (4, x_push (930) 7), (7, x_iald 8), (8, x_iret)]
theorem o124_0 (scr : Nat × (Nat → Int32)) : ∀ q ∈ k124_0, XSnd xm scr Y124 q.1 q.2 := xcons (s_aload_n rfl dX8_ended_0) (xcons (s_getR (f := 0) xC8 (by decide) xw_470 rfl dX8_ended_1) (xcons (s_sipush dX8_ended_4 rfl) (xcons (s_iald dX8_ended_7) (xcons (s_iret dX8_ended_8 rfl) (xnil)))))
def k124 (pc : Nat) : XI := xlk k124_0 pc
theorem o124 (scr : Nat × (Nat → Int32)) (pc : Nat) : XSnd xm scr Y124 pc (k124 pc) := by
  unfold k124
  exact xlk_ok (o124_0 scr) pc
theorem dX8_fails_0 : decode cX8_fails 0 = .ok (.aload_n 0, 1) := by decide +kernel
theorem dX8_fails_1 : decode cX8_fails 1 = .ok (.iconst 1, 1) := by decide +kernel
theorem dX8_fails_2 : decode cX8_fails 2 = .ok (.putfield 98, 3) := by decide +kernel
theorem dX8_fails_5 : decode cX8_fails 5 = .ok (.aload_n 0, 1) := by decide +kernel
theorem dX8_fails_6 : decode cX8_fails 6 = .ok (.iconst 0, 1) := by decide +kernel
theorem dX8_fails_7 : decode cX8_fails 7 = .ok (.putfield 102, 3) := by decide +kernel
theorem dX8_fails_10 : decode cX8_fails 10 = .ok (.iload_n 1, 1) := by decide +kernel
theorem dX8_fails_11 : decode cX8_fails 11 = .ok (.istore_n 3, 1) := by decide +kernel
theorem dX8_fails_12 : decode cX8_fails 12 = .ok (.aload_n 0, 1) := by decide +kernel
theorem dX8_fails_13 : decode cX8_fails 13 = .ok (.getfield 22, 3) := by decide +kernel
theorem dX8_fails_16 : decode cX8_fails 16 = .ok (.iconst 0, 1) := by decide +kernel
theorem dX8_fails_17 : decode cX8_fails 17 = .ok (.iload_n 1, 1) := by decide +kernel
theorem dX8_fails_18 : decode cX8_fails 18 = .ok (.iastore, 1) := by decide +kernel
theorem dX8_fails_19 : decode cX8_fails 19 = .ok (.aload_n 0, 1) := by decide +kernel
theorem dX8_fails_20 : decode cX8_fails 20 = .ok (.getfield 22, 3) := by decide +kernel
theorem dX8_fails_23 : decode cX8_fails 23 = .ok (.iconst 1, 1) := by decide +kernel
theorem dX8_fails_24 : decode cX8_fails 24 = .ok (.iload_n 2, 1) := by decide +kernel
theorem dX8_fails_25 : decode cX8_fails 25 = .ok (.iastore, 1) := by decide +kernel
theorem dX8_fails_26 : decode cX8_fails 26 = .ok (.aload_n 0, 1) := by decide +kernel
theorem dX8_fails_27 : decode cX8_fails 27 = .ok (.iconst 1, 1) := by decide +kernel
def k125_0 : List (Nat × XI) := [(0, x_aload 0 1), (1, x_push (1) 2), (2, x_putZ 8 5 5), (5, x_aload 0 6), (6, x_push (0) 7), (7, x_putI 8 9 10), (10, x_iload 1 11), (11, x_istore 3 12), (12, x_aload 0 13), (13, x_getR 8 8 16), (16, x_push (0) 17), (17, x_iload 1 18), (18, x_iast 19), (19, x_aload 0 20), (20, x_getR 8 8 23), (23, x_push (1) 24), (24, x_iload 2 25), (25, x_iast 26), (26, x_aload 0 27), (27, x_push (1) 28)]
theorem o125_0 (scr : Nat × (Nat → Int32)) : ∀ q ∈ k125_0, XSnd xm scr Y125 q.1 q.2 := xcons (s_aload_n rfl dX8_fails_0) (xcons (s_iconst dX8_fails_1 rfl) (xcons (s_putZ (f := 5) xC8 (by decide) xw_562 rfl (Or.inl rfl) dX8_fails_2) (xcons (s_aload_n rfl dX8_fails_5) (xcons (s_iconst dX8_fails_6 rfl) (xcons (s_putI (f := 9) xC8 (by decide) xw_563 rfl (Or.inl rfl) dX8_fails_7) (xcons (s_iload_n rfl dX8_fails_10) (xcons (s_istore_n rfl dX8_fails_11 (by decide)) (xcons (s_aload_n rfl dX8_fails_12) (xcons (s_getR (f := 8) xC8 (by decide) xw_564 rfl dX8_fails_13) (xcons (s_iconst dX8_fails_16 rfl) (xcons (s_iload_n rfl dX8_fails_17) (xcons (s_iast dX8_fails_18) (xcons (s_aload_n rfl dX8_fails_19) (xcons (s_getR (f := 8) xC8 (by decide) xw_564 rfl dX8_fails_20) (xcons (s_iconst dX8_fails_23 rfl) (xcons (s_iload_n rfl dX8_fails_24) (xcons (s_iast dX8_fails_25) (xcons (s_aload_n rfl dX8_fails_26) (xcons (s_iconst dX8_fails_27 rfl) (xnil))))))))))))))))))))
theorem dX8_fails_28 : decode cX8_fails 28 = .ok (.putfield 102, 3) := by decide +kernel
theorem dX8_fails_31 : decode cX8_fails 31 = .ok (.iconst 1, 1) := by decide +kernel
theorem dX8_fails_32 : decode cX8_fails 32 = .ok (.istore 4, 2) := by decide +kernel
theorem dX8_fails_34 : decode cX8_fails 34 = .ok (.iload 4, 2) := by decide +kernel
theorem dX8_fails_36 : decode cX8_fails 36 = .ok (.ifCond .eq 81, 3) := by decide +kernel
theorem dX8_fails_39 : decode cX8_fails 39 = .ok (.aload_n 0, 1) := by decide +kernel
theorem dX8_fails_40 : decode cX8_fails 40 = .ok (.iload_n 3, 1) := by decide +kernel
theorem dX8_fails_41 : decode cX8_fails 41 = .ok (.iconst 0, 1) := by decide +kernel
theorem dX8_fails_42 : decode cX8_fails 42 = .ok (.invokevirtual 55, 3) := by decide +kernel
theorem dX8_fails_45 : decode cX8_fails 45 = .ok (.istore 5, 2) := by decide +kernel
theorem dX8_fails_47 : decode cX8_fails 47 = .ok (.iload 5, 2) := by decide +kernel
theorem dX8_fails_49 : decode cX8_fails 49 = .ok (.ifCond .lt 16, 3) := by decide +kernel
theorem dX8_fails_52 : decode cX8_fails 52 = .ok (.aload_n 0, 1) := by decide +kernel
theorem dX8_fails_53 : decode cX8_fails 53 = .ok (.iload 5, 2) := by decide +kernel
theorem dX8_fails_55 : decode cX8_fails 55 = .ok (.invokevirtual 105, 3) := by decide +kernel
theorem dX8_fails_58 : decode cX8_fails 58 = .ok (.ifCond .eq 7, 3) := by decide +kernel
theorem dX8_fails_61 : decode cX8_fails 61 = .ok (.iconst 1, 1) := by decide +kernel
theorem dX8_fails_62 : decode cX8_fails 62 = .ok (.goto 4, 3) := by decide +kernel
theorem dX8_fails_65 : decode cX8_fails 65 = .ok (.iconst 0, 1) := by decide +kernel
theorem dX8_fails_66 : decode cX8_fails 66 = .ok (.istore 4, 2) := by decide +kernel
def k125_1 : List (Nat × XI) := [(28, x_putI 8 9 31), (31, x_push (1) 32), (32, x_istore 4 34), (34, x_iload 4 36), (36, x_ifeq 117 39), (39, x_aload 0 40), (40, x_iload 3 41), (41, x_push (0) 42), (42, x_inv 108 8 2 45), (45, x_istore 5 47), (47, x_iload 5 49), (49, x_iflt 65 52), (52, x_aload 0 53), (53, x_iload 5 55), (55, x_inv 144 8 1 58), (58, x_ifeq 65 61), (61, x_push (1) 62), (62, x_goto 66), (65, x_push (0) 66), (66, x_istore 4 68)]
theorem o125_1 (scr : Nat × (Nat → Int32)) : ∀ q ∈ k125_1, XSnd xm scr Y125 q.1 q.2 := xcons (s_putI (f := 9) xC8 (by decide) xw_563 rfl (Or.inl rfl) dX8_fails_28) (xcons (s_iconst dX8_fails_31 rfl) (xcons (s_istore dX8_fails_32 (by decide)) (xcons (s_iload dX8_fails_34) (xcons (s_ifeq dX8_fails_36 rfl) (xcons (s_aload_n rfl dX8_fails_39) (xcons (s_iload_n rfl dX8_fails_40) (xcons (s_iconst dX8_fails_41 rfl) (xcons (s_inv (mid := 108) xC8 cal_108 xw_508 xw_509 xw_510 dX8_fails_42) (xcons (s_istore dX8_fails_45 (by decide)) (xcons (s_iload dX8_fails_47) (xcons (s_iflt dX8_fails_49 rfl) (xcons (s_aload_n rfl dX8_fails_52) (xcons (s_iload dX8_fails_53) (xcons (s_inv (mid := 144) xC8 cal_144 xw_566 xw_567 xw_568 dX8_fails_55) (xcons (s_ifeq dX8_fails_58 rfl) (xcons (s_iconst dX8_fails_61 rfl) (xcons (s_goto dX8_fails_62 rfl) (xcons (s_iconst dX8_fails_65 rfl) (xcons (s_istore dX8_fails_66 (by decide)) (xnil))))))))))))))))))))
theorem dX8_fails_68 : decode cX8_fails 68 = .ok (.iload 4, 2) := by decide +kernel
theorem dX8_fails_70 : decode cX8_fails 70 = .ok (.ifCond .eq 44, 3) := by decide +kernel
theorem dX8_fails_73 : decode cX8_fails 73 = .ok (.iload 5, 2) := by decide +kernel
theorem dX8_fails_75 : decode cX8_fails 75 = .ok (.istore_n 3, 1) := by decide +kernel
theorem dX8_fails_76 : decode cX8_fails 76 = .ok (.aload_n 0, 1) := by decide +kernel
theorem dX8_fails_77 : decode cX8_fails 77 = .ok (.getfield 22, 3) := by decide +kernel
theorem dX8_fails_80 : decode cX8_fails 80 = .ok (.iconst 2, 1) := by decide +kernel
theorem dX8_fails_81 : decode cX8_fails 81 = .ok (.aload_n 0, 1) := by decide +kernel
theorem dX8_fails_82 : decode cX8_fails 82 = .ok (.getfield 102, 3) := by decide +kernel
theorem dX8_fails_85 : decode cX8_fails 85 = .ok (.imul, 1) := by decide +kernel
theorem dX8_fails_86 : decode cX8_fails 86 = .ok (.iload 5, 2) := by decide +kernel
theorem dX8_fails_88 : decode cX8_fails 88 = .ok (.iastore, 1) := by decide +kernel
theorem dX8_fails_89 : decode cX8_fails 89 = .ok (.aload_n 0, 1) := by decide +kernel
theorem dX8_fails_90 : decode cX8_fails 90 = .ok (.getfield 22, 3) := by decide +kernel
theorem dX8_fails_93 : decode cX8_fails 93 = .ok (.iconst 2, 1) := by decide +kernel
theorem dX8_fails_94 : decode cX8_fails 94 = .ok (.aload_n 0, 1) := by decide +kernel
theorem dX8_fails_95 : decode cX8_fails 95 = .ok (.getfield 102, 3) := by decide +kernel
theorem dX8_fails_98 : decode cX8_fails 98 = .ok (.imul, 1) := by decide +kernel
theorem dX8_fails_99 : decode cX8_fails 99 = .ok (.iconst 1, 1) := by decide +kernel
theorem dX8_fails_100 : decode cX8_fails 100 = .ok (.iadd, 1) := by decide +kernel
def k125_2 : List (Nat × XI) := [(68, x_iload 4 70), (70, x_ifeq 114 73), (73, x_iload 5 75), (75, x_istore 3 76), (76, x_aload 0 77), (77, x_getR 8 8 80), (80, x_push (2) 81), (81, x_aload 0 82), (82, x_getI 8 9 85), (85, x_imul 86), (86, x_iload 5 88), (88, x_iast 89), (89, x_aload 0 90), (90, x_getR 8 8 93), (93, x_push (2) 94), (94, x_aload 0 95), (95, x_getI 8 9 98), (98, x_imul 99), (99, x_push (1) 100), (100, x_iadd 101)]
theorem o125_2 (scr : Nat × (Nat → Int32)) : ∀ q ∈ k125_2, XSnd xm scr Y125 q.1 q.2 := xcons (s_iload dX8_fails_68) (xcons (s_ifeq dX8_fails_70 rfl) (xcons (s_iload dX8_fails_73) (xcons (s_istore_n rfl dX8_fails_75 (by decide)) (xcons (s_aload_n rfl dX8_fails_76) (xcons (s_getR (f := 8) xC8 (by decide) xw_564 rfl dX8_fails_77) (xcons (s_iconst dX8_fails_80 rfl) (xcons (s_aload_n rfl dX8_fails_81) (xcons (s_getI (f := 9) xC8 (by decide) xw_563 rfl dX8_fails_82) (xcons (s_imul dX8_fails_85) (xcons (s_iload dX8_fails_86) (xcons (s_iast dX8_fails_88) (xcons (s_aload_n rfl dX8_fails_89) (xcons (s_getR (f := 8) xC8 (by decide) xw_564 rfl dX8_fails_90) (xcons (s_iconst dX8_fails_93 rfl) (xcons (s_aload_n rfl dX8_fails_94) (xcons (s_getI (f := 9) xC8 (by decide) xw_563 rfl dX8_fails_95) (xcons (s_imul dX8_fails_98) (xcons (s_iconst dX8_fails_99 rfl) (xcons (s_iadd dX8_fails_100) (xnil))))))))))))))))))))
theorem dX8_fails_101 : decode cX8_fails 101 = .ok (.bipush 9, 2) := by decide +kernel
theorem dX8_fails_103 : decode cX8_fails 103 = .ok (.iastore, 1) := by decide +kernel
theorem dX8_fails_104 : decode cX8_fails 104 = .ok (.aload_n 0, 1) := by decide +kernel
theorem dX8_fails_105 : decode cX8_fails 105 = .ok (.dup, 1) := by decide +kernel
theorem dX8_fails_106 : decode cX8_fails 106 = .ok (.getfield 102, 3) := by decide +kernel
theorem dX8_fails_109 : decode cX8_fails 109 = .ok (.iconst 1, 1) := by decide +kernel
theorem dX8_fails_110 : decode cX8_fails 110 = .ok (.iadd, 1) := by decide +kernel
theorem dX8_fails_111 : decode cX8_fails 111 = .ok (.putfield 102, 3) := by decide +kernel
theorem dX8_fails_114 : decode cX8_fails 114 = .ok (.goto (-80), 3) := by decide +kernel
theorem dX8_fails_117 : decode cX8_fails 117 = .ok (.aload_n 0, 1) := by decide +kernel
theorem dX8_fails_118 : decode cX8_fails 118 = .ok (.getfield 9, 3) := by decide +kernel
theorem dX8_fails_121 : decode cX8_fails 121 = .ok (.sipush 993, 3) := by decide +kernel
theorem dX8_fails_124 : decode cX8_fails 124 = .ok (.aload_n 0, 1) := by decide +kernel
theorem dX8_fails_125 : decode cX8_fails 125 = .ok (.getfield 102, 3) := by decide +kernel
theorem dX8_fails_128 : decode cX8_fails 128 = .ok (.iastore, 1) := by decide +kernel
theorem dX8_fails_129 : decode cX8_fails 129 = .ok (.iconst 0, 1) := by decide +kernel
theorem dX8_fails_130 : decode cX8_fails 130 = .ok (.istore 5, 2) := by decide +kernel
theorem dX8_fails_132 : decode cX8_fails 132 = .ok (.iload 5, 2) := by decide +kernel
theorem dX8_fails_134 : decode cX8_fails 134 = .ok (.aload_n 0, 1) := by decide +kernel
theorem dX8_fails_135 : decode cX8_fails 135 = .ok (.getfield 102, 3) := by decide +kernel
def k125_3 : List (Nat × XI) := [(101, x_push (9) 103), (103, x_iast 104), (104, x_aload 0 105), (105, x_dup 106), (106, x_getI 8 9 109), (109, x_push (1) 110), (110, x_iadd 111), (111, x_putI 8 9 114), (114, x_goto 34), (117, x_aload 0 118), (118, x_getR 8 0 121), (121, x_push (993) 124), (124, x_aload 0 125), (125, x_getI 8 9 128), (128, x_iast 129), (129, x_push (0) 130), (130, x_istore 5 132), (132, x_iload 5 134), (134, x_aload 0 135), (135, x_getI 8 9 138)]
theorem o125_3 (scr : Nat × (Nat → Int32)) : ∀ q ∈ k125_3, XSnd xm scr Y125 q.1 q.2 := xcons (s_bipush dX8_fails_101 rfl) (xcons (s_iast dX8_fails_103) (xcons (s_aload_n rfl dX8_fails_104) (xcons (s_dup dX8_fails_105) (xcons (s_getI (f := 9) xC8 (by decide) xw_563 rfl dX8_fails_106) (xcons (s_iconst dX8_fails_109 rfl) (xcons (s_iadd dX8_fails_110) (xcons (s_putI (f := 9) xC8 (by decide) xw_563 rfl (Or.inl rfl) dX8_fails_111) (xcons (s_goto dX8_fails_114 rfl) (xcons (s_aload_n rfl dX8_fails_117) (xcons (s_getR (f := 0) xC8 (by decide) xw_470 rfl dX8_fails_118) (xcons (s_sipush dX8_fails_121 rfl) (xcons (s_aload_n rfl dX8_fails_124) (xcons (s_getI (f := 9) xC8 (by decide) xw_563 rfl dX8_fails_125) (xcons (s_iast dX8_fails_128) (xcons (s_iconst dX8_fails_129 rfl) (xcons (s_istore dX8_fails_130 (by decide)) (xcons (s_iload dX8_fails_132) (xcons (s_aload_n rfl dX8_fails_134) (xcons (s_getI (f := 9) xC8 (by decide) xw_563 rfl dX8_fails_135) (xnil))))))))))))))))))))
theorem dX8_fails_138 : decode cX8_fails 138 = .ok (.if_icmp .ge 71, 3) := by decide +kernel
theorem dX8_fails_141 : decode cX8_fails 141 = .ok (.aload_n 0, 1) := by decide +kernel
theorem dX8_fails_142 : decode cX8_fails 142 = .ok (.getfield 9, 3) := by decide +kernel
theorem dX8_fails_145 : decode cX8_fails 145 = .ok (.sipush 994, 3) := by decide +kernel
theorem dX8_fails_148 : decode cX8_fails 148 = .ok (.iconst 2, 1) := by decide +kernel
theorem dX8_fails_149 : decode cX8_fails 149 = .ok (.iload 5, 2) := by decide +kernel
theorem dX8_fails_151 : decode cX8_fails 151 = .ok (.imul, 1) := by decide +kernel
theorem dX8_fails_152 : decode cX8_fails 152 = .ok (.iadd, 1) := by decide +kernel
theorem dX8_fails_153 : decode cX8_fails 153 = .ok (.aload_n 0, 1) := by decide +kernel
theorem dX8_fails_154 : decode cX8_fails 154 = .ok (.getfield 22, 3) := by decide +kernel
theorem dX8_fails_157 : decode cX8_fails 157 = .ok (.iconst 2, 1) := by decide +kernel
theorem dX8_fails_158 : decode cX8_fails 158 = .ok (.aload_n 0, 1) := by decide +kernel
theorem dX8_fails_159 : decode cX8_fails 159 = .ok (.getfield 102, 3) := by decide +kernel
theorem dX8_fails_162 : decode cX8_fails 162 = .ok (.iconst 1, 1) := by decide +kernel
theorem dX8_fails_163 : decode cX8_fails 163 = .ok (.isub, 1) := by decide +kernel
theorem dX8_fails_164 : decode cX8_fails 164 = .ok (.iload 5, 2) := by decide +kernel
theorem dX8_fails_166 : decode cX8_fails 166 = .ok (.isub, 1) := by decide +kernel
theorem dX8_fails_167 : decode cX8_fails 167 = .ok (.imul, 1) := by decide +kernel
theorem dX8_fails_168 : decode cX8_fails 168 = .ok (.iaload, 1) := by decide +kernel
theorem dX8_fails_169 : decode cX8_fails 169 = .ok (.iastore, 1) := by decide +kernel
def k125_4 : List (Nat × XI) := [(138, x_icge 209 141), (141, x_aload 0 142), (142, x_getR 8 0 145), (145, x_push (994) 148), (148, x_push (2) 149), (149, x_iload 5 151), (151, x_imul 152), (152, x_iadd 153), (153, x_aload 0 154), (154, x_getR 8 8 157), (157, x_push (2) 158), (158, x_aload 0 159), (159, x_getI 8 9 162), (162, x_push (1) 163), (163, x_isub 164), (164, x_iload 5 166), (166, x_isub 167), (167, x_imul 168), (168, x_iald 169), (169, x_iast 170)]
theorem o125_4 (scr : Nat × (Nat → Int32)) : ∀ q ∈ k125_4, XSnd xm scr Y125 q.1 q.2 := xcons (s_icge dX8_fails_138 rfl) (xcons (s_aload_n rfl dX8_fails_141) (xcons (s_getR (f := 0) xC8 (by decide) xw_470 rfl dX8_fails_142) (xcons (s_sipush dX8_fails_145 rfl) (xcons (s_iconst dX8_fails_148 rfl) (xcons (s_iload dX8_fails_149) (xcons (s_imul dX8_fails_151) (xcons (s_iadd dX8_fails_152) (xcons (s_aload_n rfl dX8_fails_153) (xcons (s_getR (f := 8) xC8 (by decide) xw_564 rfl dX8_fails_154) (xcons (s_iconst dX8_fails_157 rfl) (xcons (s_aload_n rfl dX8_fails_158) (xcons (s_getI (f := 9) xC8 (by decide) xw_563 rfl dX8_fails_159) (xcons (s_iconst dX8_fails_162 rfl) (xcons (s_isub dX8_fails_163) (xcons (s_iload dX8_fails_164) (xcons (s_isub dX8_fails_166) (xcons (s_imul dX8_fails_167) (xcons (s_iald dX8_fails_168) (xcons (s_iast dX8_fails_169) (xnil))))))))))))))))))))
theorem dX8_fails_170 : decode cX8_fails 170 = .ok (.aload_n 0, 1) := by decide +kernel
theorem dX8_fails_171 : decode cX8_fails 171 = .ok (.getfield 9, 3) := by decide +kernel
theorem dX8_fails_174 : decode cX8_fails 174 = .ok (.sipush 994, 3) := by decide +kernel
theorem dX8_fails_177 : decode cX8_fails 177 = .ok (.iconst 2, 1) := by decide +kernel
theorem dX8_fails_178 : decode cX8_fails 178 = .ok (.iload 5, 2) := by decide +kernel
theorem dX8_fails_180 : decode cX8_fails 180 = .ok (.imul, 1) := by decide +kernel
theorem dX8_fails_181 : decode cX8_fails 181 = .ok (.iadd, 1) := by decide +kernel
theorem dX8_fails_182 : decode cX8_fails 182 = .ok (.iconst 1, 1) := by decide +kernel
theorem dX8_fails_183 : decode cX8_fails 183 = .ok (.iadd, 1) := by decide +kernel
theorem dX8_fails_184 : decode cX8_fails 184 = .ok (.aload_n 0, 1) := by decide +kernel
theorem dX8_fails_185 : decode cX8_fails 185 = .ok (.getfield 22, 3) := by decide +kernel
theorem dX8_fails_188 : decode cX8_fails 188 = .ok (.iconst 2, 1) := by decide +kernel
theorem dX8_fails_189 : decode cX8_fails 189 = .ok (.aload_n 0, 1) := by decide +kernel
theorem dX8_fails_190 : decode cX8_fails 190 = .ok (.getfield 102, 3) := by decide +kernel
theorem dX8_fails_193 : decode cX8_fails 193 = .ok (.iconst 1, 1) := by decide +kernel
theorem dX8_fails_194 : decode cX8_fails 194 = .ok (.isub, 1) := by decide +kernel
theorem dX8_fails_195 : decode cX8_fails 195 = .ok (.iload 5, 2) := by decide +kernel
theorem dX8_fails_197 : decode cX8_fails 197 = .ok (.isub, 1) := by decide +kernel
theorem dX8_fails_198 : decode cX8_fails 198 = .ok (.imul, 1) := by decide +kernel
theorem dX8_fails_199 : decode cX8_fails 199 = .ok (.iconst 1, 1) := by decide +kernel
def k125_5 : List (Nat × XI) := [(170, x_aload 0 171), (171, x_getR 8 0 174), (174, x_push (994) 177), (177, x_push (2) 178), (178, x_iload 5 180), (180, x_imul 181), (181, x_iadd 182), (182, x_push (1) 183), (183, x_iadd 184), (184, x_aload 0 185), (185, x_getR 8 8 188), (188, x_push (2) 189), (189, x_aload 0 190), (190, x_getI 8 9 193), (193, x_push (1) 194), (194, x_isub 195), (195, x_iload 5 197), (197, x_isub 198), (198, x_imul 199), (199, x_push (1) 200)]
theorem o125_5 (scr : Nat × (Nat → Int32)) : ∀ q ∈ k125_5, XSnd xm scr Y125 q.1 q.2 := xcons (s_aload_n rfl dX8_fails_170) (xcons (s_getR (f := 0) xC8 (by decide) xw_470 rfl dX8_fails_171) (xcons (s_sipush dX8_fails_174 rfl) (xcons (s_iconst dX8_fails_177 rfl) (xcons (s_iload dX8_fails_178) (xcons (s_imul dX8_fails_180) (xcons (s_iadd dX8_fails_181) (xcons (s_iconst dX8_fails_182 rfl) (xcons (s_iadd dX8_fails_183) (xcons (s_aload_n rfl dX8_fails_184) (xcons (s_getR (f := 8) xC8 (by decide) xw_564 rfl dX8_fails_185) (xcons (s_iconst dX8_fails_188 rfl) (xcons (s_aload_n rfl dX8_fails_189) (xcons (s_getI (f := 9) xC8 (by decide) xw_563 rfl dX8_fails_190) (xcons (s_iconst dX8_fails_193 rfl) (xcons (s_isub dX8_fails_194) (xcons (s_iload dX8_fails_195) (xcons (s_isub dX8_fails_197) (xcons (s_imul dX8_fails_198) (xcons (s_iconst dX8_fails_199 rfl) (xnil))))))))))))))))))))
theorem dX8_fails_200 : decode cX8_fails 200 = .ok (.iadd, 1) := by decide +kernel
theorem dX8_fails_201 : decode cX8_fails 201 = .ok (.iaload, 1) := by decide +kernel
theorem dX8_fails_202 : decode cX8_fails 202 = .ok (.iastore, 1) := by decide +kernel
theorem dX8_fails_203 : decode cX8_fails 203 = .ok (.iinc 5 1, 3) := by decide +kernel
theorem dX8_fails_206 : decode cX8_fails 206 = .ok (.goto (-74), 3) := by decide +kernel
theorem dX8_fails_209 : decode cX8_fails 209 = .ok (.aload_n 0, 1) := by decide +kernel
theorem dX8_fails_210 : decode cX8_fails 210 = .ok (.iload_n 3, 1) := by decide +kernel
theorem dX8_fails_211 : decode cX8_fails 211 = .ok (.iconst 0, 1) := by decide +kernel
theorem dX8_fails_212 : decode cX8_fails 212 = .ok (.invokevirtual 55, 3) := by decide +kernel
theorem dX8_fails_215 : decode cX8_fails 215 = .ok (.istore 5, 2) := by decide +kernel
theorem dX8_fails_217 : decode cX8_fails 217 = .ok (.iload 5, 2) := by decide +kernel
theorem dX8_fails_219 : decode cX8_fails 219 = .ok (.ifCond .ge 9, 3) := by decide +kernel
theorem dX8_fails_222 : decode cX8_fails 222 = .ok (.aload_n 0, 1) := by decide +kernel
theorem dX8_fails_223 : decode cX8_fails 223 = .ok (.iload_n 3, 1) := by decide +kernel
theorem dX8_fails_224 : decode cX8_fails 224 = .ok (.invokevirtual 71, 3) := by decide +kernel
theorem dX8_fails_227 : decode cX8_fails 227 = .ok (.return_, 1) := by decide +kernel
theorem dX8_fails_228 : decode cX8_fails 228 = .ok (.aload_n 0, 1) := by decide +kernel
theorem dX8_fails_229 : decode cX8_fails 229 = .ok (.iload 5, 2) := by decide +kernel
theorem dX8_fails_231 : decode cX8_fails 231 = .ok (.iconst 2, 1) := by decide +kernel
theorem dX8_fails_232 : decode cX8_fails 232 = .ok (.invokevirtual 55, 3) := by decide +kernel
def k125_6 : List (Nat × XI) := [(200, x_iadd 201), (201, x_iald 202), (202, x_iast 203), (203, x_iinc 5 (1) 206), (206, x_goto 132), (209, x_aload 0 210), (210, x_iload 3 211), (211, x_push (0) 212), (212, x_inv 108 8 2 215), (215, x_istore 5 217), (217, x_iload 5 219), (219, x_ifge 228 222), (222, x_aload 0 223), (223, x_iload 3 224), (224, x_inv 176 8 1 227), (227, x_ret), (228, x_aload 0 229), (229, x_iload 5 231), (231, x_push (2) 232), (232, x_inv 108 8 2 235)]
theorem o125_6 (scr : Nat × (Nat → Int32)) : ∀ q ∈ k125_6, XSnd xm scr Y125 q.1 q.2 := xcons (s_iadd dX8_fails_200) (xcons (s_iald dX8_fails_201) (xcons (s_iast dX8_fails_202) (xcons (s_iinc dX8_fails_203 rfl (by decide)) (xcons (s_goto dX8_fails_206 rfl) (xcons (s_aload_n rfl dX8_fails_209) (xcons (s_iload_n rfl dX8_fails_210) (xcons (s_iconst dX8_fails_211 rfl) (xcons (s_inv (mid := 108) xC8 cal_108 xw_508 xw_509 xw_510 dX8_fails_212) (xcons (s_istore dX8_fails_215 (by decide)) (xcons (s_iload dX8_fails_217) (xcons (s_ifge dX8_fails_219 rfl) (xcons (s_aload_n rfl dX8_fails_222) (xcons (s_iload_n rfl dX8_fails_223) (xcons (s_inv (mid := 176) xC8 cal_176 xw_544 xw_545 xw_546 dX8_fails_224) (xcons (s_ret dX8_fails_227 rfl) (xcons (s_aload_n rfl dX8_fails_228) (xcons (s_iload dX8_fails_229) (xcons (s_iconst dX8_fails_231 rfl) (xcons (s_inv (mid := 108) xC8 cal_108 xw_508 xw_509 xw_510 dX8_fails_232) (xnil))))))))))))))))))))
theorem dX8_fails_235 : decode cX8_fails 235 = .ok (.istore 6, 2) := by decide +kernel
theorem dX8_fails_237 : decode cX8_fails 237 = .ok (.iconst 0, 1) := by decide +kernel
theorem dX8_fails_238 : decode cX8_fails 238 = .ok (.istore 7, 2) := by decide +kernel
theorem dX8_fails_240 : decode cX8_fails 240 = .ok (.iload 7, 2) := by decide +kernel
theorem dX8_fails_242 : decode cX8_fails 242 = .ok (.aload_n 0, 1) := by decide +kernel
theorem dX8_fails_243 : decode cX8_fails 243 = .ok (.getfield 9, 3) := by decide +kernel
theorem dX8_fails_246 : decode cX8_fails 246 = .ok (.sipush 924, 3) := by decide +kernel
theorem dX8_fails_249 : decode cX8_fails 249 = .ok (.iaload, 1) := by decide +kernel
theorem dX8_fails_250 : decode cX8_fails 250 = .ok (.if_icmp .ge 62, 3) := by decide +kernel
theorem dX8_fails_253 : decode cX8_fails 253 = .ok (.iload 7, 2) := by decide +kernel
theorem dX8_fails_255 : decode cX8_fails 255 = .ok (.iload_n 3, 1) := by decide +kernel
theorem dX8_fails_256 : decode cX8_fails 256 = .ok (.if_icmp .eq 21, 3) := by decide +kernel
theorem dX8_fails_259 : decode cX8_fails 259 = .ok (.iload 6, 2) := by decide +kernel
theorem dX8_fails_261 : decode cX8_fails 261 = .ok (.iconst 1, 1) := by decide +kernel
theorem dX8_fails_262 : decode cX8_fails 262 = .ok (.if_icmp .eq 15, 3) := by decide +kernel
theorem dX8_fails_265 : decode cX8_fails 265 = .ok (.iload 6, 2) := by decide +kernel
theorem dX8_fails_267 : decode cX8_fails 267 = .ok (.iconst 2, 1) := by decide +kernel
theorem dX8_fails_268 : decode cX8_fails 268 = .ok (.if_icmp .ne 13, 3) := by decide +kernel
theorem dX8_fails_271 : decode cX8_fails 271 = .ok (.iload 7, 2) := by decide +kernel
theorem dX8_fails_273 : decode cX8_fails 273 = .ok (.iload_n 3, 1) := by decide +kernel
def k125_7 : List (Nat × XI) := [(235, x_istore 6 237), (237, x_push (0) 238), (238, x_istore 7 240), (240, x_iload 7 242), (242, x_aload 0 243), (243, x_getR 8 0 246), (246, x_push (924) 249), (249, x_iald 250), (250, x_icge 312 253), (253, x_iload 7 255), (255, x_iload 3 256), (256, x_iceq 277 259), (259, x_iload 6 261), (261, x_push (1) 262), (262, x_iceq 277 265), (265, x_iload 6 267), (267, x_push (2) 268), (268, x_icne 281 271), (271, x_iload 7 273), (273, x_iload 3 274)]
theorem o125_7 (scr : Nat × (Nat → Int32)) : ∀ q ∈ k125_7, XSnd xm scr Y125 q.1 q.2 := xcons (s_istore dX8_fails_235 (by decide)) (xcons (s_iconst dX8_fails_237 rfl) (xcons (s_istore dX8_fails_238 (by decide)) (xcons (s_iload dX8_fails_240) (xcons (s_aload_n rfl dX8_fails_242) (xcons (s_getR (f := 0) xC8 (by decide) xw_470 rfl dX8_fails_243) (xcons (s_sipush dX8_fails_246 rfl) (xcons (s_iald dX8_fails_249) (xcons (s_icge dX8_fails_250 rfl) (xcons (s_iload dX8_fails_253) (xcons (s_iload_n rfl dX8_fails_255) (xcons (s_iceq dX8_fails_256 rfl) (xcons (s_iload dX8_fails_259) (xcons (s_iconst dX8_fails_261 rfl) (xcons (s_iceq dX8_fails_262 rfl) (xcons (s_iload dX8_fails_265) (xcons (s_iconst dX8_fails_267 rfl) (xcons (s_icne dX8_fails_268 rfl) (xcons (s_iload dX8_fails_271) (xcons (s_iload_n rfl dX8_fails_273) (xnil))))))))))))))))))))
theorem dX8_fails_274 : decode cX8_fails 274 = .ok (.if_icmp .le 7, 3) := by decide +kernel
theorem dX8_fails_277 : decode cX8_fails 277 = .ok (.iconst 1, 1) := by decide +kernel
theorem dX8_fails_278 : decode cX8_fails 278 = .ok (.goto 4, 3) := by decide +kernel
theorem dX8_fails_281 : decode cX8_fails 281 = .ok (.iconst 0, 1) := by decide +kernel
theorem dX8_fails_282 : decode cX8_fails 282 = .ok (.istore 8, 2) := by decide +kernel
theorem dX8_fails_284 : decode cX8_fails 284 = .ok (.iload 8, 2) := by decide +kernel
theorem dX8_fails_286 : decode cX8_fails 286 = .ok (.ifCond .eq 20, 3) := by decide +kernel
theorem dX8_fails_289 : decode cX8_fails 289 = .ok (.aload_n 0, 1) := by decide +kernel
theorem dX8_fails_290 : decode cX8_fails 290 = .ok (.iload 7, 2) := by decide +kernel
theorem dX8_fails_292 : decode cX8_fails 292 = .ok (.iload 5, 2) := by decide +kernel
theorem dX8_fails_294 : decode cX8_fails 294 = .ok (.invokevirtual 67, 3) := by decide +kernel
theorem dX8_fails_297 : decode cX8_fails 297 = .ok (.ifCond .eq 9, 3) := by decide +kernel
theorem dX8_fails_300 : decode cX8_fails 300 = .ok (.aload_n 0, 1) := by decide +kernel
theorem dX8_fails_301 : decode cX8_fails 301 = .ok (.iload 7, 2) := by decide +kernel
theorem dX8_fails_303 : decode cX8_fails 303 = .ok (.invokevirtual 108, 3) := by decide +kernel
theorem dX8_fails_306 : decode cX8_fails 306 = .ok (.iinc 7 1, 3) := by decide +kernel
theorem dX8_fails_309 : decode cX8_fails 309 = .ok (.goto (-69), 3) := by decide +kernel
theorem dX8_fails_312 : decode cX8_fails 312 = .ok (.return_, 1) := by decide +kernel
def k125_8 : List (Nat × XI) := [(274, x_icle 281 277), (277, x_push (1) 278), (278, x_goto 282), (281, x_push (0) 282), (282, x_istore 8 284), (284, x_iload 8 286), (286, x_ifeq 306 289), (289, x_aload 0 290), (290, x_iload 7 292), (292, x_iload 5 294), (294, x_inv 141 8 2 297), (297, x_ifeq 306 300), (300, x_aload 0 301), (301, x_iload 7 303), (303, x_inv 163 8 1 306), (306, x_iinc 7 (1) 309), (309, x_goto 240), (312, x_ret)]
theorem o125_8 (scr : Nat × (Nat → Int32)) : ∀ q ∈ k125_8, XSnd xm scr Y125 q.1 q.2 := xcons (s_icle dX8_fails_274 rfl) (xcons (s_iconst dX8_fails_277 rfl) (xcons (s_goto dX8_fails_278 rfl) (xcons (s_iconst dX8_fails_281 rfl) (xcons (s_istore dX8_fails_282 (by decide)) (xcons (s_iload dX8_fails_284) (xcons (s_ifeq dX8_fails_286 rfl) (xcons (s_aload_n rfl dX8_fails_289) (xcons (s_iload dX8_fails_290) (xcons (s_iload dX8_fails_292) (xcons (s_inv (mid := 141) xC8 cal_141 xw_570 xw_571 xw_572 dX8_fails_294) (xcons (s_ifeq dX8_fails_297 rfl) (xcons (s_aload_n rfl dX8_fails_300) (xcons (s_iload dX8_fails_301) (xcons (s_inv (mid := 163) xC8 cal_163 xw_574 xw_575 xw_576 dX8_fails_303) (xcons (s_iinc dX8_fails_306 rfl (by decide)) (xcons (s_goto dX8_fails_309 rfl) (xcons (s_ret dX8_fails_312 rfl) (xnil))))))))))))))))))
def k125 (pc : Nat) : XI := if pc < 138 then if pc < 68 then if pc < 28 then xlk k125_0 pc else xlk k125_1 pc else if pc < 101 then xlk k125_2 pc else xlk k125_3 pc else if pc < 200 then if pc < 170 then xlk k125_4 pc else xlk k125_5 pc else if pc < 235 then xlk k125_6 pc else if pc < 274 then xlk k125_7 pc else xlk k125_8 pc
theorem o125 (scr : Nat × (Nat → Int32)) (pc : Nat) : XSnd xm scr Y125 pc (k125 pc) := by
  unfold k125
  exact xite (xite (xite (xlk_ok (o125_0 scr) pc) (xlk_ok (o125_1 scr) pc)) (xite (xlk_ok (o125_2 scr) pc) (xlk_ok (o125_3 scr) pc))) (xite (xite (xlk_ok (o125_4 scr) pc) (xlk_ok (o125_5 scr) pc)) (xite (xlk_ok (o125_6 scr) pc) (xite (xlk_ok (o125_7 scr) pc) (xlk_ok (o125_8 scr) pc))))
theorem dX8_feed_0 : decode cX8_feed 0 = .ok (.iload_n 1, 1) := by decide +kernel
theorem dX8_feed_1 : decode cX8_feed 1 = .ok (.iconst 0, 1) := by decide +kernel
theorem dX8_feed_2 : decode cX8_feed 2 = .ok (.sipush 255, 3) := by decide +kernel
theorem dX8_feed_5 : decode cX8_feed 5 = .ok (.invokestatic 51, 3) := by decide +kernel
theorem dX8_feed_8 : decode cX8_feed 8 = .ok (.ifCond .ne 5, 3) := by decide +kernel
theorem dX8_feed_11 : decode cX8_feed 11 = .ok (.iconst (-1), 1) := by decide +kernel
theorem dX8_feed_12 : decode cX8_feed 12 = .ok (.ireturn, 1) := by decide +kernel
theorem dX8_feed_13 : decode cX8_feed 13 = .ok (.aload_n 0, 1) := by decide +kernel
theorem dX8_feed_14 : decode cX8_feed 14 = .ok (.getfield 207, 3) := by decide +kernel
theorem dX8_feed_17 : decode cX8_feed 17 = .ok (.bipush 120, 2) := by decide +kernel
theorem dX8_feed_19 : decode cX8_feed 19 = .ok (.if_icmp .ne 6, 3) := by decide +kernel
theorem dX8_feed_22 : decode cX8_feed 22 = .ok (.bipush (-3), 2) := by decide +kernel
theorem dX8_feed_24 : decode cX8_feed 24 = .ok (.ireturn, 1) := by decide +kernel
theorem dX8_feed_25 : decode cX8_feed 25 = .ok (.aload_n 0, 1) := by decide +kernel
theorem dX8_feed_26 : decode cX8_feed 26 = .ok (.getfield 25, 3) := by decide +kernel
theorem dX8_feed_29 : decode cX8_feed 29 = .ok (.aload_n 0, 1) := by decide +kernel
theorem dX8_feed_30 : decode cX8_feed 30 = .ok (.dup, 1) := by decide +kernel
theorem dX8_feed_31 : decode cX8_feed 31 = .ok (.getfield 207, 3) := by decide +kernel
theorem dX8_feed_34 : decode cX8_feed 34 = .ok (.dup_x1, 1) := by decide +kernel
theorem dX8_feed_35 : decode cX8_feed 35 = .ok (.iconst 1, 1) := by decide +kernel
def k126_0 : List (Nat × XI) := [(0, x_iload 1 1), (1, x_push (0) 2), (2, x_push (255) 5), (5, x_invS 134 3 8), (8, x_ifne 13 11), (11, x_push (-1) 12), (12, x_iret), (13, x_aload 0 14), (14, x_getI 8 11 17), (17, x_push (120) 19), (19, x_icne 25 22), (22, x_push (-3) 24), (24, x_iret), (25, x_aload 0 26), (26, x_getR 8 10 29), (29, x_aload 0 30), (30, x_dup 31), (31, x_getI 8 11 34), (34, x_dup_x1 35), (35, x_push (1) 36)]
theorem o126_0 (scr : Nat × (Nat → Int32)) : ∀ q ∈ k126_0, XSnd xm scr Y126 q.1 q.2 := xcons (s_iload_n rfl dX8_feed_0) (xcons (s_iconst dX8_feed_1 rfl) (xcons (s_sipush dX8_feed_2 rfl) (xcons (s_invS (mid := 134) cal_134 xw_487 xw_488 dX8_feed_5) (xcons (s_ifne dX8_feed_8 rfl) (xcons (s_iconst dX8_feed_11 rfl) (xcons (s_iret dX8_feed_12 rfl) (xcons (s_aload_n rfl dX8_feed_13) (xcons (s_getI (f := 11) xC8 (by decide) xw_514 rfl dX8_feed_14) (xcons (s_bipush dX8_feed_17 rfl) (xcons (s_icne dX8_feed_19 rfl) (xcons (s_bipush dX8_feed_22 rfl) (xcons (s_iret dX8_feed_24 rfl) (xcons (s_aload_n rfl dX8_feed_25) (xcons (s_getR (f := 10) xC8 (by decide) xw_577 rfl dX8_feed_26) (xcons (s_aload_n rfl dX8_feed_29) (xcons (s_dup dX8_feed_30) (xcons (s_getI (f := 11) xC8 (by decide) xw_514 rfl dX8_feed_31) (xcons (s_dup_x1 dX8_feed_34) (xcons (s_iconst dX8_feed_35 rfl) (xnil))))))))))))))))))))
theorem dX8_feed_36 : decode cX8_feed 36 = .ok (.iadd, 1) := by decide +kernel
theorem dX8_feed_37 : decode cX8_feed 37 = .ok (.putfield 207, 3) := by decide +kernel
theorem dX8_feed_40 : decode cX8_feed 40 = .ok (.iload_n 1, 1) := by decide +kernel
theorem dX8_feed_41 : decode cX8_feed 41 = .ok (.iastore, 1) := by decide +kernel
theorem dX8_feed_42 : decode cX8_feed 42 = .ok (.aload_n 0, 1) := by decide +kernel
theorem dX8_feed_43 : decode cX8_feed 43 = .ok (.getfield 207, 3) := by decide +kernel
theorem dX8_feed_46 : decode cX8_feed 46 = .ok (.ireturn, 1) := by decide +kernel
def k126_1 : List (Nat × XI) := [(36, x_iadd 37), (37, x_putI 8 11 40), (40, x_iload 1 41), (41, x_iast 42), (42, x_aload 0 43), (43, x_getI 8 11 46), (46, x_iret)]
theorem o126_1 (scr : Nat × (Nat → Int32)) : ∀ q ∈ k126_1, XSnd xm scr Y126 q.1 q.2 := xcons (s_iadd dX8_feed_36) (xcons (s_putI (f := 11) xC8 (by decide) xw_514 rfl (Or.inl rfl) dX8_feed_37) (xcons (s_iload_n rfl dX8_feed_40) (xcons (s_iast dX8_feed_41) (xcons (s_aload_n rfl dX8_feed_42) (xcons (s_getI (f := 11) xC8 (by decide) xw_514 rfl dX8_feed_43) (xcons (s_iret dX8_feed_46 rfl) (xnil)))))))
def k126 (pc : Nat) : XI := if pc < 36 then xlk k126_0 pc else xlk k126_1 pc
theorem o126 (scr : Nat × (Nat → Int32)) (pc : Nat) : XSnd xm scr Y126 pc (k126 pc) := by
  unfold k126
  exact xite (xlk_ok (o126_0 scr) pc) (xlk_ok (o126_1 scr) pc)
theorem dX8_first_0 : decode cX8_first 0 = .ok (.aload_n 0, 1) := by decide +kernel
theorem dX8_first_1 : decode cX8_first 1 = .ok (.getfield 9, 3) := by decide +kernel
theorem dX8_first_4 : decode cX8_first 4 = .ok (.aload_n 0, 1) := by decide +kernel
theorem dX8_first_5 : decode cX8_first 5 = .ok (.getfield 13, 3) := by decide +kernel
theorem dX8_first_8 : decode cX8_first 8 = .ok (.invokestatic 200, 3) := by decide +kernel
theorem dX8_first_11 : decode cX8_first 11 = .ok (.aload_n 0, 1) := by decide +kernel
theorem dX8_first_12 : decode cX8_first 12 = .ok (.iconst 0, 1) := by decide +kernel
theorem dX8_first_13 : decode cX8_first 13 = .ok (.putfield 98, 3) := by decide +kernel
theorem dX8_first_16 : decode cX8_first 16 = .ok (.iconst 0, 1) := by decide +kernel
theorem dX8_first_17 : decode cX8_first 17 = .ok (.istore_n 1, 1) := by decide +kernel
theorem dX8_first_18 : decode cX8_first 18 = .ok (.aload_n 0, 1) := by decide +kernel
theorem dX8_first_19 : decode cX8_first 19 = .ok (.getfield 98, 3) := by decide +kernel
theorem dX8_first_22 : decode cX8_first 22 = .ok (.ifCond .ne 24, 3) := by decide +kernel
theorem dX8_first_25 : decode cX8_first 25 = .ok (.aload_n 0, 1) := by decide +kernel
theorem dX8_first_26 : decode cX8_first 26 = .ok (.iload_n 1, 1) := by decide +kernel
theorem dX8_first_27 : decode cX8_first 27 = .ok (.sipush 200, 3) := by decide +kernel
theorem dX8_first_30 : decode cX8_first 30 = .ok (.invokevirtual 161, 3) := by decide +kernel
theorem dX8_first_33 : decode cX8_first 33 = .ok (.ifCond .ne 13, 3) := by decide +kernel
theorem dX8_first_36 : decode cX8_first 36 = .ok (.aload_n 0, 1) := by decide +kernel
theorem dX8_first_37 : decode cX8_first 37 = .ok (.invokevirtual 164, 3) := by decide +kernel
def k127_0 : List (Nat × XI) := [(0, x_aload 0 1), (1, x_getR 8 0 4), (4, x_aload 0 5), (5, x_getR 8 1 8), (8, x_invS 179 2 11), (11, x_aload 0 12), (12, x_push (0) 13), (13, x_putZ 8 5 16), (16, x_push (0) 17), (17, x_istore 1 18), (18, x_aload 0 19), (19, x_getI 8 5 22), (22, x_ifne 46 25), (25, x_aload 0 26), (26, x_iload 1 27), (27, x_push (200) 30), (30, x_inv 137 8 2 33), (33, x_ifne 46 36), (36, x_aload 0 37), (37, x_inv 174 8 0 40)]
theorem o127_0 (scr : Nat × (Nat → Int32)) : ∀ q ∈ k127_0, XSnd xm scr Y127 q.1 q.2 := xcons (s_aload_n rfl dX8_first_0) (xcons (s_getR (f := 0) xC8 (by decide) xw_470 rfl dX8_first_1) (xcons (s_aload_n rfl dX8_first_4) (xcons (s_getR (f := 1) xC8 (by decide) xw_494 rfl dX8_first_5) (xcons (s_invS (mid := 179) cal_179 xw_478 xw_479 dX8_first_8) (xcons (s_aload_n rfl dX8_first_11) (xcons (s_iconst dX8_first_12 rfl) (xcons (s_putZ (f := 5) xC8 (by decide) xw_562 rfl (Or.inl rfl) dX8_first_13) (xcons (s_iconst dX8_first_16 rfl) (xcons (s_istore_n rfl dX8_first_17 (by decide)) (xcons (s_aload_n rfl dX8_first_18) (xcons (s_getI (f := 5) xC8 (by decide) xw_562 rfl dX8_first_19) (xcons (s_ifne dX8_first_22 rfl) (xcons (s_aload_n rfl dX8_first_25) (xcons (s_iload_n rfl dX8_first_26) (xcons (s_sipush dX8_first_27 rfl) (xcons (s_inv (mid := 137) xC8 cal_137 xw_579 xw_580 xw_581 dX8_first_30) (xcons (s_ifne dX8_first_33 rfl) (xcons (s_aload_n rfl dX8_first_36) (xcons (s_inv (mid := 174) xC8 cal_174 xw_583 xw_584 xw_585 dX8_first_37) (xnil))))))))))))))))))))
theorem dX8_first_40 : decode cX8_first 40 = .ok (.iinc 1 1, 3) := by decide +kernel
theorem dX8_first_43 : decode cX8_first 43 = .ok (.goto (-25), 3) := by decide +kernel
theorem dX8_first_46 : decode cX8_first 46 = .ok (.aload_n 0, 1) := by decide +kernel
theorem dX8_first_47 : decode cX8_first 47 = .ok (.getfield 13, 3) := by decide +kernel
theorem dX8_first_50 : decode cX8_first 50 = .ok (.aload_n 0, 1) := by decide +kernel
theorem dX8_first_51 : decode cX8_first 51 = .ok (.getfield 9, 3) := by decide +kernel
theorem dX8_first_54 : decode cX8_first 54 = .ok (.invokestatic 200, 3) := by decide +kernel
theorem dX8_first_57 : decode cX8_first 57 = .ok (.aload_n 0, 1) := by decide +kernel
theorem dX8_first_58 : decode cX8_first 58 = .ok (.getfield 98, 3) := by decide +kernel
theorem dX8_first_61 : decode cX8_first 61 = .ok (.ifCond .eq 7, 3) := by decide +kernel
theorem dX8_first_64 : decode cX8_first 64 = .ok (.iload_n 1, 1) := by decide +kernel
theorem dX8_first_65 : decode cX8_first 65 = .ok (.goto 5, 3) := by decide +kernel
theorem dX8_first_68 : decode cX8_first 68 = .ok (.bipush (-2), 2) := by decide +kernel
theorem dX8_first_70 : decode cX8_first 70 = .ok (.ireturn, 1) := by decide +kernel
def k127_1 : List (Nat × XI) := [(40, x_iinc 1 (1) 43), (43, x_goto 18), (46, x_aload 0 47), (47, x_getR 8 1 50), (50, x_aload 0 51), (51, x_getR 8 0 54), (54, x_invS 179 2 57), (57, x_aload 0 58), (58, x_getI 8 5 61), (61, x_ifeq 68 64), (64, x_iload 1 65), (65, x_goto 70), (68, x_push (-2) 70), (70, x_iret)]
theorem o127_1 (scr : Nat × (Nat → Int32)) : ∀ q ∈ k127_1, XSnd xm scr Y127 q.1 q.2 := xcons (s_iinc dX8_first_40 rfl (by decide)) (xcons (s_goto dX8_first_43 rfl) (xcons (s_aload_n rfl dX8_first_46) (xcons (s_getR (f := 1) xC8 (by decide) xw_494 rfl dX8_first_47) (xcons (s_aload_n rfl dX8_first_50) (xcons (s_getR (f := 0) xC8 (by decide) xw_470 rfl dX8_first_51) (xcons (s_invS (mid := 179) cal_179 xw_478 xw_479 dX8_first_54) (xcons (s_aload_n rfl dX8_first_57) (xcons (s_getI (f := 5) xC8 (by decide) xw_562 rfl dX8_first_58) (xcons (s_ifeq dX8_first_61 rfl) (xcons (s_iload_n rfl dX8_first_64) (xcons (s_goto dX8_first_65 rfl) (xcons (s_bipush dX8_first_68 rfl) (xcons (s_iret dX8_first_70 rfl) (xnil))))))))))))))
def k127 (pc : Nat) : XI := if pc < 40 then xlk k127_0 pc else xlk k127_1 pc
theorem o127 (scr : Nat × (Nat → Int32)) (pc : Nat) : XSnd xm scr Y127 pc (k127 pc) := by
  unfold k127
  exact xite (xlk_ok (o127_0 scr) pc) (xlk_ok (o127_1 scr) pc)
theorem dX8_firstTimer_0 : decode cX8_firstTimer 0 = .ok (.bipush (-2), 2) := by decide +kernel
theorem dX8_firstTimer_2 : decode cX8_firstTimer 2 = .ok (.istore_n 1, 1) := by decide +kernel
theorem dX8_firstTimer_3 : decode cX8_firstTimer 3 = .ok (.iconst 0, 1) := by decide +kernel
theorem dX8_firstTimer_4 : decode cX8_firstTimer 4 = .ok (.istore_n 2, 1) := by decide +kernel
theorem dX8_firstTimer_5 : decode cX8_firstTimer 5 = .ok (.iload_n 2, 1) := by decide +kernel
theorem dX8_firstTimer_6 : decode cX8_firstTimer 6 = .ok (.aload_n 0, 1) := by decide +kernel
theorem dX8_firstTimer_7 : decode cX8_firstTimer 7 = .ok (.getfield 9, 3) := by decide +kernel
theorem dX8_firstTimer_10 : decode cX8_firstTimer 10 = .ok (.sipush 931, 3) := by decide +kernel
theorem dX8_firstTimer_13 : decode cX8_firstTimer 13 = .ok (.iaload, 1) := by decide +kernel
theorem dX8_firstTimer_14 : decode cX8_firstTimer 14 = .ok (.if_icmp .ge 50, 3) := by decide +kernel
theorem dX8_firstTimer_17 : decode cX8_firstTimer 17 = .ok (.iload_n 1, 1) := by decide +kernel
theorem dX8_firstTimer_18 : decode cX8_firstTimer 18 = .ok (.ifCond .lt 34, 3) := by decide +kernel
theorem dX8_firstTimer_21 : decode cX8_firstTimer 21 = .ok (.aload_n 0, 1) := by decide +kernel
theorem dX8_firstTimer_22 : decode cX8_firstTimer 22 = .ok (.getfield 9, 3) := by decide +kernel
theorem dX8_firstTimer_25 : decode cX8_firstTimer 25 = .ok (.sipush 932, 3) := by decide +kernel
theorem dX8_firstTimer_28 : decode cX8_firstTimer 28 = .ok (.iconst 3, 1) := by decide +kernel
theorem dX8_firstTimer_29 : decode cX8_firstTimer 29 = .ok (.iload_n 2, 1) := by decide +kernel
theorem dX8_firstTimer_30 : decode cX8_firstTimer 30 = .ok (.imul, 1) := by decide +kernel
theorem dX8_firstTimer_31 : decode cX8_firstTimer 31 = .ok (.iadd, 1) := by decide +kernel
theorem dX8_firstTimer_32 : decode cX8_firstTimer 32 = .ok (.iconst 1, 1) := by decide +kernel
def k128_0 : List (Nat × XI) := [(0, x_push (-2) 2), (2, x_istore 1 3), (3, x_push (0) 4), (4, x_istore 2 5), (5, x_iload 2 6), (6, x_aload 0 7), (7, x_getR 8 0 10), (10, x_push (931) 13), (13, x_iald 14), (14, x_icge 64 17), (17, x_iload 1 18), (18, x_iflt 52 21), (21, x_aload 0 22), (22, x_getR 8 0 25), (25, x_push (932) 28), (28, x_push (3) 29), (29, x_iload 2 30), (30, x_imul 31), (31, x_iadd 32), (32, x_push (1) 33)]
theorem o128_0 (scr : Nat × (Nat → Int32)) : ∀ q ∈ k128_0, XSnd xm scr Y128 q.1 q.2 := xcons (s_bipush dX8_firstTimer_0 rfl) (xcons (s_istore_n rfl dX8_firstTimer_2 (by decide)) (xcons (s_iconst dX8_firstTimer_3 rfl) (xcons (s_istore_n rfl dX8_firstTimer_4 (by decide)) (xcons (s_iload_n rfl dX8_firstTimer_5) (xcons (s_aload_n rfl dX8_firstTimer_6) (xcons (s_getR (f := 0) xC8 (by decide) xw_470 rfl dX8_firstTimer_7) (xcons (s_sipush dX8_firstTimer_10 rfl) (xcons (s_iald dX8_firstTimer_13) (xcons (s_icge dX8_firstTimer_14 rfl) (xcons (s_iload_n rfl dX8_firstTimer_17) (xcons (s_iflt dX8_firstTimer_18 rfl) (xcons (s_aload_n rfl dX8_firstTimer_21) (xcons (s_getR (f := 0) xC8 (by decide) xw_470 rfl dX8_firstTimer_22) (xcons (s_sipush dX8_firstTimer_25 rfl) (xcons (s_iconst dX8_firstTimer_28 rfl) (xcons (s_iload_n rfl dX8_firstTimer_29) (xcons (s_imul dX8_firstTimer_30) (xcons (s_iadd dX8_firstTimer_31) (xcons (s_iconst dX8_firstTimer_32 rfl) (xnil))))))))))))))))))))
theorem dX8_firstTimer_33 : decode cX8_firstTimer 33 = .ok (.iadd, 1) := by decide +kernel
theorem dX8_firstTimer_34 : decode cX8_firstTimer 34 = .ok (.iaload, 1) := by decide +kernel
theorem dX8_firstTimer_35 : decode cX8_firstTimer 35 = .ok (.aload_n 0, 1) := by decide +kernel
theorem dX8_firstTimer_36 : decode cX8_firstTimer 36 = .ok (.getfield 9, 3) := by decide +kernel
theorem dX8_firstTimer_39 : decode cX8_firstTimer 39 = .ok (.sipush 932, 3) := by decide +kernel
theorem dX8_firstTimer_42 : decode cX8_firstTimer 42 = .ok (.iconst 3, 1) := by decide +kernel
theorem dX8_firstTimer_43 : decode cX8_firstTimer 43 = .ok (.iload_n 1, 1) := by decide +kernel
theorem dX8_firstTimer_44 : decode cX8_firstTimer 44 = .ok (.imul, 1) := by decide +kernel
theorem dX8_firstTimer_45 : decode cX8_firstTimer 45 = .ok (.iadd, 1) := by decide +kernel
theorem dX8_firstTimer_46 : decode cX8_firstTimer 46 = .ok (.iconst 1, 1) := by decide +kernel
theorem dX8_firstTimer_47 : decode cX8_firstTimer 47 = .ok (.iadd, 1) := by decide +kernel
theorem dX8_firstTimer_48 : decode cX8_firstTimer 48 = .ok (.iaload, 1) := by decide +kernel
theorem dX8_firstTimer_49 : decode cX8_firstTimer 49 = .ok (.if_icmp .ge 7, 3) := by decide +kernel
theorem dX8_firstTimer_52 : decode cX8_firstTimer 52 = .ok (.iload_n 2, 1) := by decide +kernel
theorem dX8_firstTimer_53 : decode cX8_firstTimer 53 = .ok (.goto 4, 3) := by decide +kernel
theorem dX8_firstTimer_56 : decode cX8_firstTimer 56 = .ok (.iload_n 1, 1) := by decide +kernel
theorem dX8_firstTimer_57 : decode cX8_firstTimer 57 = .ok (.istore_n 1, 1) := by decide +kernel
theorem dX8_firstTimer_58 : decode cX8_firstTimer 58 = .ok (.iinc 2 1, 3) := by decide +kernel
theorem dX8_firstTimer_61 : decode cX8_firstTimer 61 = .ok (.goto (-56), 3) := by decide +kernel
theorem dX8_firstTimer_64 : decode cX8_firstTimer 64 = .ok (.iload_n 1, 1) := by decide +kernel
def k128_1 : List (Nat × XI) := [(33, x_iadd 34), (34, x_iald 35), (35, x_aload 0 36), (36, x_getR 8 0 39), (39, x_push (932) 42), (42, x_push (3) 43), (43, x_iload 1 44), (44, x_imul 45), (45, x_iadd 46), (46, x_push (1) 47), (47, x_iadd 48), (48, x_iald 49), (49, x_icge 56 52), (52, x_iload 2 53), (53, x_goto 57), (56, x_iload 1 57), (57, x_istore 1 58), (58, x_iinc 2 (1) 61), (61, x_goto 5), (64, x_iload 1 65)]
theorem o128_1 (scr : Nat × (Nat → Int32)) : ∀ q ∈ k128_1, XSnd xm scr Y128 q.1 q.2 := xcons (s_iadd dX8_firstTimer_33) (xcons (s_iald dX8_firstTimer_34) (xcons (s_aload_n rfl dX8_firstTimer_35) (xcons (s_getR (f := 0) xC8 (by decide) xw_470 rfl dX8_firstTimer_36) (xcons (s_sipush dX8_firstTimer_39 rfl) (xcons (s_iconst dX8_firstTimer_42 rfl) (xcons (s_iload_n rfl dX8_firstTimer_43) (xcons (s_imul dX8_firstTimer_44) (xcons (s_iadd dX8_firstTimer_45) (xcons (s_iconst dX8_firstTimer_46 rfl) (xcons (s_iadd dX8_firstTimer_47) (xcons (s_iald dX8_firstTimer_48) (xcons (s_icge dX8_firstTimer_49 rfl) (xcons (s_iload_n rfl dX8_firstTimer_52) (xcons (s_goto dX8_firstTimer_53 rfl) (xcons (s_iload_n rfl dX8_firstTimer_56) (xcons (s_istore_n rfl dX8_firstTimer_57 (by decide)) (xcons (s_iinc dX8_firstTimer_58 rfl (by decide)) (xcons (s_goto dX8_firstTimer_61 rfl) (xcons (s_iload_n rfl dX8_firstTimer_64) (xnil))))))))))))))))))))
theorem dX8_firstTimer_65 : decode cX8_firstTimer 65 = .ok (.ireturn, 1) := by decide +kernel
def k128_2 : List (Nat × XI) := [(65, x_iret)]
theorem o128_2 (scr : Nat × (Nat → Int32)) : ∀ q ∈ k128_2, XSnd xm scr Y128 q.1 q.2 := xcons (s_iret dX8_firstTimer_65 rfl) (xnil)
def k128 (pc : Nat) : XI := if pc < 33 then xlk k128_0 pc else if pc < 65 then xlk k128_1 pc else xlk k128_2 pc
theorem o128 (scr : Nat × (Nat → Int32)) (pc : Nat) : XSnd xm scr Y128 pc (k128 pc) := by
  unfold k128
  exact xite (xlk_ok (o128_0 scr) pc) (xite (xlk_ok (o128_1 scr) pc) (xlk_ok (o128_2 scr) pc))
