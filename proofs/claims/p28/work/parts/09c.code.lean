/-! 09c: the code, instruction by instruction -/
theorem dX6_makeSteps_0 : decode cX6_makeSteps 0 = .ok (.iconst 0, 1) := by decide +kernel
theorem dX6_makeSteps_1 : decode cX6_makeSteps 1 = .ok (.istore_n 2, 1) := by decide +kernel
theorem dX6_makeSteps_2 : decode cX6_makeSteps 2 = .ok (.aload_n 0, 1) := by decide +kernel
theorem dX6_makeSteps_3 : decode cX6_makeSteps 3 = .ok (.aload_n 0, 1) := by decide +kernel
theorem dX6_makeSteps_4 : decode cX6_makeSteps 4 = .ok (.invokevirtual 106, 3) := by decide +kernel
theorem dX6_makeSteps_7 : decode cX6_makeSteps 7 = .ok (.putfield 66, 3) := by decide +kernel
theorem dX6_makeSteps_10 : decode cX6_makeSteps 10 = .ok (.iload_n 2, 1) := by decide +kernel
theorem dX6_makeSteps_11 : decode cX6_makeSteps 11 = .ok (.iload_n 1, 1) := by decide +kernel
theorem dX6_makeSteps_12 : decode cX6_makeSteps 12 = .ok (.if_icmp .ge 29, 3) := by decide +kernel
theorem dX6_makeSteps_15 : decode cX6_makeSteps 15 = .ok (.aload_n 0, 1) := by decide +kernel
theorem dX6_makeSteps_16 : decode cX6_makeSteps 16 = .ok (.getfield 66, 3) := by decide +kernel
theorem dX6_makeSteps_19 : decode cX6_makeSteps 19 = .ok (.ifCond .ne 22, 3) := by decide +kernel
theorem dX6_makeSteps_22 : decode cX6_makeSteps 22 = .ok (.aload_n 0, 1) := by decide +kernel
theorem dX6_makeSteps_23 : decode cX6_makeSteps 23 = .ok (.invokevirtual 110, 3) := by decide +kernel
theorem dX6_makeSteps_26 : decode cX6_makeSteps 26 = .ok (.pop, 1) := by decide +kernel
theorem dX6_makeSteps_27 : decode cX6_makeSteps 27 = .ok (.iinc 2 1, 3) := by decide +kernel
theorem dX6_makeSteps_30 : decode cX6_makeSteps 30 = .ok (.aload_n 0, 1) := by decide +kernel
theorem dX6_makeSteps_31 : decode cX6_makeSteps 31 = .ok (.aload_n 0, 1) := by decide +kernel
theorem dX6_makeSteps_32 : decode cX6_makeSteps 32 = .ok (.invokevirtual 106, 3) := by decide +kernel
theorem dX6_makeSteps_35 : decode cX6_makeSteps 35 = .ok (.putfield 66, 3) := by decide +kernel
def k60_0 : List (Nat × XI) := [(0, x_push (0) 1), (1, x_istore 2 2), (2, x_aload 0 3), (3, x_aload 0 4), (4, x_inv 51 6 0 7), (7, x_putI 6 10 10), (10, x_iload 2 11), (11, x_iload 1 12), (12, x_icge 41 15), (15, x_aload 0 16), (16, x_getI 6 10 19), (19, x_ifne 41 22), (22, x_aload 0 23), (23, x_inv 65 6 0 26), (26, x_pop 27), (27, x_iinc 2 (1) 30), (30, x_aload 0 31), (31, x_aload 0 32), (32, x_inv 51 6 0 35), (35, x_putI 6 10 38)]
theorem o60_0 (scr : Nat × (Nat → Int32)) : ∀ q ∈ k60_0, XSnd xm scr Y60 q.1 q.2 := xcons (s_iconst dX6_makeSteps_0 rfl) (xcons (s_istore_n rfl dX6_makeSteps_1 (by decide)) (xcons (s_aload_n rfl dX6_makeSteps_2) (xcons (s_aload_n rfl dX6_makeSteps_3) (xcons (s_inv (mid := 51) xC6 cal_51 xw_279 xw_280 xw_281 dX6_makeSteps_4) (xcons (s_putI (f := 10) xC6 (by decide) xw_163 rfl (Or.inl rfl) dX6_makeSteps_7) (xcons (s_iload_n rfl dX6_makeSteps_10) (xcons (s_iload_n rfl dX6_makeSteps_11) (xcons (s_icge dX6_makeSteps_12 rfl) (xcons (s_aload_n rfl dX6_makeSteps_15) (xcons (s_getI (f := 10) xC6 (by decide) xw_163 rfl dX6_makeSteps_16) (xcons (s_ifne dX6_makeSteps_19 rfl) (xcons (s_aload_n rfl dX6_makeSteps_22) (xcons (s_inv (mid := 65) xC6 cal_65 xw_283 xw_284 xw_285 dX6_makeSteps_23) (xcons (s_pop dX6_makeSteps_26) (xcons (s_iinc dX6_makeSteps_27 rfl (by decide)) (xcons (s_aload_n rfl dX6_makeSteps_30) (xcons (s_aload_n rfl dX6_makeSteps_31) (xcons (s_inv (mid := 51) xC6 cal_51 xw_279 xw_280 xw_281 dX6_makeSteps_32) (xcons (s_putI (f := 10) xC6 (by decide) xw_163 rfl (Or.inl rfl) dX6_makeSteps_35) (xnil))))))))))))))))))))
theorem dX6_makeSteps_38 : decode cX6_makeSteps 38 = .ok (.goto (-28), 3) := by decide +kernel
theorem dX6_makeSteps_41 : decode cX6_makeSteps 41 = .ok (.iload_n 2, 1) := by decide +kernel
theorem dX6_makeSteps_42 : decode cX6_makeSteps 42 = .ok (.ireturn, 1) := by decide +kernel
def k60_1 : List (Nat × XI) := [(38, x_goto 10), (41, x_iload 2 42), (42, x_iret)]
theorem o60_1 (scr : Nat × (Nat → Int32)) : ∀ q ∈ k60_1, XSnd xm scr Y60 q.1 q.2 := xcons (s_goto dX6_makeSteps_38 rfl) (xcons (s_iload_n rfl dX6_makeSteps_41) (xcons (s_iret dX6_makeSteps_42 rfl) (xnil)))
def k60 (pc : Nat) : XI := if pc < 38 then xlk k60_0 pc else xlk k60_1 pc
theorem o60 (scr : Nat × (Nat → Int32)) (pc : Nat) : XSnd xm scr Y60 pc (k60 pc) := by
  unfold k60
  exact xite (xlk_ok (o60_0 scr) pc) (xlk_ok (o60_1 scr) pc)
theorem dX6_nextDealer_0 : decode cX6_nextDealer 0 = .ok (.iconst 1, 1) := by decide +kernel
theorem dX6_nextDealer_1 : decode cX6_nextDealer 1 = .ok (.istore_n 1, 1) := by decide +kernel
theorem dX6_nextDealer_2 : decode cX6_nextDealer 2 = .ok (.iload_n 1, 1) := by decide +kernel
theorem dX6_nextDealer_3 : decode cX6_nextDealer 3 = .ok (.bipush 12, 2) := by decide +kernel
theorem dX6_nextDealer_5 : decode cX6_nextDealer 5 = .ok (.if_icmp .gt 44, 3) := by decide +kernel
theorem dX6_nextDealer_8 : decode cX6_nextDealer 8 = .ok (.aload_n 0, 1) := by decide +kernel
theorem dX6_nextDealer_9 : decode cX6_nextDealer 9 = .ok (.getfield 36, 3) := by decide +kernel
theorem dX6_nextDealer_12 : decode cX6_nextDealer 12 = .ok (.iload_n 1, 1) := by decide +kernel
theorem dX6_nextDealer_13 : decode cX6_nextDealer 13 = .ok (.iadd, 1) := by decide +kernel
theorem dX6_nextDealer_14 : decode cX6_nextDealer 14 = .ok (.bipush 12, 2) := by decide +kernel
theorem dX6_nextDealer_16 : decode cX6_nextDealer 16 = .ok (.irem, 1) := by decide +kernel
theorem dX6_nextDealer_17 : decode cX6_nextDealer 17 = .ok (.istore_n 2, 1) := by decide +kernel
theorem dX6_nextDealer_18 : decode cX6_nextDealer 18 = .ok (.aload_n 0, 1) := by decide +kernel
theorem dX6_nextDealer_19 : decode cX6_nextDealer 19 = .ok (.iload_n 2, 1) := by decide +kernel
theorem dX6_nextDealer_20 : decode cX6_nextDealer 20 = .ok (.invokevirtual 86, 3) := by decide +kernel
theorem dX6_nextDealer_23 : decode cX6_nextDealer 23 = .ok (.ifCond .eq 20, 3) := by decide +kernel
theorem dX6_nextDealer_26 : decode cX6_nextDealer 26 = .ok (.aload_n 0, 1) := by decide +kernel
theorem dX6_nextDealer_27 : decode cX6_nextDealer 27 = .ok (.getfield 11, 3) := by decide +kernel
theorem dX6_nextDealer_30 : decode cX6_nextDealer 30 = .ok (.iload_n 2, 1) := by decide +kernel
theorem dX6_nextDealer_31 : decode cX6_nextDealer 31 = .ok (.aaload, 1) := by decide +kernel
def k61_0 : List (Nat × XI) := [(0, x_push (1) 1), (1, x_istore 1 2), (2, x_iload 1 3), (3, x_push (12) 5), (5, x_icgt 49 8), (8, x_aload 0 9), (9, x_getI 6 5 12), (12, x_iload 1 13), (13, x_iadd 14), (14, x_push (12) 16), (16, x_irem 17), (17, x_istore 2 18), (18, x_aload 0 19), (19, x_iload 2 20), (20, x_inv 54 6 1 23), (23, x_ifeq 43 26), (26, x_aload 0 27), (27, x_getR 6 0 30), (30, x_iload 2 31), (31, x_aald 32)]
theorem o61_0 (scr : Nat × (Nat → Int32)) : ∀ q ∈ k61_0, XSnd xm scr Y61 q.1 q.2 := xcons (s_iconst dX6_nextDealer_0 rfl) (xcons (s_istore_n rfl dX6_nextDealer_1 (by decide)) (xcons (s_iload_n rfl dX6_nextDealer_2) (xcons (s_bipush dX6_nextDealer_3 rfl) (xcons (s_icgt dX6_nextDealer_5 rfl) (xcons (s_aload_n rfl dX6_nextDealer_8) (xcons (s_getI (f := 5) xC6 (by decide) xw_158 rfl dX6_nextDealer_9) (xcons (s_iload_n rfl dX6_nextDealer_12) (xcons (s_iadd dX6_nextDealer_13) (xcons (s_bipush dX6_nextDealer_14 rfl) (xcons (s_irem dX6_nextDealer_16) (xcons (s_istore_n rfl dX6_nextDealer_17 (by decide)) (xcons (s_aload_n rfl dX6_nextDealer_18) (xcons (s_iload_n rfl dX6_nextDealer_19) (xcons (s_inv (mid := 54) xC6 cal_54 xw_134 xw_135 xw_136 dX6_nextDealer_20) (xcons (s_ifeq dX6_nextDealer_23 rfl) (xcons (s_aload_n rfl dX6_nextDealer_26) (xcons (s_getR (f := 0) xC6 (by decide) xw_137 rfl dX6_nextDealer_27) (xcons (s_iload_n rfl dX6_nextDealer_30) (xcons (s_aald dX6_nextDealer_31) (xnil))))))))))))))))))))
theorem dX6_nextDealer_32 : decode cX6_nextDealer 32 = .ok (.getfield 76, 3) := by decide +kernel
theorem dX6_nextDealer_35 : decode cX6_nextDealer 35 = .ok (.getfield 79, 3) := by decide +kernel
theorem dX6_nextDealer_38 : decode cX6_nextDealer 38 = .ok (.ifCond .le 5, 3) := by decide +kernel
theorem dX6_nextDealer_41 : decode cX6_nextDealer 41 = .ok (.iload_n 2, 1) := by decide +kernel
theorem dX6_nextDealer_42 : decode cX6_nextDealer 42 = .ok (.ireturn, 1) := by decide +kernel
theorem dX6_nextDealer_43 : decode cX6_nextDealer 43 = .ok (.iinc 1 1, 3) := by decide +kernel
theorem dX6_nextDealer_46 : decode cX6_nextDealer 46 = .ok (.goto (-44), 3) := by decide +kernel
theorem dX6_nextDealer_49 : decode cX6_nextDealer 49 = .ok (.iconst (-1), 1) := by decide +kernel
theorem dX6_nextDealer_50 : decode cX6_nextDealer 50 = .ok (.ireturn, 1) := by decide +kernel
def k61_1 : List (Nat × XI) := [(32, x_getR 0 8 35), (35, x_getI 3 2 38), (38, x_ifle 43 41), (41, x_iload 2 42), (42, x_iret), (43, x_iinc 1 (1) 46), (46, x_goto 2), (49, x_push (-1) 50), (50, x_iret)]
theorem o61_1 (scr : Nat × (Nat → Int32)) : ∀ q ∈ k61_1, XSnd xm scr Y61 q.1 q.2 := xcons (s_getR (f := 8) xC0 (by decide) xw_243 rfl dX6_nextDealer_32) (xcons (s_getI (f := 2) xC3 (by decide) xw_204 rfl dX6_nextDealer_35) (xcons (s_ifle dX6_nextDealer_38 rfl) (xcons (s_iload_n rfl dX6_nextDealer_41) (xcons (s_iret dX6_nextDealer_42 rfl) (xcons (s_iinc dX6_nextDealer_43 rfl (by decide)) (xcons (s_goto dX6_nextDealer_46 rfl) (xcons (s_iconst dX6_nextDealer_49 rfl) (xcons (s_iret dX6_nextDealer_50 rfl) (xnil)))))))))
def k61 (pc : Nat) : XI := if pc < 32 then xlk k61_0 pc else xlk k61_1 pc
theorem o61 (scr : Nat × (Nat → Int32)) (pc : Nat) : XSnd xm scr Y61 pc (k61 pc) := by
  unfold k61
  exact xite (xlk_ok (o61_0 scr) pc) (xlk_ok (o61_1 scr) pc)
theorem dX6_restart_0 : decode cX6_restart 0 = .ok (.aload_n 0, 1) := by decide +kernel
theorem dX6_restart_1 : decode cX6_restart 1 = .ok (.iload_n 1, 1) := by decide +kernel
theorem dX6_restart_2 : decode cX6_restart 2 = .ok (.invokevirtual 82, 3) := by decide +kernel
theorem dX6_restart_5 : decode cX6_restart 5 = .ok (.ifCond .ne 4, 3) := by decide +kernel
theorem dX6_restart_8 : decode cX6_restart 8 = .ok (.return_, 1) := by decide +kernel
theorem dX6_restart_9 : decode cX6_restart 9 = .ok (.aload_n 0, 1) := by decide +kernel
theorem dX6_restart_10 : decode cX6_restart 10 = .ok (.dup, 1) := by decide +kernel
theorem dX6_restart_11 : decode cX6_restart 11 = .ok (.getfield 230, 3) := by decide +kernel
theorem dX6_restart_14 : decode cX6_restart 14 = .ok (.iconst 1, 1) := by decide +kernel
theorem dX6_restart_15 : decode cX6_restart 15 = .ok (.iload_n 1, 1) := by decide +kernel
theorem dX6_restart_16 : decode cX6_restart 16 = .ok (.ishl, 1) := by decide +kernel
theorem dX6_restart_17 : decode cX6_restart 17 = .ok (.ior, 1) := by decide +kernel
theorem dX6_restart_18 : decode cX6_restart 18 = .ok (.putfield 230, 3) := by decide +kernel
theorem dX6_restart_21 : decode cX6_restart 21 = .ok (.bipush 11, 2) := by decide +kernel
theorem dX6_restart_23 : decode cX6_restart 23 = .ok (.istore_n 2, 1) := by decide +kernel
theorem dX6_restart_24 : decode cX6_restart 24 = .ok (.iload_n 2, 1) := by decide +kernel
theorem dX6_restart_25 : decode cX6_restart 25 = .ok (.iload_n 1, 1) := by decide +kernel
theorem dX6_restart_26 : decode cX6_restart 26 = .ok (.if_icmp .le 24, 3) := by decide +kernel
theorem dX6_restart_29 : decode cX6_restart 29 = .ok (.aload_n 0, 1) := by decide +kernel
theorem dX6_restart_30 : decode cX6_restart 30 = .ok (.iload_n 2, 1) := by decide +kernel
def k62_0 : List (Nat × XI) := [(0, x_aload 0 1), (1, x_iload 1 2), (2, x_inv 53 6 1 5), (5, x_ifne 9 8), (8, x_ret), (9, x_aload 0 10), (10, x_dup 11), (11, x_getI 6 12 14), (14, x_push (1) 15), (15, x_iload 1 16), (16, x_ishl 17), (17, x_ior 18), (18, x_putI 6 12 21), (21, x_push (11) 23), (23, x_istore 2 24), (24, x_iload 2 25), (25, x_iload 1 26), (26, x_icle 50 29), (29, x_aload 0 30), (30, x_iload 2 31)]
theorem o62_0 (scr : Nat × (Nat → Int32)) : ∀ q ∈ k62_0, XSnd xm scr Y62 q.1 q.2 := xcons (s_aload_n rfl dX6_restart_0) (xcons (s_iload_n rfl dX6_restart_1) (xcons (s_inv (mid := 53) xC6 cal_53 xw_130 xw_131 xw_132 dX6_restart_2) (xcons (s_ifne dX6_restart_5 rfl) (xcons (s_ret dX6_restart_8 rfl) (xcons (s_aload_n rfl dX6_restart_9) (xcons (s_dup dX6_restart_10) (xcons (s_getI (f := 12) xC6 (by decide) xw_286 rfl dX6_restart_11) (xcons (s_iconst dX6_restart_14 rfl) (xcons (s_iload_n rfl dX6_restart_15) (xcons (s_ishl dX6_restart_16) (xcons (s_ior dX6_restart_17) (xcons (s_putI (f := 12) xC6 (by decide) xw_286 rfl (Or.inl rfl) dX6_restart_18) (xcons (s_bipush dX6_restart_21 rfl) (xcons (s_istore_n rfl dX6_restart_23 (by decide)) (xcons (s_iload_n rfl dX6_restart_24) (xcons (s_iload_n rfl dX6_restart_25) (xcons (s_icle dX6_restart_26 rfl) (xcons (s_aload_n rfl dX6_restart_29) (xcons (s_iload_n rfl dX6_restart_30) (xnil))))))))))))))))))))
theorem dX6_restart_31 : decode cX6_restart 31 = .ok (.iload_n 1, 1) := by decide +kernel
theorem dX6_restart_32 : decode cX6_restart 32 = .ok (.invokevirtual 199, 3) := by decide +kernel
theorem dX6_restart_35 : decode cX6_restart 35 = .ok (.ifCond .eq 9, 3) := by decide +kernel
theorem dX6_restart_38 : decode cX6_restart 38 = .ok (.aload_n 0, 1) := by decide +kernel
theorem dX6_restart_39 : decode cX6_restart 39 = .ok (.iload_n 2, 1) := by decide +kernel
theorem dX6_restart_40 : decode cX6_restart 40 = .ok (.invokevirtual 196, 3) := by decide +kernel
theorem dX6_restart_43 : decode cX6_restart 43 = .ok (.pop, 1) := by decide +kernel
theorem dX6_restart_44 : decode cX6_restart 44 = .ok (.iinc 2 (-1), 3) := by decide +kernel
theorem dX6_restart_47 : decode cX6_restart 47 = .ok (.goto (-23), 3) := by decide +kernel
theorem dX6_restart_50 : decode cX6_restart 50 = .ok (.aload_n 0, 1) := by decide +kernel
theorem dX6_restart_51 : decode cX6_restart 51 = .ok (.getfield 11, 3) := by decide +kernel
theorem dX6_restart_54 : decode cX6_restart 54 = .ok (.iload_n 1, 1) := by decide +kernel
theorem dX6_restart_55 : decode cX6_restart 55 = .ok (.aaload, 1) := by decide +kernel
theorem dX6_restart_56 : decode cX6_restart 56 = .ok (.iconst 0, 1) := by decide +kernel
theorem dX6_restart_57 : decode cX6_restart 57 = .ok (.putfield 175, 3) := by decide +kernel
theorem dX6_restart_60 : decode cX6_restart 60 = .ok (.aload_n 0, 1) := by decide +kernel
theorem dX6_restart_61 : decode cX6_restart 61 = .ok (.getfield 11, 3) := by decide +kernel
theorem dX6_restart_64 : decode cX6_restart 64 = .ok (.iload_n 1, 1) := by decide +kernel
theorem dX6_restart_65 : decode cX6_restart 65 = .ok (.aaload, 1) := by decide +kernel
theorem dX6_restart_66 : decode cX6_restart 66 = .ok (.invokevirtual 233, 3) := by decide +kernel
def k62_1 : List (Nat × XI) := [(31, x_iload 1 32), (32, x_inv 55 6 2 35), (35, x_ifeq 44 38), (38, x_aload 0 39), (39, x_iload 2 40), (40, x_inv 49 6 1 43), (43, x_pop 44), (44, x_iinc 2 (-1) 47), (47, x_goto 24), (50, x_aload 0 51), (51, x_getR 6 0 54), (54, x_iload 1 55), (55, x_aald 56), (56, x_push (0) 57), (57, x_putI 0 5 60), (60, x_aload 0 61), (61, x_getR 6 0 64), (64, x_iload 1 65), (65, x_aald 66), (66, x_inv 3 0 0 69)]
theorem o62_1 (scr : Nat × (Nat → Int32)) : ∀ q ∈ k62_1, XSnd xm scr Y62 q.1 q.2 := xcons (s_iload_n rfl dX6_restart_31) (xcons (s_inv (mid := 55) xC6 cal_55 xw_235 xw_236 xw_237 dX6_restart_32) (xcons (s_ifeq dX6_restart_35 rfl) (xcons (s_aload_n rfl dX6_restart_38) (xcons (s_iload_n rfl dX6_restart_39) (xcons (s_inv (mid := 49) xC6 cal_49 xw_200 xw_201 xw_202 dX6_restart_40) (xcons (s_pop dX6_restart_43) (xcons (s_iinc dX6_restart_44 rfl (by decide)) (xcons (s_goto dX6_restart_47 rfl) (xcons (s_aload_n rfl dX6_restart_50) (xcons (s_getR (f := 0) xC6 (by decide) xw_137 rfl dX6_restart_51) (xcons (s_iload_n rfl dX6_restart_54) (xcons (s_aald dX6_restart_55) (xcons (s_iconst dX6_restart_56 rfl) (xcons (s_putI (f := 5) xC0 (by decide) xw_175 rfl (Or.inl rfl) dX6_restart_57) (xcons (s_aload_n rfl dX6_restart_60) (xcons (s_getR (f := 0) xC6 (by decide) xw_137 rfl dX6_restart_61) (xcons (s_iload_n rfl dX6_restart_64) (xcons (s_aald dX6_restart_65) (xcons (s_inv (mid := 3) xC0 cal_3 xw_244 xw_12 xw_13 dX6_restart_66) (xnil))))))))))))))))))))
theorem dX6_restart_69 : decode cX6_restart 69 = .ok (.aload_n 0, 1) := by decide +kernel
theorem dX6_restart_70 : decode cX6_restart 70 = .ok (.getfield 20, 3) := by decide +kernel
theorem dX6_restart_73 : decode cX6_restart 73 = .ok (.iload_n 1, 1) := by decide +kernel
theorem dX6_restart_74 : decode cX6_restart 74 = .ok (.invokevirtual 236, 3) := by decide +kernel
theorem dX6_restart_77 : decode cX6_restart 77 = .ok (.aload_n 0, 1) := by decide +kernel
theorem dX6_restart_78 : decode cX6_restart 78 = .ok (.aload_n 0, 1) := by decide +kernel
theorem dX6_restart_79 : decode cX6_restart 79 = .ok (.getfield 11, 3) := by decide +kernel
theorem dX6_restart_82 : decode cX6_restart 82 = .ok (.iload_n 1, 1) := by decide +kernel
theorem dX6_restart_83 : decode cX6_restart 83 = .ok (.aaload, 1) := by decide +kernel
theorem dX6_restart_84 : decode cX6_restart 84 = .ok (.invokevirtual 185, 3) := by decide +kernel
theorem dX6_restart_87 : decode cX6_restart 87 = .ok (.return_, 1) := by decide +kernel
def k62_2 : List (Nat × XI) := [(69, x_aload 0 70), (70, x_getR 6 1 73), (73, x_iload 1 74), (74, x_inv 38 5 1 77), (77, x_aload 0 78), (78, x_aload 0 79), (79, x_getR 6 0 82), (82, x_iload 1 83), (83, x_aald 84), (84, x_inv 66 6 1 87), (87, x_ret)]
theorem o62_2 (scr : Nat × (Nat → Int32)) : ∀ q ∈ k62_2, XSnd xm scr Y62 q.1 q.2 := xcons (s_aload_n rfl dX6_restart_69) (xcons (s_getR (f := 1) xC6 (by decide) xw_150 rfl dX6_restart_70) (xcons (s_iload_n rfl dX6_restart_73) (xcons (s_inv (mid := 38) xC5 cal_38 xw_246 xw_247 xw_248 dX6_restart_74) (xcons (s_aload_n rfl dX6_restart_77) (xcons (s_aload_n rfl dX6_restart_78) (xcons (s_getR (f := 0) xC6 (by decide) xw_137 rfl dX6_restart_79) (xcons (s_iload_n rfl dX6_restart_82) (xcons (s_aald dX6_restart_83) (xcons (s_inv (mid := 66) xC6 cal_66 xw_187 xw_188 xw_189 dX6_restart_84) (xcons (s_ret dX6_restart_87 rfl) (xnil)))))))))))
def k62 (pc : Nat) : XI := if pc < 31 then xlk k62_0 pc else if pc < 69 then xlk k62_1 pc else xlk k62_2 pc
theorem o62 (scr : Nat × (Nat → Int32)) (pc : Nat) : XSnd xm scr Y62 pc (k62 pc) := by
  unfold k62
  exact xite (xlk_ok (o62_0 scr) pc) (xite (xlk_ok (o62_1 scr) pc) (xlk_ok (o62_2 scr) pc))
theorem dX6_send_0 : decode cX6_send 0 = .ok (.aload_n 0, 1) := by decide +kernel
theorem dX6_send_1 : decode cX6_send 1 = .ok (.iload_n 1, 1) := by decide +kernel
theorem dX6_send_2 : decode cX6_send 2 = .ok (.invokevirtual 86, 3) := by decide +kernel
theorem dX6_send_5 : decode cX6_send 5 = .ok (.ifCond .eq 24, 3) := by decide +kernel
theorem dX6_send_8 : decode cX6_send 8 = .ok (.aload_n 0, 1) := by decide +kernel
theorem dX6_send_9 : decode cX6_send 9 = .ok (.getfield 11, 3) := by decide +kernel
theorem dX6_send_12 : decode cX6_send 12 = .ok (.iload_n 1, 1) := by decide +kernel
theorem dX6_send_13 : decode cX6_send 13 = .ok (.aaload, 1) := by decide +kernel
theorem dX6_send_14 : decode cX6_send 14 = .ok (.getfield 76, 3) := by decide +kernel
theorem dX6_send_17 : decode cX6_send 17 = .ok (.iload_n 2, 1) := by decide +kernel
theorem dX6_send_18 : decode cX6_send 18 = .ok (.iload_n 3, 1) := by decide +kernel
theorem dX6_send_19 : decode cX6_send 19 = .ok (.invokevirtual 102, 3) := by decide +kernel
theorem dX6_send_22 : decode cX6_send 22 = .ok (.ifCond .eq 7, 3) := by decide +kernel
theorem dX6_send_25 : decode cX6_send 25 = .ok (.iconst 1, 1) := by decide +kernel
theorem dX6_send_26 : decode cX6_send 26 = .ok (.goto 4, 3) := by decide +kernel
theorem dX6_send_29 : decode cX6_send 29 = .ok (.iconst 0, 1) := by decide +kernel
theorem dX6_send_30 : decode cX6_send 30 = .ok (.istore 4, 2) := by decide +kernel
theorem dX6_send_32 : decode cX6_send 32 = .ok (.iload 4, 2) := by decide +kernel
theorem dX6_send_34 : decode cX6_send 34 = .ok (.ifCond .ne 13, 3) := by decide +kernel
theorem dX6_send_37 : decode cX6_send 37 = .ok (.aload_n 0, 1) := by decide +kernel
def k63_0 : List (Nat × XI) := [(0, x_aload 0 1), (1, x_iload 1 2), (2, x_inv 54 6 1 5), (5, x_ifeq 29 8), (8, x_aload 0 9), (9, x_getR 6 0 12), (12, x_iload 1 13), (13, x_aald 14), (14, x_getR 0 8 17), (17, x_iload 2 18), (18, x_iload 3 19), (19, x_inv 15 3 2 22), (22, x_ifeq 29 25), (25, x_push (1) 26), (26, x_goto 30), (29, x_push (0) 30), (30, x_istore 4 32), (32, x_iload 4 34), (34, x_ifne 47 37), (37, x_aload 0 38)]
theorem o63_0 (scr : Nat × (Nat → Int32)) : ∀ q ∈ k63_0, XSnd xm scr Y63 q.1 q.2 := xcons (s_aload_n rfl dX6_send_0) (xcons (s_iload_n rfl dX6_send_1) (xcons (s_inv (mid := 54) xC6 cal_54 xw_134 xw_135 xw_136 dX6_send_2) (xcons (s_ifeq dX6_send_5 rfl) (xcons (s_aload_n rfl dX6_send_8) (xcons (s_getR (f := 0) xC6 (by decide) xw_137 rfl dX6_send_9) (xcons (s_iload_n rfl dX6_send_12) (xcons (s_aald dX6_send_13) (xcons (s_getR (f := 8) xC0 (by decide) xw_243 rfl dX6_send_14) (xcons (s_iload_n rfl dX6_send_17) (xcons (s_iload_n rfl dX6_send_18) (xcons (s_inv (mid := 15) xC3 cal_15 xw_185 xw_74 xw_75 dX6_send_19) (xcons (s_ifeq dX6_send_22 rfl) (xcons (s_iconst dX6_send_25 rfl) (xcons (s_goto dX6_send_26 rfl) (xcons (s_iconst dX6_send_29 rfl) (xcons (s_istore dX6_send_30 (by decide)) (xcons (s_iload dX6_send_32) (xcons (s_ifne dX6_send_34 rfl) (xcons (s_aload_n rfl dX6_send_37) (xnil))))))))))))))))))))
theorem dX6_send_38 : decode cX6_send 38 = .ok (.dup, 1) := by decide +kernel
theorem dX6_send_39 : decode cX6_send 39 = .ok (.getfield 63, 3) := by decide +kernel
theorem dX6_send_42 : decode cX6_send 42 = .ok (.iconst 1, 1) := by decide +kernel
theorem dX6_send_43 : decode cX6_send 43 = .ok (.iadd, 1) := by decide +kernel
theorem dX6_send_44 : decode cX6_send 44 = .ok (.putfield 63, 3) := by decide +kernel
theorem dX6_send_47 : decode cX6_send 47 = .ok (.iload 4, 2) := by decide +kernel
theorem dX6_send_49 : decode cX6_send 49 = .ok (.ireturn, 1) := by decide +kernel
def k63_1 : List (Nat × XI) := [(38, x_dup 39), (39, x_getI 6 8 42), (42, x_push (1) 43), (43, x_iadd 44), (44, x_putI 6 8 47), (47, x_iload 4 49), (49, x_zret)]
theorem o63_1 (scr : Nat × (Nat → Int32)) : ∀ q ∈ k63_1, XSnd xm scr Y63 q.1 q.2 := xcons (s_dup dX6_send_38) (xcons (s_getI (f := 8) xC6 (by decide) xw_161 rfl dX6_send_39) (xcons (s_iconst dX6_send_42 rfl) (xcons (s_iadd dX6_send_43) (xcons (s_putI (f := 8) xC6 (by decide) xw_161 rfl (Or.inl rfl) dX6_send_44) (xcons (s_iload dX6_send_47) (xcons (s_zret dX6_send_49 rfl) (xnil)))))))
def k63 (pc : Nat) : XI := if pc < 38 then xlk k63_0 pc else xlk k63_1 pc
theorem o63 (scr : Nat × (Nat → Int32)) (pc : Nat) : XSnd xm scr Y63 pc (k63 pc) := by
  unfold k63
  exact xite (xlk_ok (o63_0 scr) pc) (xlk_ok (o63_1 scr) pc)
theorem dX6_sendDown_0 : decode cX6_sendDown 0 = .ok (.iconst 0, 1) := by decide +kernel
theorem dX6_sendDown_1 : decode cX6_sendDown 1 = .ok (.istore 4, 2) := by decide +kernel
theorem dX6_sendDown_3 : decode cX6_sendDown 3 = .ok (.iconst 0, 1) := by decide +kernel
theorem dX6_sendDown_4 : decode cX6_sendDown 4 = .ok (.istore 5, 2) := by decide +kernel
theorem dX6_sendDown_6 : decode cX6_sendDown 6 = .ok (.iload 5, 2) := by decide +kernel
theorem dX6_sendDown_8 : decode cX6_sendDown 8 = .ok (.aload_n 0, 1) := by decide +kernel
theorem dX6_sendDown_9 : decode cX6_sendDown 9 = .ok (.getfield 44, 3) := by decide +kernel
theorem dX6_sendDown_12 : decode cX6_sendDown 12 = .ok (.if_icmp .ge 37, 3) := by decide +kernel
theorem dX6_sendDown_15 : decode cX6_sendDown 15 = .ok (.iload 4, 2) := by decide +kernel
theorem dX6_sendDown_17 : decode cX6_sendDown 17 = .ok (.iload_n 3, 1) := by decide +kernel
theorem dX6_sendDown_18 : decode cX6_sendDown 18 = .ok (.if_icmp .ge 31, 3) := by decide +kernel
theorem dX6_sendDown_21 : decode cX6_sendDown 21 = .ok (.aload_n 0, 1) := by decide +kernel
theorem dX6_sendDown_22 : decode cX6_sendDown 22 = .ok (.iload 5, 2) := by decide +kernel
theorem dX6_sendDown_24 : decode cX6_sendDown 24 = .ok (.iload_n 1, 1) := by decide +kernel
theorem dX6_sendDown_25 : decode cX6_sendDown 25 = .ok (.invokevirtual 199, 3) := by decide +kernel
theorem dX6_sendDown_28 : decode cX6_sendDown 28 = .ok (.ifCond .eq 15, 3) := by decide +kernel
theorem dX6_sendDown_31 : decode cX6_sendDown 31 = .ok (.aload_n 0, 1) := by decide +kernel
theorem dX6_sendDown_32 : decode cX6_sendDown 32 = .ok (.iload 5, 2) := by decide +kernel
theorem dX6_sendDown_34 : decode cX6_sendDown 34 = .ok (.iload_n 1, 1) := by decide +kernel
theorem dX6_sendDown_35 : decode cX6_sendDown 35 = .ok (.iload_n 2, 1) := by decide +kernel
def k64_0 : List (Nat × XI) := [(0, x_push (0) 1), (1, x_istore 4 3), (3, x_push (0) 4), (4, x_istore 5 6), (6, x_iload 5 8), (8, x_aload 0 9), (9, x_getI 6 4 12), (12, x_icge 49 15), (15, x_iload 4 17), (17, x_iload 3 18), (18, x_icge 49 21), (21, x_aload 0 22), (22, x_iload 5 24), (24, x_iload 1 25), (25, x_inv 55 6 2 28), (28, x_ifeq 43 31), (31, x_aload 0 32), (32, x_iload 5 34), (34, x_iload 1 35), (35, x_iload 2 36)]
theorem o64_0 (scr : Nat × (Nat → Int32)) : ∀ q ∈ k64_0, XSnd xm scr Y64 q.1 q.2 := xcons (s_iconst dX6_sendDown_0 rfl) (xcons (s_istore dX6_sendDown_1 (by decide)) (xcons (s_iconst dX6_sendDown_3 rfl) (xcons (s_istore dX6_sendDown_4 (by decide)) (xcons (s_iload dX6_sendDown_6) (xcons (s_aload_n rfl dX6_sendDown_8) (xcons (s_getI (f := 4) xC6 (by decide) xw_127 rfl dX6_sendDown_9) (xcons (s_icge dX6_sendDown_12 rfl) (xcons (s_iload dX6_sendDown_15) (xcons (s_iload_n rfl dX6_sendDown_17) (xcons (s_icge dX6_sendDown_18 rfl) (xcons (s_aload_n rfl dX6_sendDown_21) (xcons (s_iload dX6_sendDown_22) (xcons (s_iload_n rfl dX6_sendDown_24) (xcons (s_inv (mid := 55) xC6 cal_55 xw_235 xw_236 xw_237 dX6_sendDown_25) (xcons (s_ifeq dX6_sendDown_28 rfl) (xcons (s_aload_n rfl dX6_sendDown_31) (xcons (s_iload dX6_sendDown_32) (xcons (s_iload_n rfl dX6_sendDown_34) (xcons (s_iload_n rfl dX6_sendDown_35) (xnil))))))))))))))))))))
theorem dX6_sendDown_36 : decode cX6_sendDown 36 = .ok (.invokevirtual 154, 3) := by decide +kernel
theorem dX6_sendDown_39 : decode cX6_sendDown 39 = .ok (.pop, 1) := by decide +kernel
theorem dX6_sendDown_40 : decode cX6_sendDown 40 = .ok (.iinc 4 1, 3) := by decide +kernel
theorem dX6_sendDown_43 : decode cX6_sendDown 43 = .ok (.iinc 5 1, 3) := by decide +kernel
theorem dX6_sendDown_46 : decode cX6_sendDown 46 = .ok (.goto (-40), 3) := by decide +kernel
theorem dX6_sendDown_49 : decode cX6_sendDown 49 = .ok (.return_, 1) := by decide +kernel
def k64_1 : List (Nat × XI) := [(36, x_inv 63 6 3 39), (39, x_pop 40), (40, x_iinc 4 (1) 43), (43, x_iinc 5 (1) 46), (46, x_goto 6), (49, x_ret)]
theorem o64_1 (scr : Nat × (Nat → Int32)) : ∀ q ∈ k64_1, XSnd xm scr Y64 q.1 q.2 := xcons (s_inv (mid := 63) xC6 cal_63 xw_181 xw_182 xw_183 dX6_sendDown_36) (xcons (s_pop dX6_sendDown_39) (xcons (s_iinc dX6_sendDown_40 rfl (by decide)) (xcons (s_iinc dX6_sendDown_43 rfl (by decide)) (xcons (s_goto dX6_sendDown_46 rfl) (xcons (s_ret dX6_sendDown_49 rfl) (xnil))))))
def k64 (pc : Nat) : XI := if pc < 36 then xlk k64_0 pc else xlk k64_1 pc
theorem o64 (scr : Nat × (Nat → Int32)) (pc : Nat) : XSnd xm scr Y64 pc (k64 pc) := by
  unfold k64
  exact xite (xlk_ok (o64_0 scr) pc) (xlk_ok (o64_1 scr) pc)
theorem dX6_step_0 : decode cX6_step 0 = .ok (.aload_n 0, 1) := by decide +kernel
theorem dX6_step_1 : decode cX6_step 1 = .ok (.invokevirtual 118, 3) := by decide +kernel
theorem dX6_step_4 : decode cX6_step 4 = .ok (.istore_n 1, 1) := by decide +kernel
theorem dX6_step_5 : decode cX6_step 5 = .ok (.aload_n 0, 1) := by decide +kernel
theorem dX6_step_6 : decode cX6_step 6 = .ok (.iload_n 1, 1) := by decide +kernel
theorem dX6_step_7 : decode cX6_step 7 = .ok (.invokevirtual 82, 3) := by decide +kernel
theorem dX6_step_10 : decode cX6_step 10 = .ok (.ifCond .ne 8, 3) := by decide +kernel
theorem dX6_step_13 : decode cX6_step 13 = .ok (.aload_n 0, 1) := by decide +kernel
theorem dX6_step_14 : decode cX6_step 14 = .ok (.invokevirtual 121, 3) := by decide +kernel
theorem dX6_step_17 : decode cX6_step 17 = .ok (.ireturn, 1) := by decide +kernel
theorem dX6_step_18 : decode cX6_step 18 = .ok (.aload_n 0, 1) := by decide +kernel
theorem dX6_step_19 : decode cX6_step 19 = .ok (.getfield 11, 3) := by decide +kernel
theorem dX6_step_22 : decode cX6_step 22 = .ok (.iload_n 1, 1) := by decide +kernel
theorem dX6_step_23 : decode cX6_step 23 = .ok (.aaload, 1) := by decide +kernel
theorem dX6_step_24 : decode cX6_step 24 = .ok (.getfield 76, 3) := by decide +kernel
theorem dX6_step_27 : decode cX6_step 27 = .ok (.astore_n 2, 1) := by decide +kernel
theorem dX6_step_28 : decode cX6_step 28 = .ok (.aload_n 2, 1) := by decide +kernel
theorem dX6_step_29 : decode cX6_step 29 = .ok (.iconst 0, 1) := by decide +kernel
theorem dX6_step_30 : decode cX6_step 30 = .ok (.invokevirtual 124, 3) := by decide +kernel
theorem dX6_step_33 : decode cX6_step 33 = .ok (.istore_n 3, 1) := by decide +kernel
def k65_0 : List (Nat × XI) := [(0, x_aload 0 1), (1, x_inv 61 6 0 4), (4, x_istore 1 5), (5, x_aload 0 6), (6, x_iload 1 7), (7, x_inv 53 6 1 10), (10, x_ifne 18 13), (13, x_aload 0 14), (14, x_inv 47 6 0 17), (17, x_zret), (18, x_aload 0 19), (19, x_getR 6 0 22), (22, x_iload 1 23), (23, x_aald 24), (24, x_getR 0 8 27), (27, x_astore 2 28), (28, x_aload 2 29), (29, x_push (0) 30), (30, x_inv 18 3 1 33), (33, x_istore 3 34)]
theorem o65_0 (scr : Nat × (Nat → Int32)) : ∀ q ∈ k65_0, XSnd xm scr Y65 q.1 q.2 := xcons (s_aload_n rfl dX6_step_0) (xcons (s_inv (mid := 61) xC6 cal_61 xw_255 xw_256 xw_257 dX6_step_1) (xcons (s_istore_n rfl dX6_step_4 (by decide)) (xcons (s_aload_n rfl dX6_step_5) (xcons (s_iload_n rfl dX6_step_6) (xcons (s_inv (mid := 53) xC6 cal_53 xw_130 xw_131 xw_132 dX6_step_7) (xcons (s_ifne dX6_step_10 rfl) (xcons (s_aload_n rfl dX6_step_13) (xcons (s_inv (mid := 47) xC6 cal_47 xw_288 xw_289 xw_290 dX6_step_14) (xcons (s_zret dX6_step_17 rfl) (xcons (s_aload_n rfl dX6_step_18) (xcons (s_getR (f := 0) xC6 (by decide) xw_137 rfl dX6_step_19) (xcons (s_iload_n rfl dX6_step_22) (xcons (s_aald dX6_step_23) (xcons (s_getR (f := 8) xC0 (by decide) xw_243 rfl dX6_step_24) (xcons (s_astore_n rfl dX6_step_27 (by decide)) (xcons (s_aload_n rfl dX6_step_28) (xcons (s_iconst dX6_step_29 rfl) (xcons (s_inv (mid := 18) xC3 cal_18 xw_292 xw_293 xw_294 dX6_step_30) (xcons (s_istore_n rfl dX6_step_33 (by decide)) (xnil))))))))))))))))))))
theorem dX6_step_34 : decode cX6_step 34 = .ok (.aload_n 2, 1) := by decide +kernel
theorem dX6_step_35 : decode cX6_step 35 = .ok (.iconst 0, 1) := by decide +kernel
theorem dX6_step_36 : decode cX6_step 36 = .ok (.invokevirtual 128, 3) := by decide +kernel
theorem dX6_step_39 : decode cX6_step 39 = .ok (.istore 4, 2) := by decide +kernel
theorem dX6_step_41 : decode cX6_step 41 = .ok (.aload_n 2, 1) := by decide +kernel
theorem dX6_step_42 : decode cX6_step 42 = .ok (.invokevirtual 131, 3) := by decide +kernel
theorem dX6_step_45 : decode cX6_step 45 = .ok (.aload_n 0, 1) := by decide +kernel
theorem dX6_step_46 : decode cX6_step 46 = .ok (.iload_n 1, 1) := by decide +kernel
theorem dX6_step_47 : decode cX6_step 47 = .ok (.putfield 36, 3) := by decide +kernel
theorem dX6_step_50 : decode cX6_step 50 = .ok (.aload_n 0, 1) := by decide +kernel
theorem dX6_step_51 : decode cX6_step 51 = .ok (.dup, 1) := by decide +kernel
theorem dX6_step_52 : decode cX6_step 52 = .ok (.getfield 60, 3) := by decide +kernel
theorem dX6_step_55 : decode cX6_step 55 = .ok (.iconst 1, 1) := by decide +kernel
theorem dX6_step_56 : decode cX6_step 56 = .ok (.iadd, 1) := by decide +kernel
theorem dX6_step_57 : decode cX6_step 57 = .ok (.putfield 60, 3) := by decide +kernel
theorem dX6_step_60 : decode cX6_step 60 = .ok (.aload_n 0, 1) := by decide +kernel
theorem dX6_step_61 : decode cX6_step 61 = .ok (.getfield 29, 3) := by decide +kernel
theorem dX6_step_64 : decode cX6_step 64 = .ok (.iload_n 1, 1) := by decide +kernel
theorem dX6_step_65 : decode cX6_step 65 = .ok (.iload 4, 2) := by decide +kernel
theorem dX6_step_67 : decode cX6_step 67 = .ok (.invokevirtual 134, 3) := by decide +kernel
def k65_1 : List (Nat × XI) := [(34, x_aload 2 35), (35, x_push (0) 36), (36, x_inv 22 3 1 39), (39, x_istore 4 41), (41, x_aload 2 42), (42, x_inv 21 3 0 45), (45, x_aload 0 46), (46, x_iload 1 47), (47, x_putI 6 5 50), (50, x_aload 0 51), (51, x_dup 52), (52, x_getI 6 7 55), (55, x_push (1) 56), (56, x_iadd 57), (57, x_putI 6 7 60), (60, x_aload 0 61), (61, x_getR 6 2 64), (64, x_iload 1 65), (65, x_iload 4 67), (67, x_inv 16 3 2 70)]
theorem o65_1 (scr : Nat × (Nat → Int32)) : ∀ q ∈ k65_1, XSnd xm scr Y65 q.1 q.2 := xcons (s_aload_n rfl dX6_step_34) (xcons (s_iconst dX6_step_35 rfl) (xcons (s_inv (mid := 22) xC3 cal_22 xw_296 xw_297 xw_298 dX6_step_36) (xcons (s_istore dX6_step_39 (by decide)) (xcons (s_aload_n rfl dX6_step_41) (xcons (s_inv (mid := 21) xC3 cal_21 xw_299 xw_70 xw_71 dX6_step_42) (xcons (s_aload_n rfl dX6_step_45) (xcons (s_iload_n rfl dX6_step_46) (xcons (s_putI (f := 5) xC6 (by decide) xw_158 rfl (Or.inl rfl) dX6_step_47) (xcons (s_aload_n rfl dX6_step_50) (xcons (s_dup dX6_step_51) (xcons (s_getI (f := 7) xC6 (by decide) xw_160 rfl dX6_step_52) (xcons (s_iconst dX6_step_55 rfl) (xcons (s_iadd dX6_step_56) (xcons (s_putI (f := 7) xC6 (by decide) xw_160 rfl (Or.inl rfl) dX6_step_57) (xcons (s_aload_n rfl dX6_step_60) (xcons (s_getR (f := 2) xC6 (by decide) xw_155 rfl dX6_step_61) (xcons (s_iload_n rfl dX6_step_64) (xcons (s_iload dX6_step_65) (xcons (s_inv (mid := 16) xC3 cal_16 xw_301 xw_302 xw_303 dX6_step_67) (xnil))))))))))))))))))))
theorem dX6_step_70 : decode cX6_step 70 = .ok (.aload_n 0, 1) := by decide +kernel
theorem dX6_step_71 : decode cX6_step 71 = .ok (.iload_n 1, 1) := by decide +kernel
theorem dX6_step_72 : decode cX6_step 72 = .ok (.iload_n 3, 1) := by decide +kernel
theorem dX6_step_73 : decode cX6_step 73 = .ok (.iload 4, 2) := by decide +kernel
theorem dX6_step_75 : decode cX6_step 75 = .ok (.invokevirtual 137, 3) := by decide +kernel
theorem dX6_step_78 : decode cX6_step 78 = .ok (.istore 5, 2) := by decide +kernel
theorem dX6_step_80 : decode cX6_step 80 = .ok (.iload 5, 2) := by decide +kernel
theorem dX6_step_82 : decode cX6_step 82 = .ok (.ifCond .eq 10, 3) := by decide +kernel
theorem dX6_step_85 : decode cX6_step 85 = .ok (.aload_n 0, 1) := by decide +kernel
theorem dX6_step_86 : decode cX6_step 86 = .ok (.iload_n 1, 1) := by decide +kernel
theorem dX6_step_87 : decode cX6_step 87 = .ok (.iload 5, 2) := by decide +kernel
theorem dX6_step_89 : decode cX6_step 89 = .ok (.invokevirtual 141, 3) := by decide +kernel
theorem dX6_step_92 : decode cX6_step 92 = .ok (.iconst 1, 1) := by decide +kernel
theorem dX6_step_93 : decode cX6_step 93 = .ok (.ireturn, 1) := by decide +kernel
def k65_2 : List (Nat × XI) := [(70, x_aload 0 71), (71, x_iload 1 72), (72, x_iload 3 73), (73, x_iload 4 75), (75, x_inv 43 6 3 78), (78, x_istore 5 80), (80, x_iload 5 82), (82, x_ifeq 92 85), (85, x_aload 0 86), (86, x_iload 1 87), (87, x_iload 5 89), (89, x_inv 46 6 2 92), (92, x_push (1) 93), (93, x_zret)]
theorem o65_2 (scr : Nat × (Nat → Int32)) : ∀ q ∈ k65_2, XSnd xm scr Y65 q.1 q.2 := xcons (s_aload_n rfl dX6_step_70) (xcons (s_iload_n rfl dX6_step_71) (xcons (s_iload_n rfl dX6_step_72) (xcons (s_iload dX6_step_73) (xcons (s_inv (mid := 43) xC6 cal_43 xw_305 xw_306 xw_307 dX6_step_75) (xcons (s_istore dX6_step_78 (by decide)) (xcons (s_iload dX6_step_80) (xcons (s_ifeq dX6_step_82 rfl) (xcons (s_aload_n rfl dX6_step_85) (xcons (s_iload_n rfl dX6_step_86) (xcons (s_iload dX6_step_87) (xcons (s_inv (mid := 46) xC6 cal_46 xw_309 xw_310 xw_311 dX6_step_89) (xcons (s_iconst dX6_step_92 rfl) (xcons (s_zret dX6_step_93 rfl) (xnil))))))))))))))
def k65 (pc : Nat) : XI := if pc < 34 then xlk k65_0 pc else if pc < 70 then xlk k65_1 pc else xlk k65_2 pc
theorem o65 (scr : Nat × (Nat → Int32)) (pc : Nat) : XSnd xm scr Y65 pc (k65 pc) := by
  unfold k65
  exact xite (xlk_ok (o65_0 scr) pc) (xite (xlk_ok (o65_1 scr) pc) (xlk_ok (o65_2 scr) pc))
theorem dX6_unstash_0 : decode cX6_unstash 0 = .ok (.aload_n 0, 1) := by decide +kernel
theorem dX6_unstash_1 : decode cX6_unstash 1 = .ok (.dup, 1) := by decide +kernel
theorem dX6_unstash_2 : decode cX6_unstash 2 = .ok (.getfield 63, 3) := by decide +kernel
theorem dX6_unstash_5 : decode cX6_unstash 5 = .ok (.aload_n 1, 1) := by decide +kernel
theorem dX6_unstash_6 : decode cX6_unstash 6 = .ok (.getfield 182, 3) := by decide +kernel
theorem dX6_unstash_9 : decode cX6_unstash 9 = .ok (.getfield 79, 3) := by decide +kernel
theorem dX6_unstash_12 : decode cX6_unstash 12 = .ok (.aload_n 1, 1) := by decide +kernel
theorem dX6_unstash_13 : decode cX6_unstash 13 = .ok (.getfield 76, 3) := by decide +kernel
theorem dX6_unstash_16 : decode cX6_unstash 16 = .ok (.aload_n 1, 1) := by decide +kernel
theorem dX6_unstash_17 : decode cX6_unstash 17 = .ok (.getfield 182, 3) := by decide +kernel
theorem dX6_unstash_20 : decode cX6_unstash 20 = .ok (.invokevirtual 202, 3) := by decide +kernel
theorem dX6_unstash_23 : decode cX6_unstash 23 = .ok (.isub, 1) := by decide +kernel
theorem dX6_unstash_24 : decode cX6_unstash 24 = .ok (.iadd, 1) := by decide +kernel
theorem dX6_unstash_25 : decode cX6_unstash 25 = .ok (.putfield 63, 3) := by decide +kernel
theorem dX6_unstash_28 : decode cX6_unstash 28 = .ok (.aload_n 1, 1) := by decide +kernel
theorem dX6_unstash_29 : decode cX6_unstash 29 = .ok (.getfield 182, 3) := by decide +kernel
theorem dX6_unstash_32 : decode cX6_unstash 32 = .ok (.iconst 0, 1) := by decide +kernel
theorem dX6_unstash_33 : decode cX6_unstash 33 = .ok (.putfield 79, 3) := by decide +kernel
theorem dX6_unstash_36 : decode cX6_unstash 36 = .ok (.return_, 1) := by decide +kernel
def k66_0 : List (Nat × XI) := [(0, x_aload 0 1), (1, x_dup 2), (2, x_getI 6 8 5), (5, x_aload 1 6), (6, x_getR 0 9 9), (9, x_getI 3 2 12), (12, x_aload 1 13), (13, x_getR 0 8 16), (16, x_aload 1 17), (17, x_getR 0 9 20), (20, x_inv 20 3 1 23), (23, x_isub 24), (24, x_iadd 25), (25, x_putI 6 8 28), (28, x_aload 1 29), (29, x_getR 0 9 32), (32, x_push (0) 33), (33, x_putI 3 2 36), (36, x_ret)]
theorem o66_0 (scr : Nat × (Nat → Int32)) : ∀ q ∈ k66_0, XSnd xm scr Y66 q.1 q.2 := xcons (s_aload_n rfl dX6_unstash_0) (xcons (s_dup dX6_unstash_1) (xcons (s_getI (f := 8) xC6 (by decide) xw_161 rfl dX6_unstash_2) (xcons (s_aload_n rfl dX6_unstash_5) (xcons (s_getR (f := 9) xC0 (by decide) xw_184 rfl dX6_unstash_6) (xcons (s_getI (f := 2) xC3 (by decide) xw_204 rfl dX6_unstash_9) (xcons (s_aload_n rfl dX6_unstash_12) (xcons (s_getR (f := 8) xC0 (by decide) xw_243 rfl dX6_unstash_13) (xcons (s_aload_n rfl dX6_unstash_16) (xcons (s_getR (f := 9) xC0 (by decide) xw_184 rfl dX6_unstash_17) (xcons (s_inv (mid := 20) xC3 cal_20 xw_313 xw_314 xw_315 dX6_unstash_20) (xcons (s_isub dX6_unstash_23) (xcons (s_iadd dX6_unstash_24) (xcons (s_putI (f := 8) xC6 (by decide) xw_161 rfl (Or.inl rfl) dX6_unstash_25) (xcons (s_aload_n rfl dX6_unstash_28) (xcons (s_getR (f := 9) xC0 (by decide) xw_184 rfl dX6_unstash_29) (xcons (s_iconst dX6_unstash_32 rfl) (xcons (s_putI (f := 2) xC3 (by decide) xw_204 rfl (Or.inl rfl) dX6_unstash_33) (xcons (s_ret dX6_unstash_36 rfl) (xnil)))))))))))))))))))
def k66 (pc : Nat) : XI := xlk k66_0 pc
theorem o66 (scr : Nat × (Nat → Int32)) (pc : Nat) : XSnd xm scr Y66 pc (k66 pc) := by
  unfold k66
  exact xlk_ok (o66_0 scr) pc
theorem dX6_watch_0 : decode cX6_watch 0 = .ok (.aload_n 0, 1) := by decide +kernel
theorem dX6_watch_1 : decode cX6_watch 1 = .ok (.getfield 44, 3) := by decide +kernel
theorem dX6_watch_4 : decode cX6_watch 4 = .ok (.ifCond .gt 4, 3) := by decide +kernel
theorem dX6_watch_7 : decode cX6_watch 7 = .ok (.return_, 1) := by decide +kernel
theorem dX6_watch_8 : decode cX6_watch 8 = .ok (.iload_n 2, 1) := by decide +kernel
theorem dX6_watch_9 : decode cX6_watch 9 = .ok (.aload_n 0, 1) := by decide +kernel
theorem dX6_watch_10 : decode cX6_watch 10 = .ok (.getfield 44, 3) := by decide +kernel
theorem dX6_watch_13 : decode cX6_watch 13 = .ok (.irem, 1) := by decide +kernel
theorem dX6_watch_14 : decode cX6_watch 14 = .ok (.istore_n 3, 1) := by decide +kernel
theorem dX6_watch_15 : decode cX6_watch 15 = .ok (.iload_n 3, 1) := by decide +kernel
theorem dX6_watch_16 : decode cX6_watch 16 = .ok (.iload_n 1, 1) := by decide +kernel
theorem dX6_watch_17 : decode cX6_watch 17 = .ok (.if_icmp .eq 11, 3) := by decide +kernel
theorem dX6_watch_20 : decode cX6_watch 20 = .ok (.aload_n 0, 1) := by decide +kernel
theorem dX6_watch_21 : decode cX6_watch 21 = .ok (.iload_n 3, 1) := by decide +kernel
theorem dX6_watch_22 : decode cX6_watch 22 = .ok (.invokevirtual 82, 3) := by decide +kernel
theorem dX6_watch_25 : decode cX6_watch 25 = .ok (.ifCond .ne 4, 3) := by decide +kernel
theorem dX6_watch_28 : decode cX6_watch 28 = .ok (.return_, 1) := by decide +kernel
theorem dX6_watch_29 : decode cX6_watch 29 = .ok (.aload_n 0, 1) := by decide +kernel
theorem dX6_watch_30 : decode cX6_watch 30 = .ok (.iload_n 3, 1) := by decide +kernel
theorem dX6_watch_31 : decode cX6_watch 31 = .ok (.invokevirtual 86, 3) := by decide +kernel
def k67_0 : List (Nat × XI) := [(0, x_aload 0 1), (1, x_getI 6 4 4), (4, x_ifgt 8 7), (7, x_ret), (8, x_iload 2 9), (9, x_aload 0 10), (10, x_getI 6 4 13), (13, x_irem 14), (14, x_istore 3 15), (15, x_iload 3 16), (16, x_iload 1 17), (17, x_iceq 28 20), (20, x_aload 0 21), (21, x_iload 3 22), (22, x_inv 53 6 1 25), (25, x_ifne 29 28), (28, x_ret), (29, x_aload 0 30), (30, x_iload 3 31), (31, x_inv 54 6 1 34)]
theorem o67_0 (scr : Nat × (Nat → Int32)) : ∀ q ∈ k67_0, XSnd xm scr Y67 q.1 q.2 := xcons (s_aload_n rfl dX6_watch_0) (xcons (s_getI (f := 4) xC6 (by decide) xw_127 rfl dX6_watch_1) (xcons (s_ifgt dX6_watch_4 rfl) (xcons (s_ret dX6_watch_7 rfl) (xcons (s_iload_n rfl dX6_watch_8) (xcons (s_aload_n rfl dX6_watch_9) (xcons (s_getI (f := 4) xC6 (by decide) xw_127 rfl dX6_watch_10) (xcons (s_irem dX6_watch_13) (xcons (s_istore_n rfl dX6_watch_14 (by decide)) (xcons (s_iload_n rfl dX6_watch_15) (xcons (s_iload_n rfl dX6_watch_16) (xcons (s_iceq dX6_watch_17 rfl) (xcons (s_aload_n rfl dX6_watch_20) (xcons (s_iload_n rfl dX6_watch_21) (xcons (s_inv (mid := 53) xC6 cal_53 xw_130 xw_131 xw_132 dX6_watch_22) (xcons (s_ifne dX6_watch_25 rfl) (xcons (s_ret dX6_watch_28 rfl) (xcons (s_aload_n rfl dX6_watch_29) (xcons (s_iload_n rfl dX6_watch_30) (xcons (s_inv (mid := 54) xC6 cal_54 xw_134 xw_135 xw_136 dX6_watch_31) (xnil))))))))))))))))))))
theorem dX6_watch_34 : decode cX6_watch 34 = .ok (.ifCond .ne 18, 3) := by decide +kernel
theorem dX6_watch_37 : decode cX6_watch 37 = .ok (.aload_n 0, 1) := by decide +kernel
theorem dX6_watch_38 : decode cX6_watch 38 = .ok (.iload_n 1, 1) := by decide +kernel
theorem dX6_watch_39 : decode cX6_watch 39 = .ok (.iload_n 1, 1) := by decide +kernel
theorem dX6_watch_40 : decode cX6_watch 40 = .ok (.sipush 200, 3) := by decide +kernel
theorem dX6_watch_43 : decode cX6_watch 43 = .ok (.iload_n 3, 1) := by decide +kernel
theorem dX6_watch_44 : decode cX6_watch 44 = .ok (.iadd, 1) := by decide +kernel
theorem dX6_watch_45 : decode cX6_watch 45 = .ok (.invokevirtual 154, 3) := by decide +kernel
theorem dX6_watch_48 : decode cX6_watch 48 = .ok (.pop, 1) := by decide +kernel
theorem dX6_watch_49 : decode cX6_watch 49 = .ok (.goto 33, 3) := by decide +kernel
theorem dX6_watch_52 : decode cX6_watch 52 = .ok (.aload_n 0, 1) := by decide +kernel
theorem dX6_watch_53 : decode cX6_watch 53 = .ok (.getfield 11, 3) := by decide +kernel
theorem dX6_watch_56 : decode cX6_watch 56 = .ok (.iload_n 3, 1) := by decide +kernel
theorem dX6_watch_57 : decode cX6_watch 57 = .ok (.aaload, 1) := by decide +kernel
theorem dX6_watch_58 : decode cX6_watch 58 = .ok (.getfield 206, 3) := by decide +kernel
theorem dX6_watch_61 : decode cX6_watch 61 = .ok (.iload_n 1, 1) := by decide +kernel
theorem dX6_watch_62 : decode cX6_watch 62 = .ok (.invokevirtual 209, 3) := by decide +kernel
theorem dX6_watch_65 : decode cX6_watch 65 = .ok (.ifCond .ne 17, 3) := by decide +kernel
theorem dX6_watch_68 : decode cX6_watch 68 = .ok (.aload_n 0, 1) := by decide +kernel
theorem dX6_watch_69 : decode cX6_watch 69 = .ok (.getfield 11, 3) := by decide +kernel
def k67_1 : List (Nat × XI) := [(34, x_ifne 52 37), (37, x_aload 0 38), (38, x_iload 1 39), (39, x_iload 1 40), (40, x_push (200) 43), (43, x_iload 3 44), (44, x_iadd 45), (45, x_inv 63 6 3 48), (48, x_pop 49), (49, x_goto 82), (52, x_aload 0 53), (53, x_getR 6 0 56), (56, x_iload 3 57), (57, x_aald 58), (58, x_getR 0 10 61), (61, x_iload 1 62), (62, x_inv 11 2 1 65), (65, x_ifne 82 68), (68, x_aload 0 69), (69, x_getR 6 0 72)]
theorem o67_1 (scr : Nat × (Nat → Int32)) : ∀ q ∈ k67_1, XSnd xm scr Y67 q.1 q.2 := xcons (s_ifne dX6_watch_34 rfl) (xcons (s_aload_n rfl dX6_watch_37) (xcons (s_iload_n rfl dX6_watch_38) (xcons (s_iload_n rfl dX6_watch_39) (xcons (s_sipush dX6_watch_40 rfl) (xcons (s_iload_n rfl dX6_watch_43) (xcons (s_iadd dX6_watch_44) (xcons (s_inv (mid := 63) xC6 cal_63 xw_181 xw_182 xw_183 dX6_watch_45) (xcons (s_pop dX6_watch_48) (xcons (s_goto dX6_watch_49 rfl) (xcons (s_aload_n rfl dX6_watch_52) (xcons (s_getR (f := 0) xC6 (by decide) xw_137 rfl dX6_watch_53) (xcons (s_iload_n rfl dX6_watch_56) (xcons (s_aald dX6_watch_57) (xcons (s_getR (f := 10) xC0 (by decide) xw_249 rfl dX6_watch_58) (xcons (s_iload_n rfl dX6_watch_61) (xcons (s_inv (mid := 11) xC2 cal_11 xw_317 xw_318 xw_319 dX6_watch_62) (xcons (s_ifne dX6_watch_65 rfl) (xcons (s_aload_n rfl dX6_watch_68) (xcons (s_getR (f := 0) xC6 (by decide) xw_137 rfl dX6_watch_69) (xnil))))))))))))))))))))
theorem dX6_watch_72 : decode cX6_watch 72 = .ok (.iload_n 3, 1) := by decide +kernel
theorem dX6_watch_73 : decode cX6_watch 73 = .ok (.aaload, 1) := by decide +kernel
theorem dX6_watch_74 : decode cX6_watch 74 = .ok (.getfield 206, 3) := by decide +kernel
theorem dX6_watch_77 : decode cX6_watch 77 = .ok (.iload_n 1, 1) := by decide +kernel
theorem dX6_watch_78 : decode cX6_watch 78 = .ok (.invokevirtual 188, 3) := by decide +kernel
theorem dX6_watch_81 : decode cX6_watch 81 = .ok (.pop, 1) := by decide +kernel
theorem dX6_watch_82 : decode cX6_watch 82 = .ok (.return_, 1) := by decide +kernel
def k67_2 : List (Nat × XI) := [(72, x_iload 3 73), (73, x_aald 74), (74, x_getR 0 10 77), (77, x_iload 1 78), (78, x_inv 5 2 1 81), (81, x_pop 82), (82, x_ret)]
theorem o67_2 (scr : Nat × (Nat → Int32)) : ∀ q ∈ k67_2, XSnd xm scr Y67 q.1 q.2 := xcons (s_iload_n rfl dX6_watch_72) (xcons (s_aald dX6_watch_73) (xcons (s_getR (f := 10) xC0 (by decide) xw_249 rfl dX6_watch_74) (xcons (s_iload_n rfl dX6_watch_77) (xcons (s_inv (mid := 5) xC2 cal_5 xw_190 xw_44 xw_45 dX6_watch_78) (xcons (s_pop dX6_watch_81) (xcons (s_ret dX6_watch_82 rfl) (xnil)))))))
def k67 (pc : Nat) : XI := if pc < 34 then xlk k67_0 pc else if pc < 72 then xlk k67_1 pc else xlk k67_2 pc
theorem o67 (scr : Nat × (Nat → Int32)) (pc : Nat) : XSnd xm scr Y67 pc (k67 pc) := by
  unfold k67
  exact xite (xlk_ok (o67_0 scr) pc) (xite (xlk_ok (o67_1 scr) pc) (xlk_ok (o67_2 scr) pc))
theorem dX7_actor_0 : decode cX7_actor 0 = .ok (.iload_n 3, 1) := by decide +kernel
theorem dX7_actor_1 : decode cX7_actor 1 = .ok (.ifCond .ge 5, 3) := by decide +kernel
theorem dX7_actor_4 : decode cX7_actor 4 = .ok (.iconst (-1), 1) := by decide +kernel
theorem dX7_actor_5 : decode cX7_actor 5 = .ok (.ireturn, 1) := by decide +kernel
theorem dX7_actor_6 : decode cX7_actor 6 = .ok (.aload_n 0, 1) := by decide +kernel
theorem dX7_actor_7 : decode cX7_actor 7 = .ok (.getfield 10, 3) := by decide +kernel
theorem dX7_actor_10 : decode cX7_actor 10 = .ok (.iload_n 1, 1) := by decide +kernel
theorem dX7_actor_11 : decode cX7_actor 11 = .ok (.iload_n 2, 1) := by decide +kernel
theorem dX7_actor_12 : decode cX7_actor 12 = .ok (.iload_n 3, 1) := by decide +kernel
theorem dX7_actor_13 : decode cX7_actor 13 = .ok (.sipush 1000, 3) := by decide +kernel
theorem dX7_actor_16 : decode cX7_actor 16 = .ok (.idiv, 1) := by decide +kernel
theorem dX7_actor_17 : decode cX7_actor 17 = .ok (.iload_n 3, 1) := by decide +kernel
theorem dX7_actor_18 : decode cX7_actor 18 = .ok (.bipush 100, 2) := by decide +kernel
theorem dX7_actor_20 : decode cX7_actor 20 = .ok (.idiv, 1) := by decide +kernel
theorem dX7_actor_21 : decode cX7_actor 21 = .ok (.bipush 10, 2) := by decide +kernel
theorem dX7_actor_23 : decode cX7_actor 23 = .ok (.irem, 1) := by decide +kernel
theorem dX7_actor_24 : decode cX7_actor 24 = .ok (.iload_n 3, 1) := by decide +kernel
theorem dX7_actor_25 : decode cX7_actor 25 = .ok (.bipush 100, 2) := by decide +kernel
theorem dX7_actor_27 : decode cX7_actor 27 = .ok (.irem, 1) := by decide +kernel
theorem dX7_actor_28 : decode cX7_actor 28 = .ok (.invokevirtual 39, 3) := by decide +kernel
def k68_0 : List (Nat × XI) := [(0, x_iload 3 1), (1, x_ifge 6 4), (4, x_push (-1) 5), (5, x_iret), (6, x_aload 0 7), (7, x_getR 7 0 10), (10, x_iload 1 11), (11, x_iload 2 12), (12, x_iload 3 13), (13, x_push (1000) 16), (16, x_idiv 17), (17, x_iload 3 18), (18, x_push (100) 20), (20, x_idiv 21), (21, x_push (10) 23), (23, x_irem 24), (24, x_iload 3 25), (25, x_push (100) 27), (27, x_irem 28), (28, x_inv 40 6 5 31)]
theorem o68_0 (scr : Nat × (Nat → Int32)) : ∀ q ∈ k68_0, XSnd xm scr Y68 q.1 q.2 := xcons (s_iload_n rfl dX7_actor_0) (xcons (s_ifge dX7_actor_1 rfl) (xcons (s_iconst dX7_actor_4 rfl) (xcons (s_iret dX7_actor_5 rfl) (xcons (s_aload_n rfl dX7_actor_6) (xcons (s_getR (f := 0) xC7 (by decide) xw_320 rfl dX7_actor_7) (xcons (s_iload_n rfl dX7_actor_10) (xcons (s_iload_n rfl dX7_actor_11) (xcons (s_iload_n rfl dX7_actor_12) (xcons (s_sipush dX7_actor_13 rfl) (xcons (s_idiv dX7_actor_16) (xcons (s_iload_n rfl dX7_actor_17) (xcons (s_bipush dX7_actor_18 rfl) (xcons (s_idiv dX7_actor_20) (xcons (s_bipush dX7_actor_21 rfl) (xcons (s_irem dX7_actor_23) (xcons (s_iload_n rfl dX7_actor_24) (xcons (s_bipush dX7_actor_25 rfl) (xcons (s_irem dX7_actor_27) (xcons (s_inv (mid := 40) xC6 cal_40 xw_322 xw_323 xw_324 dX7_actor_28) (xnil))))))))))))))))))))
theorem dX7_actor_31 : decode cX7_actor 31 = .ok (.ireturn, 1) := by decide +kernel
def k68_1 : List (Nat × XI) := [(31, x_iret)]
theorem o68_1 (scr : Nat × (Nat → Int32)) : ∀ q ∈ k68_1, XSnd xm scr Y68 q.1 q.2 := xcons (s_iret dX7_actor_31 rfl) (xnil)
def k68 (pc : Nat) : XI := if pc < 31 then xlk k68_0 pc else xlk k68_1 pc
theorem o68 (scr : Nat × (Nat → Int32)) (pc : Nat) : XSnd xm scr Y68 pc (k68 pc) := by
  unfold k68
  exact xite (xlk_ok (o68_0 scr) pc) (xlk_ok (o68_1 scr) pc)
theorem dX7_back_0 : decode cX7_back 0 = .ok (.aload_n 0, 1) := by decide +kernel
theorem dX7_back_1 : decode cX7_back 1 = .ok (.getfield 244, 3) := by decide +kernel
theorem dX7_back_4 : decode cX7_back 4 = .ok (.ifCond .ne 6, 3) := by decide +kernel
theorem dX7_back_7 : decode cX7_back 7 = .ok (.bipush (-5), 2) := by decide +kernel
theorem dX7_back_9 : decode cX7_back 9 = .ok (.ireturn, 1) := by decide +kernel
theorem dX7_back_10 : decode cX7_back 10 = .ok (.aload_n 0, 1) := by decide +kernel
theorem dX7_back_11 : decode cX7_back 11 = .ok (.getfield 10, 3) := by decide +kernel
theorem dX7_back_14 : decode cX7_back 14 = .ok (.aload_n 0, 1) := by decide +kernel
theorem dX7_back_15 : decode cX7_back 15 = .ok (.getfield 19, 3) := by decide +kernel
theorem dX7_back_18 : decode cX7_back 18 = .ok (.invokevirtual 172, 3) := by decide +kernel
theorem dX7_back_21 : decode cX7_back 21 = .ok (.iconst 0, 1) := by decide +kernel
theorem dX7_back_22 : decode cX7_back 22 = .ok (.istore_n 1, 1) := by decide +kernel
theorem dX7_back_23 : decode cX7_back 23 = .ok (.iload_n 1, 1) := by decide +kernel
theorem dX7_back_24 : decode cX7_back 24 = .ok (.aload_n 0, 1) := by decide +kernel
theorem dX7_back_25 : decode cX7_back 25 = .ok (.getfield 34, 3) := by decide +kernel
theorem dX7_back_28 : decode cX7_back 28 = .ok (.arraylength, 1) := by decide +kernel
theorem dX7_back_29 : decode cX7_back 29 = .ok (.if_icmp .ge 51, 3) := by decide +kernel
theorem dX7_back_32 : decode cX7_back 32 = .ok (.aload_n 0, 1) := by decide +kernel
theorem dX7_back_33 : decode cX7_back 33 = .ok (.getfield 34, 3) := by decide +kernel
theorem dX7_back_36 : decode cX7_back 36 = .ok (.iload_n 1, 1) := by decide +kernel
def k69_0 : List (Nat × XI) := [(0, x_aload 0 1), (1, x_getI 7 6 4), (4, x_ifne 10 7), (7, x_push (-5) 9), (9, x_iret), (10, x_aload 0 11), (11, x_getR 7 0 14), (14, x_aload 0 15), (15, x_getR 7 2 18), (18, x_inv 42 6 1 21), (21, x_push (0) 22), (22, x_istore 1 23), (23, x_iload 1 24), (24, x_aload 0 25), (25, x_getR 7 5 28), (28, x_len 29), (29, x_icge 80 32), (32, x_aload 0 33), (33, x_getR 7 5 36), (36, x_iload 1 37)]
theorem o69_0 (scr : Nat × (Nat → Int32)) : ∀ q ∈ k69_0, XSnd xm scr Y69 q.1 q.2 := xcons (s_aload_n rfl dX7_back_0) (xcons (s_getI (f := 6) xC7 (by decide) xw_325 rfl dX7_back_1) (xcons (s_ifne dX7_back_4 rfl) (xcons (s_bipush dX7_back_7 rfl) (xcons (s_iret dX7_back_9 rfl) (xcons (s_aload_n rfl dX7_back_10) (xcons (s_getR (f := 0) xC7 (by decide) xw_320 rfl dX7_back_11) (xcons (s_aload_n rfl dX7_back_14) (xcons (s_getR (f := 2) xC7 (by decide) xw_326 rfl dX7_back_15) (xcons (s_inv (mid := 42) xC6 cal_42 xw_328 xw_329 xw_330 dX7_back_18) (xcons (s_iconst dX7_back_21 rfl) (xcons (s_istore_n rfl dX7_back_22 (by decide)) (xcons (s_iload_n rfl dX7_back_23) (xcons (s_aload_n rfl dX7_back_24) (xcons (s_getR (f := 5) xC7 (by decide) xw_331 rfl dX7_back_25) (xcons (s_len dX7_back_28) (xcons (s_icge dX7_back_29 rfl) (xcons (s_aload_n rfl dX7_back_32) (xcons (s_getR (f := 5) xC7 (by decide) xw_331 rfl dX7_back_33) (xcons (s_iload_n rfl dX7_back_36) (xnil))))))))))))))))))))
theorem dX7_back_37 : decode cX7_back 37 = .ok (.aaload, 1) := by decide +kernel
theorem dX7_back_38 : decode cX7_back 38 = .ok (.getfield 235, 3) := by decide +kernel
theorem dX7_back_41 : decode cX7_back 41 = .ok (.iconst 1, 1) := by decide +kernel
theorem dX7_back_42 : decode cX7_back 42 = .ok (.if_icmp .ne 32, 3) := by decide +kernel
theorem dX7_back_45 : decode cX7_back 45 = .ok (.aload_n 0, 1) := by decide +kernel
theorem dX7_back_46 : decode cX7_back 46 = .ok (.getfield 10, 3) := by decide +kernel
theorem dX7_back_49 : decode cX7_back 49 = .ok (.aload_n 0, 1) := by decide +kernel
theorem dX7_back_50 : decode cX7_back 50 = .ok (.getfield 34, 3) := by decide +kernel
theorem dX7_back_53 : decode cX7_back 53 = .ok (.iload_n 1, 1) := by decide +kernel
theorem dX7_back_54 : decode cX7_back 54 = .ok (.aaload, 1) := by decide +kernel
theorem dX7_back_55 : decode cX7_back 55 = .ok (.getfield 247, 3) := by decide +kernel
theorem dX7_back_58 : decode cX7_back 58 = .ok (.invokevirtual 43, 3) := by decide +kernel
theorem dX7_back_61 : decode cX7_back 61 = .ok (.ifCond .ne 13, 3) := by decide +kernel
theorem dX7_back_64 : decode cX7_back 64 = .ok (.aload_n 0, 1) := by decide +kernel
theorem dX7_back_65 : decode cX7_back 65 = .ok (.getfield 34, 3) := by decide +kernel
theorem dX7_back_68 : decode cX7_back 68 = .ok (.iload_n 1, 1) := by decide +kernel
theorem dX7_back_69 : decode cX7_back 69 = .ok (.aaload, 1) := by decide +kernel
theorem dX7_back_70 : decode cX7_back 70 = .ok (.iconst 0, 1) := by decide +kernel
theorem dX7_back_71 : decode cX7_back 71 = .ok (.putfield 235, 3) := by decide +kernel
theorem dX7_back_74 : decode cX7_back 74 = .ok (.iinc 1 1, 3) := by decide +kernel
def k69_1 : List (Nat × XI) := [(37, x_aald 38), (38, x_getI 1 1 41), (41, x_push (1) 42), (42, x_icne 74 45), (45, x_aload 0 46), (46, x_getR 7 0 49), (49, x_aload 0 50), (50, x_getR 7 5 53), (53, x_iload 1 54), (54, x_aald 55), (55, x_getI 1 2 58), (58, x_inv 53 6 1 61), (61, x_ifne 74 64), (64, x_aload 0 65), (65, x_getR 7 5 68), (68, x_iload 1 69), (69, x_aald 70), (70, x_push (0) 71), (71, x_putI 1 1 74), (74, x_iinc 1 (1) 77)]
theorem o69_1 (scr : Nat × (Nat → Int32)) : ∀ q ∈ k69_1, XSnd xm scr Y69 q.1 q.2 := xcons (s_aald dX7_back_37) (xcons (s_getI (f := 1) xC1 (by decide) xw_332 rfl dX7_back_38) (xcons (s_iconst dX7_back_41 rfl) (xcons (s_icne dX7_back_42 rfl) (xcons (s_aload_n rfl dX7_back_45) (xcons (s_getR (f := 0) xC7 (by decide) xw_320 rfl dX7_back_46) (xcons (s_aload_n rfl dX7_back_49) (xcons (s_getR (f := 5) xC7 (by decide) xw_331 rfl dX7_back_50) (xcons (s_iload_n rfl dX7_back_53) (xcons (s_aald dX7_back_54) (xcons (s_getI (f := 2) xC1 (by decide) xw_333 rfl dX7_back_55) (xcons (s_inv (mid := 53) xC6 cal_53 xw_334 xw_131 xw_132 dX7_back_58) (xcons (s_ifne dX7_back_61 rfl) (xcons (s_aload_n rfl dX7_back_64) (xcons (s_getR (f := 5) xC7 (by decide) xw_331 rfl dX7_back_65) (xcons (s_iload_n rfl dX7_back_68) (xcons (s_aald dX7_back_69) (xcons (s_iconst dX7_back_70 rfl) (xcons (s_putI (f := 1) xC1 (by decide) xw_332 rfl (Or.inl rfl) dX7_back_71) (xcons (s_iinc dX7_back_74 rfl (by decide)) (xnil))))))))))))))))))))
theorem dX7_back_77 : decode cX7_back 77 = .ok (.goto (-54), 3) := by decide +kernel
theorem dX7_back_80 : decode cX7_back 80 = .ok (.aload_n 0, 1) := by decide +kernel
theorem dX7_back_81 : decode cX7_back 81 = .ok (.getfield 10, 3) := by decide +kernel
theorem dX7_back_84 : decode cX7_back 84 = .ok (.getfield 225, 3) := by decide +kernel
theorem dX7_back_87 : decode cX7_back 87 = .ok (.ireturn, 1) := by decide +kernel
def k69_2 : List (Nat × XI) := [(77, x_goto 23), (80, x_aload 0 81), (81, x_getR 7 0 84), (84, x_getI 6 4 87), (87, x_iret)]
theorem o69_2 (scr : Nat × (Nat → Int32)) : ∀ q ∈ k69_2, XSnd xm scr Y69 q.1 q.2 := xcons (s_goto dX7_back_77 rfl) (xcons (s_aload_n rfl dX7_back_80) (xcons (s_getR (f := 0) xC7 (by decide) xw_320 rfl dX7_back_81) (xcons (s_getI (f := 4) xC6 (by decide) xw_335 rfl dX7_back_84) (xcons (s_iret dX7_back_87 rfl) (xnil)))))
def k69 (pc : Nat) : XI := if pc < 37 then xlk k69_0 pc else if pc < 77 then xlk k69_1 pc else xlk k69_2 pc
theorem o69 (scr : Nat × (Nat → Int32)) (pc : Nat) : XSnd xm scr Y69 pc (k69 pc) := by
  unfold k69
  exact xite (xlk_ok (o69_0 scr) pc) (xite (xlk_ok (o69_1 scr) pc) (xlk_ok (o69_2 scr) pc))
theorem dX7_brings_0 : decode cX7_brings 0 = .ok (.aload_n 0, 1) := by decide +kernel
theorem dX7_brings_1 : decode cX7_brings 1 = .ok (.getfield 10, 3) := by decide +kernel
theorem dX7_brings_4 : decode cX7_brings 4 = .ok (.iload_n 1, 1) := by decide +kernel
theorem dX7_brings_5 : decode cX7_brings 5 = .ok (.invokevirtual 151, 3) := by decide +kernel
theorem dX7_brings_8 : decode cX7_brings 8 = .ok (.ifCond .eq 12, 3) := by decide +kernel
theorem dX7_brings_11 : decode cX7_brings 11 = .ok (.iload_n 2, 1) := by decide +kernel
theorem dX7_brings_12 : decode cX7_brings 12 = .ok (.ifCond .lt 8, 3) := by decide +kernel
theorem dX7_brings_15 : decode cX7_brings 15 = .ok (.iload_n 2, 1) := by decide +kernel
theorem dX7_brings_16 : decode cX7_brings 16 = .ok (.iconst 2, 1) := by decide +kernel
theorem dX7_brings_17 : decode cX7_brings 17 = .ok (.if_icmp .le 6, 3) := by decide +kernel
theorem dX7_brings_20 : decode cX7_brings 20 = .ok (.ldc 130, 2) := by decide +kernel
theorem dX7_brings_22 : decode cX7_brings 22 = .ok (.ireturn, 1) := by decide +kernel
theorem dX7_brings_23 : decode cX7_brings 23 = .ok (.aload_n 0, 1) := by decide +kernel
theorem dX7_brings_24 : decode cX7_brings 24 = .ok (.getfield 16, 3) := by decide +kernel
theorem dX7_brings_27 : decode cX7_brings 27 = .ok (.aload_n 0, 1) := by decide +kernel
theorem dX7_brings_28 : decode cX7_brings 28 = .ok (.getfield 10, 3) := by decide +kernel
theorem dX7_brings_31 : decode cX7_brings 31 = .ok (.invokevirtual 172, 3) := by decide +kernel
theorem dX7_brings_34 : decode cX7_brings 34 = .ok (.aload_n 0, 1) := by decide +kernel
theorem dX7_brings_35 : decode cX7_brings 35 = .ok (.getfield 16, 3) := by decide +kernel
theorem dX7_brings_38 : decode cX7_brings 38 = .ok (.iconst 0, 1) := by decide +kernel
def k70_0 : List (Nat × XI) := [(0, x_aload 0 1), (1, x_getR 7 0 4), (4, x_iload 1 5), (5, x_inv 54 6 1 8), (8, x_ifeq 20 11), (11, x_iload 2 12), (12, x_iflt 20 15), (15, x_iload 2 16), (16, x_push (2) 17), (17, x_icle 23 20), (20, x_push (-2000000000) 22), (22, x_iret), (23, x_aload 0 24), (24, x_getR 7 1 27), (27, x_aload 0 28), (28, x_getR 7 0 31), (31, x_inv 42 6 1 34), (34, x_aload 0 35), (35, x_getR 7 1 38), (38, x_push (0) 39)]
theorem o70_0 (scr : Nat × (Nat → Int32)) : ∀ q ∈ k70_0, XSnd xm scr Y70 q.1 q.2 := xcons (s_aload_n rfl dX7_brings_0) (xcons (s_getR (f := 0) xC7 (by decide) xw_320 rfl dX7_brings_1) (xcons (s_iload_n rfl dX7_brings_4) (xcons (s_inv (mid := 54) xC6 cal_54 xw_336 xw_135 xw_136 dX7_brings_5) (xcons (s_ifeq dX7_brings_8 rfl) (xcons (s_iload_n rfl dX7_brings_11) (xcons (s_iflt dX7_brings_12 rfl) (xcons (s_iload_n rfl dX7_brings_15) (xcons (s_iconst dX7_brings_16 rfl) (xcons (s_icle dX7_brings_17 rfl) (xcons (s_ldc dX7_brings_20 xw_337) (xcons (s_iret dX7_brings_22 rfl) (xcons (s_aload_n rfl dX7_brings_23) (xcons (s_getR (f := 1) xC7 (by decide) xw_338 rfl dX7_brings_24) (xcons (s_aload_n rfl dX7_brings_27) (xcons (s_getR (f := 0) xC7 (by decide) xw_320 rfl dX7_brings_28) (xcons (s_inv (mid := 42) xC6 cal_42 xw_328 xw_329 xw_330 dX7_brings_31) (xcons (s_aload_n rfl dX7_brings_34) (xcons (s_getR (f := 1) xC7 (by decide) xw_338 rfl dX7_brings_35) (xcons (s_iconst dX7_brings_38 rfl) (xnil))))))))))))))))))))
theorem dX7_brings_39 : decode cX7_brings 39 = .ok (.putfield 204, 3) := by decide +kernel
theorem dX7_brings_42 : decode cX7_brings 42 = .ok (.aload_n 0, 1) := by decide +kernel
theorem dX7_brings_43 : decode cX7_brings 43 = .ok (.getfield 16, 3) := by decide +kernel
theorem dX7_brings_46 : decode cX7_brings 46 = .ok (.iload_n 1, 1) := by decide +kernel
theorem dX7_brings_47 : decode cX7_brings 47 = .ok (.iconst 5, 1) := by decide +kernel
theorem dX7_brings_48 : decode cX7_brings 48 = .ok (.invokevirtual 200, 3) := by decide +kernel
theorem dX7_brings_51 : decode cX7_brings 51 = .ok (.iload_n 2, 1) := by decide +kernel
theorem dX7_brings_52 : decode cX7_brings 52 = .ok (.ifCond .ne 11, 3) := by decide +kernel
theorem dX7_brings_55 : decode cX7_brings 55 = .ok (.aload_n 0, 1) := by decide +kernel
theorem dX7_brings_56 : decode cX7_brings 56 = .ok (.getfield 16, 3) := by decide +kernel
theorem dX7_brings_59 : decode cX7_brings 59 = .ok (.getfield 204, 3) := by decide +kernel
theorem dX7_brings_62 : decode cX7_brings 62 = .ok (.ireturn, 1) := by decide +kernel
theorem dX7_brings_63 : decode cX7_brings 63 = .ok (.iload_n 2, 1) := by decide +kernel
theorem dX7_brings_64 : decode cX7_brings 64 = .ok (.iconst 1, 1) := by decide +kernel
theorem dX7_brings_65 : decode cX7_brings 65 = .ok (.if_icmp .ne 21, 3) := by decide +kernel
theorem dX7_brings_68 : decode cX7_brings 68 = .ok (.aload_n 0, 1) := by decide +kernel
theorem dX7_brings_69 : decode cX7_brings 69 = .ok (.getfield 10, 3) := by decide +kernel
theorem dX7_brings_72 : decode cX7_brings 72 = .ok (.invokevirtual 176, 3) := by decide +kernel
theorem dX7_brings_75 : decode cX7_brings 75 = .ok (.aload_n 0, 1) := by decide +kernel
theorem dX7_brings_76 : decode cX7_brings 76 = .ok (.getfield 16, 3) := by decide +kernel
def k70_1 : List (Nat × XI) := [(39, x_putI 6 12 42), (42, x_aload 0 43), (43, x_getR 7 1 46), (46, x_iload 1 47), (47, x_push (5) 48), (48, x_inv 46 6 2 51), (51, x_iload 2 52), (52, x_ifne 63 55), (55, x_aload 0 56), (56, x_getR 7 1 59), (59, x_getI 6 12 62), (62, x_iret), (63, x_iload 2 64), (64, x_push (1) 65), (65, x_icne 86 68), (68, x_aload 0 69), (69, x_getR 7 0 72), (72, x_inv 58 6 0 75), (75, x_aload 0 76), (76, x_getR 7 1 79)]
theorem o70_1 (scr : Nat × (Nat → Int32)) : ∀ q ∈ k70_1, XSnd xm scr Y70 q.1 q.2 := xcons (s_putI (f := 12) xC6 (by decide) xw_339 rfl (Or.inl rfl) dX7_brings_39) (xcons (s_aload_n rfl dX7_brings_42) (xcons (s_getR (f := 1) xC7 (by decide) xw_338 rfl dX7_brings_43) (xcons (s_iload_n rfl dX7_brings_46) (xcons (s_iconst dX7_brings_47 rfl) (xcons (s_inv (mid := 46) xC6 cal_46 xw_340 xw_310 xw_311 dX7_brings_48) (xcons (s_iload_n rfl dX7_brings_51) (xcons (s_ifne dX7_brings_52 rfl) (xcons (s_aload_n rfl dX7_brings_55) (xcons (s_getR (f := 1) xC7 (by decide) xw_338 rfl dX7_brings_56) (xcons (s_getI (f := 12) xC6 (by decide) xw_339 rfl dX7_brings_59) (xcons (s_iret dX7_brings_62 rfl) (xcons (s_iload_n rfl dX7_brings_63) (xcons (s_iconst dX7_brings_64 rfl) (xcons (s_icne dX7_brings_65 rfl) (xcons (s_aload_n rfl dX7_brings_68) (xcons (s_getR (f := 0) xC7 (by decide) xw_320 rfl dX7_brings_69) (xcons (s_inv (mid := 58) xC6 cal_58 xw_342 xw_343 xw_344 dX7_brings_72) (xcons (s_aload_n rfl dX7_brings_75) (xcons (s_getR (f := 1) xC7 (by decide) xw_338 rfl dX7_brings_76) (xnil))))))))))))))))))))
theorem dX7_brings_79 : decode cX7_brings 79 = .ok (.invokevirtual 176, 3) := by decide +kernel
theorem dX7_brings_82 : decode cX7_brings 82 = .ok (.iconst (-1), 1) := by decide +kernel
theorem dX7_brings_83 : decode cX7_brings 83 = .ok (.ixor, 1) := by decide +kernel
theorem dX7_brings_84 : decode cX7_brings 84 = .ok (.iand, 1) := by decide +kernel
theorem dX7_brings_85 : decode cX7_brings 85 = .ok (.ireturn, 1) := by decide +kernel
theorem dX7_brings_86 : decode cX7_brings 86 = .ok (.aload_n 0, 1) := by decide +kernel
theorem dX7_brings_87 : decode cX7_brings 87 = .ok (.getfield 16, 3) := by decide +kernel
theorem dX7_brings_90 : decode cX7_brings 90 = .ok (.getfield 169, 3) := by decide +kernel
theorem dX7_brings_93 : decode cX7_brings 93 = .ok (.aload_n 0, 1) := by decide +kernel
theorem dX7_brings_94 : decode cX7_brings 94 = .ok (.getfield 16, 3) := by decide +kernel
theorem dX7_brings_97 : decode cX7_brings 97 = .ok (.getfield 169, 3) := by decide +kernel
theorem dX7_brings_100 : decode cX7_brings 100 = .ok (.getfield 64, 3) := by decide +kernel
theorem dX7_brings_103 : decode cX7_brings 103 = .ok (.iconst 1, 1) := by decide +kernel
theorem dX7_brings_104 : decode cX7_brings 104 = .ok (.isub, 1) := by decide +kernel
theorem dX7_brings_105 : decode cX7_brings 105 = .ok (.invokevirtual 134, 3) := by decide +kernel
theorem dX7_brings_108 : decode cX7_brings 108 = .ok (.ireturn, 1) := by decide +kernel
def k70_2 : List (Nat × XI) := [(79, x_inv 58 6 0 82), (82, x_push (-1) 83), (83, x_ixor 84), (84, x_iand 85), (85, x_iret), (86, x_aload 0 87), (87, x_getR 7 1 90), (90, x_getR 6 3 93), (93, x_aload 0 94), (94, x_getR 7 1 97), (97, x_getR 6 3 100), (100, x_getI 3 2 103), (103, x_push (1) 104), (104, x_isub 105), (105, x_inv 18 3 1 108), (108, x_iret)]
theorem o70_2 (scr : Nat × (Nat → Int32)) : ∀ q ∈ k70_2, XSnd xm scr Y70 q.1 q.2 := xcons (s_inv (mid := 58) xC6 cal_58 xw_342 xw_343 xw_344 dX7_brings_79) (xcons (s_iconst dX7_brings_82 rfl) (xcons (s_ixor dX7_brings_83) (xcons (s_iand dX7_brings_84) (xcons (s_iret dX7_brings_85 rfl) (xcons (s_aload_n rfl dX7_brings_86) (xcons (s_getR (f := 1) xC7 (by decide) xw_338 rfl dX7_brings_87) (xcons (s_getR (f := 3) xC6 (by decide) xw_345 rfl dX7_brings_90) (xcons (s_aload_n rfl dX7_brings_93) (xcons (s_getR (f := 1) xC7 (by decide) xw_338 rfl dX7_brings_94) (xcons (s_getR (f := 3) xC6 (by decide) xw_345 rfl dX7_brings_97) (xcons (s_getI (f := 2) xC3 (by decide) xw_346 rfl dX7_brings_100) (xcons (s_iconst dX7_brings_103 rfl) (xcons (s_isub dX7_brings_104) (xcons (s_inv (mid := 18) xC3 cal_18 xw_347 xw_293 xw_294 dX7_brings_105) (xcons (s_iret dX7_brings_108 rfl) (xnil))))))))))))))))
def k70 (pc : Nat) : XI := if pc < 39 then xlk k70_0 pc else if pc < 79 then xlk k70_1 pc else xlk k70_2 pc
theorem o70 (scr : Nat × (Nat → Int32)) (pc : Nat) : XSnd xm scr Y70 pc (k70 pc) := by
  unfold k70
  exact xite (xlk_ok (o70_0 scr) pc) (xite (xlk_ok (o70_1 scr) pc) (xlk_ok (o70_2 scr) pc))
theorem dX7_cause_0 : decode cX7_cause 0 = .ok (.iload_n 1, 1) := by decide +kernel
theorem dX7_cause_1 : decode cX7_cause 1 = .ok (.ifCond .lt 12, 3) := by decide +kernel
theorem dX7_cause_4 : decode cX7_cause 4 = .ok (.iload_n 2, 1) := by decide +kernel
theorem dX7_cause_5 : decode cX7_cause 5 = .ok (.ifCond .lt 8, 3) := by decide +kernel
theorem dX7_cause_8 : decode cX7_cause 8 = .ok (.iload_n 2, 1) := by decide +kernel
theorem dX7_cause_9 : decode cX7_cause 9 = .ok (.iconst 1, 1) := by decide +kernel
theorem dX7_cause_10 : decode cX7_cause 10 = .ok (.if_icmp .le 5, 3) := by decide +kernel
theorem dX7_cause_13 : decode cX7_cause 13 = .ok (.iconst (-1), 1) := by decide +kernel
theorem dX7_cause_14 : decode cX7_cause 14 = .ok (.ireturn, 1) := by decide +kernel
theorem dX7_cause_15 : decode cX7_cause 15 = .ok (.aload_n 0, 1) := by decide +kernel
theorem dX7_cause_16 : decode cX7_cause 16 = .ok (.getfield 10, 3) := by decide +kernel
theorem dX7_cause_19 : decode cX7_cause 19 = .ok (.getfield 169, 3) := by decide +kernel
theorem dX7_cause_22 : decode cX7_cause 22 = .ok (.astore_n 3, 1) := by decide +kernel
theorem dX7_cause_23 : decode cX7_cause 23 = .ok (.iload_n 1, 1) := by decide +kernel
theorem dX7_cause_24 : decode cX7_cause 24 = .ok (.aload_n 3, 1) := by decide +kernel
theorem dX7_cause_25 : decode cX7_cause 25 = .ok (.getfield 64, 3) := by decide +kernel
theorem dX7_cause_28 : decode cX7_cause 28 = .ok (.if_icmp .lt 6, 3) := by decide +kernel
theorem dX7_cause_31 : decode cX7_cause 31 = .ok (.bipush (-2), 2) := by decide +kernel
theorem dX7_cause_33 : decode cX7_cause 33 = .ok (.ireturn, 1) := by decide +kernel
theorem dX7_cause_34 : decode cX7_cause 34 = .ok (.aload_n 3, 1) := by decide +kernel
def k71_0 : List (Nat × XI) := [(0, x_iload 1 1), (1, x_iflt 13 4), (4, x_iload 2 5), (5, x_iflt 13 8), (8, x_iload 2 9), (9, x_push (1) 10), (10, x_icle 15 13), (13, x_push (-1) 14), (14, x_iret), (15, x_aload 0 16), (16, x_getR 7 0 19), (19, x_getR 6 3 22), (22, x_astore 3 23), (23, x_iload 1 24), (24, x_aload 3 25), (25, x_getI 3 2 28), (28, x_iclt 34 31), (31, x_push (-2) 33), (33, x_iret), (34, x_aload 3 35)]
theorem o71_0 (scr : Nat × (Nat → Int32)) : ∀ q ∈ k71_0, XSnd xm scr Y71 q.1 q.2 := xcons (s_iload_n rfl dX7_cause_0) (xcons (s_iflt dX7_cause_1 rfl) (xcons (s_iload_n rfl dX7_cause_4) (xcons (s_iflt dX7_cause_5 rfl) (xcons (s_iload_n rfl dX7_cause_8) (xcons (s_iconst dX7_cause_9 rfl) (xcons (s_icle dX7_cause_10 rfl) (xcons (s_iconst dX7_cause_13 rfl) (xcons (s_iret dX7_cause_14 rfl) (xcons (s_aload_n rfl dX7_cause_15) (xcons (s_getR (f := 0) xC7 (by decide) xw_320 rfl dX7_cause_16) (xcons (s_getR (f := 3) xC6 (by decide) xw_345 rfl dX7_cause_19) (xcons (s_astore_n rfl dX7_cause_22 (by decide)) (xcons (s_iload_n rfl dX7_cause_23) (xcons (s_aload_n rfl dX7_cause_24) (xcons (s_getI (f := 2) xC3 (by decide) xw_346 rfl dX7_cause_25) (xcons (s_iclt dX7_cause_28 rfl) (xcons (s_bipush dX7_cause_31 rfl) (xcons (s_iret dX7_cause_33 rfl) (xcons (s_aload_n rfl dX7_cause_34) (xnil))))))))))))))))))))
theorem dX7_cause_35 : decode cX7_cause 35 = .ok (.getfield 64, 3) := by decide +kernel
theorem dX7_cause_38 : decode cX7_cause 38 = .ok (.iconst 1, 1) := by decide +kernel
theorem dX7_cause_39 : decode cX7_cause 39 = .ok (.isub, 1) := by decide +kernel
theorem dX7_cause_40 : decode cX7_cause 40 = .ok (.iload_n 1, 1) := by decide +kernel
theorem dX7_cause_41 : decode cX7_cause 41 = .ok (.isub, 1) := by decide +kernel
theorem dX7_cause_42 : decode cX7_cause 42 = .ok (.istore 4, 2) := by decide +kernel
theorem dX7_cause_44 : decode cX7_cause 44 = .ok (.iload_n 2, 1) := by decide +kernel
theorem dX7_cause_45 : decode cX7_cause 45 = .ok (.ifCond .ne 12, 3) := by decide +kernel
theorem dX7_cause_48 : decode cX7_cause 48 = .ok (.aload_n 3, 1) := by decide +kernel
theorem dX7_cause_49 : decode cX7_cause 49 = .ok (.iload 4, 2) := by decide +kernel
theorem dX7_cause_51 : decode cX7_cause 51 = .ok (.invokevirtual 134, 3) := by decide +kernel
theorem dX7_cause_54 : decode cX7_cause 54 = .ok (.goto 9, 3) := by decide +kernel
theorem dX7_cause_57 : decode cX7_cause 57 = .ok (.aload_n 3, 1) := by decide +kernel
theorem dX7_cause_58 : decode cX7_cause 58 = .ok (.iload 4, 2) := by decide +kernel
theorem dX7_cause_60 : decode cX7_cause 60 = .ok (.invokevirtual 131, 3) := by decide +kernel
theorem dX7_cause_63 : decode cX7_cause 63 = .ok (.ireturn, 1) := by decide +kernel
def k71_1 : List (Nat × XI) := [(35, x_getI 3 2 38), (38, x_push (1) 39), (39, x_isub 40), (40, x_iload 1 41), (41, x_isub 42), (42, x_istore 4 44), (44, x_iload 2 45), (45, x_ifne 57 48), (48, x_aload 3 49), (49, x_iload 4 51), (51, x_inv 18 3 1 54), (54, x_goto 63), (57, x_aload 3 58), (58, x_iload 4 60), (60, x_inv 22 3 1 63), (63, x_iret)]
theorem o71_1 (scr : Nat × (Nat → Int32)) : ∀ q ∈ k71_1, XSnd xm scr Y71 q.1 q.2 := xcons (s_getI (f := 2) xC3 (by decide) xw_346 rfl dX7_cause_35) (xcons (s_iconst dX7_cause_38 rfl) (xcons (s_isub dX7_cause_39) (xcons (s_iload_n rfl dX7_cause_40) (xcons (s_isub dX7_cause_41) (xcons (s_istore dX7_cause_42 (by decide)) (xcons (s_iload_n rfl dX7_cause_44) (xcons (s_ifne dX7_cause_45 rfl) (xcons (s_aload_n rfl dX7_cause_48) (xcons (s_iload dX7_cause_49) (xcons (s_inv (mid := 18) xC3 cal_18 xw_347 xw_293 xw_294 dX7_cause_51) (xcons (s_goto dX7_cause_54 rfl) (xcons (s_aload_n rfl dX7_cause_57) (xcons (s_iload dX7_cause_58) (xcons (s_inv (mid := 22) xC3 cal_22 xw_348 xw_297 xw_298 dX7_cause_60) (xcons (s_iret dX7_cause_63 rfl) (xnil))))))))))))))))
def k71 (pc : Nat) : XI := if pc < 35 then xlk k71_0 pc else xlk k71_1 pc
theorem o71 (scr : Nat × (Nat → Int32)) (pc : Nat) : XSnd xm scr Y71 pc (k71 pc) := by
  unfold k71
  exact xite (xlk_ok (o71_0 scr) pc) (xlk_ok (o71_1 scr) pc)
theorem dX7_count_0 : decode cX7_count 0 = .ok (.iload_n 1, 1) := by decide +kernel
theorem dX7_count_1 : decode cX7_count 1 = .ok (.tableswitch 150 0 9 #[55, 63, 74, 82, 93, 101, 109, 117, 128, 139], 55) := by decide +kernel
theorem dX7_count_56 : decode cX7_count 56 = .ok (.aload_n 0, 1) := by decide +kernel
theorem dX7_count_57 : decode cX7_count 57 = .ok (.getfield 10, 3) := by decide +kernel
theorem dX7_count_60 : decode cX7_count 60 = .ok (.getfield 225, 3) := by decide +kernel
theorem dX7_count_63 : decode cX7_count 63 = .ok (.ireturn, 1) := by decide +kernel
theorem dX7_count_64 : decode cX7_count 64 = .ok (.aload_n 0, 1) := by decide +kernel
theorem dX7_count_65 : decode cX7_count 65 = .ok (.getfield 10, 3) := by decide +kernel
theorem dX7_count_68 : decode cX7_count 68 = .ok (.invokevirtual 176, 3) := by decide +kernel
theorem dX7_count_71 : decode cX7_count 71 = .ok (.invokestatic 258, 3) := by decide +kernel
theorem dX7_count_74 : decode cX7_count 74 = .ok (.ireturn, 1) := by decide +kernel
theorem dX7_count_75 : decode cX7_count 75 = .ok (.aload_n 0, 1) := by decide +kernel
theorem dX7_count_76 : decode cX7_count 76 = .ok (.getfield 10, 3) := by decide +kernel
theorem dX7_count_79 : decode cX7_count 79 = .ok (.invokevirtual 263, 3) := by decide +kernel
theorem dX7_count_82 : decode cX7_count 82 = .ok (.ireturn, 1) := by decide +kernel
theorem dX7_count_83 : decode cX7_count 83 = .ok (.aload_n 0, 1) := by decide +kernel
theorem dX7_count_84 : decode cX7_count 84 = .ok (.getfield 10, 3) := by decide +kernel
theorem dX7_count_87 : decode cX7_count 87 = .ok (.getfield 106, 3) := by decide +kernel
theorem dX7_count_90 : decode cX7_count 90 = .ok (.getfield 141, 3) := by decide +kernel
theorem dX7_count_93 : decode cX7_count 93 = .ok (.ireturn, 1) := by decide +kernel
def k72_0 : List (Nat × XI) := [(0, x_iload 1 1), (1, x_tsw (0) (9) [56, 64, 75, 83, 94, 102, 110, 118, 129, 140] 151), (56, x_aload 0 57), (57, x_getR 7 0 60), (60, x_getI 6 4 63), (63, x_iret), (64, x_aload 0 65), (65, x_getR 7 0 68), (68, x_inv 58 6 0 71), (71, x_invS 189 1 74), (74, x_iret), (75, x_aload 0 76), (76, x_getR 7 0 79), (79, x_inv 59 6 0 82), (82, x_iret), (83, x_aload 0 84), (84, x_getR 7 0 87), (87, x_getR 6 1 90), (90, x_getI 5 3 93), (93, x_iret)]
theorem o72_0 (scr : Nat × (Nat → Int32)) : ∀ q ∈ k72_0, XSnd xm scr Y72 q.1 q.2 := xcons (s_iload_n rfl dX7_count_0) (xcons (s_tsw dX7_count_1 rfl rfl) (xcons (s_aload_n rfl dX7_count_56) (xcons (s_getR (f := 0) xC7 (by decide) xw_320 rfl dX7_count_57) (xcons (s_getI (f := 4) xC6 (by decide) xw_335 rfl dX7_count_60) (xcons (s_iret dX7_count_63 rfl) (xcons (s_aload_n rfl dX7_count_64) (xcons (s_getR (f := 0) xC7 (by decide) xw_320 rfl dX7_count_65) (xcons (s_inv (mid := 58) xC6 cal_58 xw_342 xw_343 xw_344 dX7_count_68) (xcons (s_invS (mid := 189) cal_189 xw_351 xw_352 dX7_count_71) (xcons (s_iret dX7_count_74 rfl) (xcons (s_aload_n rfl dX7_count_75) (xcons (s_getR (f := 0) xC7 (by decide) xw_320 rfl dX7_count_76) (xcons (s_inv (mid := 59) xC6 cal_59 xw_354 xw_355 xw_356 dX7_count_79) (xcons (s_iret dX7_count_82 rfl) (xcons (s_aload_n rfl dX7_count_83) (xcons (s_getR (f := 0) xC7 (by decide) xw_320 rfl dX7_count_84) (xcons (s_getR (f := 1) xC6 (by decide) xw_357 rfl dX7_count_87) (xcons (s_getI (f := 3) xC5 (by decide) xw_358 rfl dX7_count_90) (xcons (s_iret dX7_count_93 rfl) (xnil))))))))))))))))))))
theorem dX7_count_94 : decode cX7_count 94 = .ok (.aload_n 0, 1) := by decide +kernel
theorem dX7_count_95 : decode cX7_count 95 = .ok (.getfield 10, 3) := by decide +kernel
theorem dX7_count_98 : decode cX7_count 98 = .ok (.getfield 180, 3) := by decide +kernel
theorem dX7_count_101 : decode cX7_count 101 = .ok (.ireturn, 1) := by decide +kernel
theorem dX7_count_102 : decode cX7_count 102 = .ok (.aload_n 0, 1) := by decide +kernel
theorem dX7_count_103 : decode cX7_count 103 = .ok (.getfield 10, 3) := by decide +kernel
theorem dX7_count_106 : decode cX7_count 106 = .ok (.getfield 183, 3) := by decide +kernel
theorem dX7_count_109 : decode cX7_count 109 = .ok (.ireturn, 1) := by decide +kernel
theorem dX7_count_110 : decode cX7_count 110 = .ok (.aload_n 0, 1) := by decide +kernel
theorem dX7_count_111 : decode cX7_count 111 = .ok (.getfield 10, 3) := by decide +kernel
theorem dX7_count_114 : decode cX7_count 114 = .ok (.getfield 118, 3) := by decide +kernel
theorem dX7_count_117 : decode cX7_count 117 = .ok (.ireturn, 1) := by decide +kernel
theorem dX7_count_118 : decode cX7_count 118 = .ok (.aload_n 0, 1) := by decide +kernel
theorem dX7_count_119 : decode cX7_count 119 = .ok (.getfield 10, 3) := by decide +kernel
theorem dX7_count_122 : decode cX7_count 122 = .ok (.getfield 169, 3) := by decide +kernel
theorem dX7_count_125 : decode cX7_count 125 = .ok (.getfield 64, 3) := by decide +kernel
theorem dX7_count_128 : decode cX7_count 128 = .ok (.ireturn, 1) := by decide +kernel
theorem dX7_count_129 : decode cX7_count 129 = .ok (.aload_n 0, 1) := by decide +kernel
theorem dX7_count_130 : decode cX7_count 130 = .ok (.getfield 10, 3) := by decide +kernel
theorem dX7_count_133 : decode cX7_count 133 = .ok (.getfield 166, 3) := by decide +kernel
def k72_1 : List (Nat × XI) := [(94, x_aload 0 95), (95, x_getR 7 0 98), (98, x_getI 6 8 101), (101, x_iret), (102, x_aload 0 103), (103, x_getR 7 0 106), (106, x_getI 6 7 109), (109, x_iret), (110, x_aload 0 111), (111, x_getR 7 0 114), (114, x_getI 6 6 117), (117, x_iret), (118, x_aload 0 119), (119, x_getR 7 0 122), (122, x_getR 6 3 125), (125, x_getI 3 2 128), (128, x_iret), (129, x_aload 0 130), (130, x_getR 7 0 133), (133, x_getR 6 2 136)]
theorem o72_1 (scr : Nat × (Nat → Int32)) : ∀ q ∈ k72_1, XSnd xm scr Y72 q.1 q.2 := xcons (s_aload_n rfl dX7_count_94) (xcons (s_getR (f := 0) xC7 (by decide) xw_320 rfl dX7_count_95) (xcons (s_getI (f := 8) xC6 (by decide) xw_359 rfl dX7_count_98) (xcons (s_iret dX7_count_101 rfl) (xcons (s_aload_n rfl dX7_count_102) (xcons (s_getR (f := 0) xC7 (by decide) xw_320 rfl dX7_count_103) (xcons (s_getI (f := 7) xC6 (by decide) xw_360 rfl dX7_count_106) (xcons (s_iret dX7_count_109 rfl) (xcons (s_aload_n rfl dX7_count_110) (xcons (s_getR (f := 0) xC7 (by decide) xw_320 rfl dX7_count_111) (xcons (s_getI (f := 6) xC6 (by decide) xw_361 rfl dX7_count_114) (xcons (s_iret dX7_count_117 rfl) (xcons (s_aload_n rfl dX7_count_118) (xcons (s_getR (f := 0) xC7 (by decide) xw_320 rfl dX7_count_119) (xcons (s_getR (f := 3) xC6 (by decide) xw_345 rfl dX7_count_122) (xcons (s_getI (f := 2) xC3 (by decide) xw_346 rfl dX7_count_125) (xcons (s_iret dX7_count_128 rfl) (xcons (s_aload_n rfl dX7_count_129) (xcons (s_getR (f := 0) xC7 (by decide) xw_320 rfl dX7_count_130) (xcons (s_getR (f := 2) xC6 (by decide) xw_362 rfl dX7_count_133) (xnil))))))))))))))))))))
theorem dX7_count_136 : decode cX7_count 136 = .ok (.getfield 64, 3) := by decide +kernel
theorem dX7_count_139 : decode cX7_count 139 = .ok (.ireturn, 1) := by decide +kernel
theorem dX7_count_140 : decode cX7_count 140 = .ok (.aload_n 0, 1) := by decide +kernel
theorem dX7_count_141 : decode cX7_count 141 = .ok (.getfield 28, 3) := by decide +kernel
theorem dX7_count_144 : decode cX7_count 144 = .ok (.getfield 207, 3) := by decide +kernel
theorem dX7_count_147 : decode cX7_count 147 = .ok (.getfield 93, 3) := by decide +kernel
theorem dX7_count_150 : decode cX7_count 150 = .ok (.ireturn, 1) := by decide +kernel
theorem dX7_count_151 : decode cX7_count 151 = .ok (.iconst (-1), 1) := by decide +kernel
theorem dX7_count_152 : decode cX7_count 152 = .ok (.ireturn, 1) := by decide +kernel
def k72_2 : List (Nat × XI) := [(136, x_getI 3 2 139), (139, x_iret), (140, x_aload 0 141), (141, x_getR 7 4 144), (144, x_getR 4 0 147), (147, x_getI 2 1 150), (150, x_iret), (151, x_push (-1) 152), (152, x_iret)]
theorem o72_2 (scr : Nat × (Nat → Int32)) : ∀ q ∈ k72_2, XSnd xm scr Y72 q.1 q.2 := xcons (s_getI (f := 2) xC3 (by decide) xw_346 rfl dX7_count_136) (xcons (s_iret dX7_count_139 rfl) (xcons (s_aload_n rfl dX7_count_140) (xcons (s_getR (f := 4) xC7 (by decide) xw_363 rfl dX7_count_141) (xcons (s_getR (f := 0) xC4 (by decide) xw_364 rfl dX7_count_144) (xcons (s_getI (f := 1) xC2 (by decide) xw_365 rfl dX7_count_147) (xcons (s_iret dX7_count_150 rfl) (xcons (s_iconst dX7_count_151 rfl) (xcons (s_iret dX7_count_152 rfl) (xnil)))))))))
def k72 (pc : Nat) : XI := if pc < 94 then xlk k72_0 pc else if pc < 136 then xlk k72_1 pc else xlk k72_2 pc
theorem o72 (scr : Nat × (Nat → Int32)) (pc : Nat) : XSnd xm scr Y72 pc (k72 pc) := by
  unfold k72
  exact xite (xlk_ok (o72_0 scr) pc) (xite (xlk_ok (o72_1 scr) pc) (xlk_ok (o72_2 scr) pc))
theorem dX7_counted_0 : decode cX7_counted 0 = .ok (.aload_n 0, 1) := by decide +kernel
theorem dX7_counted_1 : decode cX7_counted 1 = .ok (.getfield 10, 3) := by decide +kernel
theorem dX7_counted_4 : decode cX7_counted 4 = .ok (.iload_n 1, 1) := by decide +kernel
theorem dX7_counted_5 : decode cX7_counted 5 = .ok (.invokevirtual 43, 3) := by decide +kernel
theorem dX7_counted_8 : decode cX7_counted 8 = .ok (.ifCond .eq 18, 3) := by decide +kernel
theorem dX7_counted_11 : decode cX7_counted 11 = .ok (.aload_n 0, 1) := by decide +kernel
theorem dX7_counted_12 : decode cX7_counted 12 = .ok (.getfield 10, 3) := by decide +kernel
theorem dX7_counted_15 : decode cX7_counted 15 = .ok (.getfield 54, 3) := by decide +kernel
theorem dX7_counted_18 : decode cX7_counted 18 = .ok (.iload_n 1, 1) := by decide +kernel
theorem dX7_counted_19 : decode cX7_counted 19 = .ok (.aaload, 1) := by decide +kernel
theorem dX7_counted_20 : decode cX7_counted 20 = .ok (.getfield 127, 3) := by decide +kernel
theorem dX7_counted_23 : decode cX7_counted 23 = .ok (.goto 5, 3) := by decide +kernel
theorem dX7_counted_26 : decode cX7_counted 26 = .ok (.ldc 130, 2) := by decide +kernel
theorem dX7_counted_28 : decode cX7_counted 28 = .ok (.ireturn, 1) := by decide +kernel
def k73_0 : List (Nat × XI) := [(0, x_aload 0 1), (1, x_getR 7 0 4), (4, x_iload 1 5), (5, x_inv 53 6 1 8), (8, x_ifeq 26 11), (11, x_aload 0 12), (12, x_getR 7 0 15), (15, x_getR 6 0 18), (18, x_iload 1 19), (19, x_aald 20), (20, x_getI 0 5 23), (23, x_goto 28), (26, x_push (-2000000000) 28), (28, x_iret)]
theorem o73_0 (scr : Nat × (Nat → Int32)) : ∀ q ∈ k73_0, XSnd xm scr Y73 q.1 q.2 := xcons (s_aload_n rfl dX7_counted_0) (xcons (s_getR (f := 0) xC7 (by decide) xw_320 rfl dX7_counted_1) (xcons (s_iload_n rfl dX7_counted_4) (xcons (s_inv (mid := 53) xC6 cal_53 xw_334 xw_131 xw_132 dX7_counted_5) (xcons (s_ifeq dX7_counted_8 rfl) (xcons (s_aload_n rfl dX7_counted_11) (xcons (s_getR (f := 0) xC7 (by decide) xw_320 rfl dX7_counted_12) (xcons (s_getR (f := 0) xC6 (by decide) xw_366 rfl dX7_counted_15) (xcons (s_iload_n rfl dX7_counted_18) (xcons (s_aald dX7_counted_19) (xcons (s_getI (f := 5) xC0 (by decide) xw_367 rfl dX7_counted_20) (xcons (s_goto dX7_counted_23 rfl) (xcons (s_ldc dX7_counted_26 xw_337) (xcons (s_iret dX7_counted_28 rfl) (xnil))))))))))))))
def k73 (pc : Nat) : XI := xlk k73_0 pc
theorem o73 (scr : Nat × (Nat → Int32)) (pc : Nat) : XSnd xm scr Y73 pc (k73 pc) := by
  unfold k73
  exact xlk_ok (o73_0 scr) pc
theorem dX7_doLineButSteps_0 : decode cX7_doLineButSteps 0 = .ok (.aload_n 0, 1) := by decide +kernel
theorem dX7_doLineButSteps_1 : decode cX7_doLineButSteps 1 = .ok (.getfield 28, 3) := by decide +kernel
theorem dX7_doLineButSteps_4 : decode cX7_doLineButSteps 4 = .ok (.invokevirtual 266, 3) := by decide +kernel
theorem dX7_doLineButSteps_7 : decode cX7_doLineButSteps 7 = .ok (.pop, 1) := by decide +kernel
theorem dX7_doLineButSteps_8 : decode cX7_doLineButSteps 8 = .ok (.aload_n 0, 1) := by decide +kernel
theorem dX7_doLineButSteps_9 : decode cX7_doLineButSteps 9 = .ok (.getfield 28, 3) := by decide +kernel
theorem dX7_doLineButSteps_12 : decode cX7_doLineButSteps 12 = .ok (.dup, 1) := by decide +kernel
theorem dX7_doLineButSteps_13 : decode cX7_doLineButSteps 13 = .ok (.getfield 216, 3) := by decide +kernel
theorem dX7_doLineButSteps_16 : decode cX7_doLineButSteps 16 = .ok (.iconst 1, 1) := by decide +kernel
theorem dX7_doLineButSteps_17 : decode cX7_doLineButSteps 17 = .ok (.iadd, 1) := by decide +kernel
theorem dX7_doLineButSteps_18 : decode cX7_doLineButSteps 18 = .ok (.putfield 216, 3) := by decide +kernel
theorem dX7_doLineButSteps_21 : decode cX7_doLineButSteps 21 = .ok (.aload_n 0, 1) := by decide +kernel
theorem dX7_doLineButSteps_22 : decode cX7_doLineButSteps 22 = .ok (.getfield 28, 3) := by decide +kernel
theorem dX7_doLineButSteps_25 : decode cX7_doLineButSteps 25 = .ok (.getfield 269, 3) := by decide +kernel
theorem dX7_doLineButSteps_28 : decode cX7_doLineButSteps 28 = .ok (.astore_n 1, 1) := by decide +kernel
theorem dX7_doLineButSteps_29 : decode cX7_doLineButSteps 29 = .ok (.aload_n 1, 1) := by decide +kernel
theorem dX7_doLineButSteps_30 : decode cX7_doLineButSteps 30 = .ok (.aload_n 1, 1) := by decide +kernel
theorem dX7_doLineButSteps_31 : decode cX7_doLineButSteps 31 = .ok (.getfield 93, 3) := by decide +kernel
theorem dX7_doLineButSteps_34 : decode cX7_doLineButSteps 34 = .ok (.iconst 1, 1) := by decide +kernel
theorem dX7_doLineButSteps_35 : decode cX7_doLineButSteps 35 = .ok (.isub, 1) := by decide +kernel
def k74_0 : List (Nat × XI) := [(0, x_aload 0 1), (1, x_getR 7 4 4), (4, x_inv 28 4 0 7), (7, x_pop 8), (8, x_aload 0 9), (9, x_getR 7 4 12), (12, x_dup 13), (13, x_getI 4 3 16), (16, x_push (1) 17), (17, x_iadd 18), (18, x_putI 4 3 21), (21, x_aload 0 22), (22, x_getR 7 4 25), (25, x_getR 4 1 28), (28, x_astore 1 29), (29, x_aload 1 30), (30, x_aload 1 31), (31, x_getI 2 1 34), (34, x_push (1) 35), (35, x_isub 36)]
theorem o74_0 (scr : Nat × (Nat → Int32)) : ∀ q ∈ k74_0, XSnd xm scr Y74 q.1 q.2 := xcons (s_aload_n rfl dX7_doLineButSteps_0) (xcons (s_getR (f := 4) xC7 (by decide) xw_363 rfl dX7_doLineButSteps_1) (xcons (s_inv (mid := 28) xC4 cal_28 xw_368 xw_84 xw_85 dX7_doLineButSteps_4) (xcons (s_pop dX7_doLineButSteps_7) (xcons (s_aload_n rfl dX7_doLineButSteps_8) (xcons (s_getR (f := 4) xC7 (by decide) xw_363 rfl dX7_doLineButSteps_9) (xcons (s_dup dX7_doLineButSteps_12) (xcons (s_getI (f := 3) xC4 (by decide) xw_369 rfl dX7_doLineButSteps_13) (xcons (s_iconst dX7_doLineButSteps_16 rfl) (xcons (s_iadd dX7_doLineButSteps_17) (xcons (s_putI (f := 3) xC4 (by decide) xw_369 rfl (Or.inl rfl) dX7_doLineButSteps_18) (xcons (s_aload_n rfl dX7_doLineButSteps_21) (xcons (s_getR (f := 4) xC7 (by decide) xw_363 rfl dX7_doLineButSteps_22) (xcons (s_getR (f := 1) xC4 (by decide) xw_370 rfl dX7_doLineButSteps_25) (xcons (s_astore_n rfl dX7_doLineButSteps_28 (by decide)) (xcons (s_aload_n rfl dX7_doLineButSteps_29) (xcons (s_aload_n rfl dX7_doLineButSteps_30) (xcons (s_getI (f := 1) xC2 (by decide) xw_365 rfl dX7_doLineButSteps_31) (xcons (s_iconst dX7_doLineButSteps_34 rfl) (xcons (s_isub dX7_doLineButSteps_35) (xnil))))))))))))))))))))
theorem dX7_doLineButSteps_36 : decode cX7_doLineButSteps 36 = .ok (.invokevirtual 96, 3) := by decide +kernel
theorem dX7_doLineButSteps_39 : decode cX7_doLineButSteps 39 = .ok (.istore_n 2, 1) := by decide +kernel
theorem dX7_doLineButSteps_40 : decode cX7_doLineButSteps 40 = .ok (.aload_n 0, 1) := by decide +kernel
theorem dX7_doLineButSteps_41 : decode cX7_doLineButSteps 41 = .ok (.getfield 28, 3) := by decide +kernel
theorem dX7_doLineButSteps_44 : decode cX7_doLineButSteps 44 = .ok (.getfield 272, 3) := by decide +kernel
theorem dX7_doLineButSteps_47 : decode cX7_doLineButSteps 47 = .ok (.lookupswitch 137 #[(97, 33), (109, 86), (115, 120)], 33) := by decide +kernel
theorem dX7_doLineButSteps_80 : decode cX7_doLineButSteps 80 = .ok (.aload_n 1, 1) := by decide +kernel
theorem dX7_doLineButSteps_81 : decode cX7_doLineButSteps 81 = .ok (.iconst 0, 1) := by decide +kernel
theorem dX7_doLineButSteps_82 : decode cX7_doLineButSteps 82 = .ok (.invokevirtual 96, 3) := by decide +kernel
theorem dX7_doLineButSteps_85 : decode cX7_doLineButSteps 85 = .ok (.bipush 99, 2) := by decide +kernel
theorem dX7_doLineButSteps_87 : decode cX7_doLineButSteps 87 = .ok (.if_icmp .ne 7, 3) := by decide +kernel
theorem dX7_doLineButSteps_90 : decode cX7_doLineButSteps 90 = .ok (.iconst (-1), 1) := by decide +kernel
theorem dX7_doLineButSteps_91 : decode cX7_doLineButSteps 91 = .ok (.goto 8, 3) := by decide +kernel
theorem dX7_doLineButSteps_94 : decode cX7_doLineButSteps 94 = .ok (.aload_n 1, 1) := by decide +kernel
theorem dX7_doLineButSteps_95 : decode cX7_doLineButSteps 95 = .ok (.iconst 0, 1) := by decide +kernel
theorem dX7_doLineButSteps_96 : decode cX7_doLineButSteps 96 = .ok (.invokevirtual 96, 3) := by decide +kernel
theorem dX7_doLineButSteps_99 : decode cX7_doLineButSteps 99 = .ok (.istore_n 3, 1) := by decide +kernel
theorem dX7_doLineButSteps_100 : decode cX7_doLineButSteps 100 = .ok (.aload_n 0, 1) := by decide +kernel
theorem dX7_doLineButSteps_101 : decode cX7_doLineButSteps 101 = .ok (.getfield 10, 3) := by decide +kernel
theorem dX7_doLineButSteps_104 : decode cX7_doLineButSteps 104 = .ok (.iload_n 3, 1) := by decide +kernel
def k74_1 : List (Nat × XI) := [(36, x_inv 6 2 1 39), (39, x_istore 2 40), (40, x_aload 0 41), (41, x_getR 7 4 44), (44, x_getI 4 2 47), (47, x_lsw [(97, 80), (109, 133), (115, 167)] 184), (80, x_aload 1 81), (81, x_push (0) 82), (82, x_inv 6 2 1 85), (85, x_push (99) 87), (87, x_icne 94 90), (90, x_push (-1) 91), (91, x_goto 99), (94, x_aload 1 95), (95, x_push (0) 96), (96, x_inv 6 2 1 99), (99, x_istore 3 100), (100, x_aload 0 101), (101, x_getR 7 0 104), (104, x_iload 3 105)]
theorem o74_1 (scr : Nat × (Nat → Int32)) : ∀ q ∈ k74_1, XSnd xm scr Y74 q.1 q.2 := xcons (s_inv (mid := 6) xC2 cal_6 xw_371 xw_93 xw_94 dX7_doLineButSteps_36) (xcons (s_istore_n rfl dX7_doLineButSteps_39 (by decide)) (xcons (s_aload_n rfl dX7_doLineButSteps_40) (xcons (s_getR (f := 4) xC7 (by decide) xw_363 rfl dX7_doLineButSteps_41) (xcons (s_getI (f := 2) xC4 (by decide) xw_372 rfl dX7_doLineButSteps_44) (xcons (s_lsw dX7_doLineButSteps_47 (by decide +kernel) rfl rfl) (xcons (s_aload_n rfl dX7_doLineButSteps_80) (xcons (s_iconst dX7_doLineButSteps_81 rfl) (xcons (s_inv (mid := 6) xC2 cal_6 xw_371 xw_93 xw_94 dX7_doLineButSteps_82) (xcons (s_bipush dX7_doLineButSteps_85 rfl) (xcons (s_icne dX7_doLineButSteps_87 rfl) (xcons (s_iconst dX7_doLineButSteps_90 rfl) (xcons (s_goto dX7_doLineButSteps_91 rfl) (xcons (s_aload_n rfl dX7_doLineButSteps_94) (xcons (s_iconst dX7_doLineButSteps_95 rfl) (xcons (s_inv (mid := 6) xC2 cal_6 xw_371 xw_93 xw_94 dX7_doLineButSteps_96) (xcons (s_istore_n rfl dX7_doLineButSteps_99 (by decide)) (xcons (s_aload_n rfl dX7_doLineButSteps_100) (xcons (s_getR (f := 0) xC7 (by decide) xw_320 rfl dX7_doLineButSteps_101) (xcons (s_iload_n rfl dX7_doLineButSteps_104) (xnil))))))))))))))))))))
theorem dX7_doLineButSteps_105 : decode cX7_doLineButSteps 105 = .ok (.aload_n 1, 1) := by decide +kernel
theorem dX7_doLineButSteps_106 : decode cX7_doLineButSteps 106 = .ok (.iconst 1, 1) := by decide +kernel
theorem dX7_doLineButSteps_107 : decode cX7_doLineButSteps 107 = .ok (.invokevirtual 96, 3) := by decide +kernel
theorem dX7_doLineButSteps_110 : decode cX7_doLineButSteps 110 = .ok (.aload_n 1, 1) := by decide +kernel
theorem dX7_doLineButSteps_111 : decode cX7_doLineButSteps 111 = .ok (.iconst 2, 1) := by decide +kernel
theorem dX7_doLineButSteps_112 : decode cX7_doLineButSteps 112 = .ok (.invokevirtual 96, 3) := by decide +kernel
theorem dX7_doLineButSteps_115 : decode cX7_doLineButSteps 115 = .ok (.aload_n 1, 1) := by decide +kernel
theorem dX7_doLineButSteps_116 : decode cX7_doLineButSteps 116 = .ok (.iconst 3, 1) := by decide +kernel
theorem dX7_doLineButSteps_117 : decode cX7_doLineButSteps 117 = .ok (.invokevirtual 96, 3) := by decide +kernel
theorem dX7_doLineButSteps_120 : decode cX7_doLineButSteps 120 = .ok (.iload_n 2, 1) := by decide +kernel
theorem dX7_doLineButSteps_121 : decode cX7_doLineButSteps 121 = .ok (.invokevirtual 39, 3) := by decide +kernel
theorem dX7_doLineButSteps_124 : decode cX7_doLineButSteps 124 = .ok (.ifCond .lt 7, 3) := by decide +kernel
theorem dX7_doLineButSteps_127 : decode cX7_doLineButSteps 127 = .ok (.iconst 0, 1) := by decide +kernel
theorem dX7_doLineButSteps_128 : decode cX7_doLineButSteps 128 = .ok (.goto 4, 3) := by decide +kernel
theorem dX7_doLineButSteps_131 : decode cX7_doLineButSteps 131 = .ok (.iconst (-1), 1) := by decide +kernel
theorem dX7_doLineButSteps_132 : decode cX7_doLineButSteps 132 = .ok (.ireturn, 1) := by decide +kernel
theorem dX7_doLineButSteps_133 : decode cX7_doLineButSteps 133 = .ok (.aload_n 0, 1) := by decide +kernel
theorem dX7_doLineButSteps_134 : decode cX7_doLineButSteps 134 = .ok (.getfield 10, 3) := by decide +kernel
theorem dX7_doLineButSteps_137 : decode cX7_doLineButSteps 137 = .ok (.aload_n 1, 1) := by decide +kernel
theorem dX7_doLineButSteps_138 : decode cX7_doLineButSteps 138 = .ok (.iconst 0, 1) := by decide +kernel
def k74_2 : List (Nat × XI) := [(105, x_aload 1 106), (106, x_push (1) 107), (107, x_inv 6 2 1 110), (110, x_aload 1 111), (111, x_push (2) 112), (112, x_inv 6 2 1 115), (115, x_aload 1 116), (116, x_push (3) 117), (117, x_inv 6 2 1 120), (120, x_iload 2 121), (121, x_inv 40 6 5 124), (124, x_iflt 131 127), (127, x_push (0) 128), (128, x_goto 132), (131, x_push (-1) 132), (132, x_iret), (133, x_aload 0 134), (134, x_getR 7 0 137), (137, x_aload 1 138), (138, x_push (0) 139)]
theorem o74_2 (scr : Nat × (Nat → Int32)) : ∀ q ∈ k74_2, XSnd xm scr Y74 q.1 q.2 := xcons (s_aload_n rfl dX7_doLineButSteps_105) (xcons (s_iconst dX7_doLineButSteps_106 rfl) (xcons (s_inv (mid := 6) xC2 cal_6 xw_371 xw_93 xw_94 dX7_doLineButSteps_107) (xcons (s_aload_n rfl dX7_doLineButSteps_110) (xcons (s_iconst dX7_doLineButSteps_111 rfl) (xcons (s_inv (mid := 6) xC2 cal_6 xw_371 xw_93 xw_94 dX7_doLineButSteps_112) (xcons (s_aload_n rfl dX7_doLineButSteps_115) (xcons (s_iconst dX7_doLineButSteps_116 rfl) (xcons (s_inv (mid := 6) xC2 cal_6 xw_371 xw_93 xw_94 dX7_doLineButSteps_117) (xcons (s_iload_n rfl dX7_doLineButSteps_120) (xcons (s_inv (mid := 40) xC6 cal_40 xw_322 xw_323 xw_324 dX7_doLineButSteps_121) (xcons (s_iflt dX7_doLineButSteps_124 rfl) (xcons (s_iconst dX7_doLineButSteps_127 rfl) (xcons (s_goto dX7_doLineButSteps_128 rfl) (xcons (s_iconst dX7_doLineButSteps_131 rfl) (xcons (s_iret dX7_doLineButSteps_132 rfl) (xcons (s_aload_n rfl dX7_doLineButSteps_133) (xcons (s_getR (f := 0) xC7 (by decide) xw_320 rfl dX7_doLineButSteps_134) (xcons (s_aload_n rfl dX7_doLineButSteps_137) (xcons (s_iconst dX7_doLineButSteps_138 rfl) (xnil))))))))))))))))))))
theorem dX7_doLineButSteps_139 : decode cX7_doLineButSteps 139 = .ok (.invokevirtual 96, 3) := by decide +kernel
theorem dX7_doLineButSteps_142 : decode cX7_doLineButSteps 142 = .ok (.invokevirtual 43, 3) := by decide +kernel
theorem dX7_doLineButSteps_145 : decode cX7_doLineButSteps 145 = .ok (.ifCond .ne 5, 3) := by decide +kernel
theorem dX7_doLineButSteps_148 : decode cX7_doLineButSteps 148 = .ok (.iconst (-1), 1) := by decide +kernel
theorem dX7_doLineButSteps_149 : decode cX7_doLineButSteps 149 = .ok (.ireturn, 1) := by decide +kernel
theorem dX7_doLineButSteps_150 : decode cX7_doLineButSteps 150 = .ok (.aload_n 0, 1) := by decide +kernel
theorem dX7_doLineButSteps_151 : decode cX7_doLineButSteps 151 = .ok (.getfield 10, 3) := by decide +kernel
theorem dX7_doLineButSteps_154 : decode cX7_doLineButSteps 154 = .ok (.aload_n 1, 1) := by decide +kernel
theorem dX7_doLineButSteps_155 : decode cX7_doLineButSteps 155 = .ok (.iconst 0, 1) := by decide +kernel
theorem dX7_doLineButSteps_156 : decode cX7_doLineButSteps 156 = .ok (.invokevirtual 96, 3) := by decide +kernel
theorem dX7_doLineButSteps_159 : decode cX7_doLineButSteps 159 = .ok (.iconst (-1), 1) := by decide +kernel
theorem dX7_doLineButSteps_160 : decode cX7_doLineButSteps 160 = .ok (.iload_n 2, 1) := by decide +kernel
theorem dX7_doLineButSteps_161 : decode cX7_doLineButSteps 161 = .ok (.invokevirtual 50, 3) := by decide +kernel
theorem dX7_doLineButSteps_164 : decode cX7_doLineButSteps 164 = .ok (.pop, 1) := by decide +kernel
theorem dX7_doLineButSteps_165 : decode cX7_doLineButSteps 165 = .ok (.iconst 0, 1) := by decide +kernel
theorem dX7_doLineButSteps_166 : decode cX7_doLineButSteps 166 = .ok (.ireturn, 1) := by decide +kernel
theorem dX7_doLineButSteps_167 : decode cX7_doLineButSteps 167 = .ok (.iload_n 2, 1) := by decide +kernel
theorem dX7_doLineButSteps_168 : decode cX7_doLineButSteps 168 = .ok (.iconst 1, 1) := by decide +kernel
theorem dX7_doLineButSteps_169 : decode cX7_doLineButSteps 169 = .ok (.if_icmp .lt 13, 3) := by decide +kernel
theorem dX7_doLineButSteps_172 : decode cX7_doLineButSteps 172 = .ok (.iload_n 2, 1) := by decide +kernel
def k74_3 : List (Nat × XI) := [(139, x_inv 6 2 1 142), (142, x_inv 53 6 1 145), (145, x_ifne 150 148), (148, x_push (-1) 149), (149, x_iret), (150, x_aload 0 151), (151, x_getR 7 0 154), (154, x_aload 1 155), (155, x_push (0) 156), (156, x_inv 6 2 1 159), (159, x_push (-1) 160), (160, x_iload 2 161), (161, x_inv 63 6 3 164), (164, x_pop 165), (165, x_push (0) 166), (166, x_iret), (167, x_iload 2 168), (168, x_push (1) 169), (169, x_iclt 182 172), (172, x_iload 2 173)]
theorem o74_3 (scr : Nat × (Nat → Int32)) : ∀ q ∈ k74_3, XSnd xm scr Y74 q.1 q.2 := xcons (s_inv (mid := 6) xC2 cal_6 xw_371 xw_93 xw_94 dX7_doLineButSteps_139) (xcons (s_inv (mid := 53) xC6 cal_53 xw_334 xw_131 xw_132 dX7_doLineButSteps_142) (xcons (s_ifne dX7_doLineButSteps_145 rfl) (xcons (s_iconst dX7_doLineButSteps_148 rfl) (xcons (s_iret dX7_doLineButSteps_149 rfl) (xcons (s_aload_n rfl dX7_doLineButSteps_150) (xcons (s_getR (f := 0) xC7 (by decide) xw_320 rfl dX7_doLineButSteps_151) (xcons (s_aload_n rfl dX7_doLineButSteps_154) (xcons (s_iconst dX7_doLineButSteps_155 rfl) (xcons (s_inv (mid := 6) xC2 cal_6 xw_371 xw_93 xw_94 dX7_doLineButSteps_156) (xcons (s_iconst dX7_doLineButSteps_159 rfl) (xcons (s_iload_n rfl dX7_doLineButSteps_160) (xcons (s_inv (mid := 63) xC6 cal_63 xw_373 xw_182 xw_183 dX7_doLineButSteps_161) (xcons (s_pop dX7_doLineButSteps_164) (xcons (s_iconst dX7_doLineButSteps_165 rfl) (xcons (s_iret dX7_doLineButSteps_166 rfl) (xcons (s_iload_n rfl dX7_doLineButSteps_167) (xcons (s_iconst dX7_doLineButSteps_168 rfl) (xcons (s_iclt dX7_doLineButSteps_169 rfl) (xcons (s_iload_n rfl dX7_doLineButSteps_172) (xnil))))))))))))))))))))
theorem dX7_doLineButSteps_173 : decode cX7_doLineButSteps 173 = .ok (.bipush 99, 2) := by decide +kernel
theorem dX7_doLineButSteps_175 : decode cX7_doLineButSteps 175 = .ok (.if_icmp .gt 7, 3) := by decide +kernel
theorem dX7_doLineButSteps_178 : decode cX7_doLineButSteps 178 = .ok (.iload_n 2, 1) := by decide +kernel
theorem dX7_doLineButSteps_179 : decode cX7_doLineButSteps 179 = .ok (.goto 4, 3) := by decide +kernel
theorem dX7_doLineButSteps_182 : decode cX7_doLineButSteps 182 = .ok (.iconst (-1), 1) := by decide +kernel
theorem dX7_doLineButSteps_183 : decode cX7_doLineButSteps 183 = .ok (.ireturn, 1) := by decide +kernel
theorem dX7_doLineButSteps_184 : decode cX7_doLineButSteps 184 = .ok (.iconst (-1), 1) := by decide +kernel
theorem dX7_doLineButSteps_185 : decode cX7_doLineButSteps 185 = .ok (.ireturn, 1) := by decide +kernel
def k74_4 : List (Nat × XI) := [(173, x_push (99) 175), (175, x_icgt 182 178), (178, x_iload 2 179), (179, x_goto 183), (182, x_push (-1) 183), (183, x_iret), (184, x_push (-1) 185), (185, x_iret)]
theorem o74_4 (scr : Nat × (Nat → Int32)) : ∀ q ∈ k74_4, XSnd xm scr Y74 q.1 q.2 := xcons (s_bipush dX7_doLineButSteps_173 rfl) (xcons (s_icgt dX7_doLineButSteps_175 rfl) (xcons (s_iload_n rfl dX7_doLineButSteps_178) (xcons (s_goto dX7_doLineButSteps_179 rfl) (xcons (s_iconst dX7_doLineButSteps_182 rfl) (xcons (s_iret dX7_doLineButSteps_183 rfl) (xcons (s_iconst dX7_doLineButSteps_184 rfl) (xcons (s_iret dX7_doLineButSteps_185 rfl) (xnil))))))))
def k74 (pc : Nat) : XI := if pc < 105 then if pc < 36 then xlk k74_0 pc else xlk k74_1 pc else if pc < 139 then xlk k74_2 pc else if pc < 173 then xlk k74_3 pc else xlk k74_4 pc
theorem o74 (scr : Nat × (Nat → Int32)) (pc : Nat) : XSnd xm scr Y74 pc (k74 pc) := by
  unfold k74
  exact xite (xite (xlk_ok (o74_0 scr) pc) (xlk_ok (o74_1 scr) pc)) (xite (xlk_ok (o74_2 scr) pc) (xite (xlk_ok (o74_3 scr) pc) (xlk_ok (o74_4 scr) pc)))
theorem dX7_drawn_0 : decode cX7_drawn 0 = .ok (.iload_n 1, 1) := by decide +kernel
theorem dX7_drawn_1 : decode cX7_drawn 1 = .ok (.iconst 1, 1) := by decide +kernel
theorem dX7_drawn_2 : decode cX7_drawn 2 = .ok (.if_icmp .lt 9, 3) := by decide +kernel
theorem dX7_drawn_5 : decode cX7_drawn 5 = .ok (.iload_n 1, 1) := by decide +kernel
theorem dX7_drawn_6 : decode cX7_drawn 6 = .ok (.bipush 40, 2) := by decide +kernel
theorem dX7_drawn_8 : decode cX7_drawn 8 = .ok (.if_icmp .le 5, 3) := by decide +kernel
theorem dX7_drawn_11 : decode cX7_drawn 11 = .ok (.iconst (-1), 1) := by decide +kernel
theorem dX7_drawn_12 : decode cX7_drawn 12 = .ok (.ireturn, 1) := by decide +kernel
theorem dX7_drawn_13 : decode cX7_drawn 13 = .ok (.aload_n 0, 1) := by decide +kernel
theorem dX7_drawn_14 : decode cX7_drawn 14 = .ok (.getfield 10, 3) := by decide +kernel
theorem dX7_drawn_17 : decode cX7_drawn 17 = .ok (.getfield 225, 3) := by decide +kernel
theorem dX7_drawn_20 : decode cX7_drawn 20 = .ok (.ifCond .ne 6, 3) := by decide +kernel
theorem dX7_drawn_23 : decode cX7_drawn 23 = .ok (.bipush (-5), 2) := by decide +kernel
theorem dX7_drawn_25 : decode cX7_drawn 25 = .ok (.ireturn, 1) := by decide +kernel
theorem dX7_drawn_26 : decode cX7_drawn 26 = .ok (.aload_n 0, 1) := by decide +kernel
theorem dX7_drawn_27 : decode cX7_drawn 27 = .ok (.getfield 10, 3) := by decide +kernel
theorem dX7_drawn_30 : decode cX7_drawn 30 = .ok (.getfield 180, 3) := by decide +kernel
theorem dX7_drawn_33 : decode cX7_drawn 33 = .ok (.istore_n 2, 1) := by decide +kernel
theorem dX7_drawn_34 : decode cX7_drawn 34 = .ok (.iconst 0, 1) := by decide +kernel
theorem dX7_drawn_35 : decode cX7_drawn 35 = .ok (.istore_n 3, 1) := by decide +kernel
def k75_0 : List (Nat × XI) := [(0, x_iload 1 1), (1, x_push (1) 2), (2, x_iclt 11 5), (5, x_iload 1 6), (6, x_push (40) 8), (8, x_icle 13 11), (11, x_push (-1) 12), (12, x_iret), (13, x_aload 0 14), (14, x_getR 7 0 17), (17, x_getI 6 4 20), (20, x_ifne 26 23), (23, x_push (-5) 25), (25, x_iret), (26, x_aload 0 27), (27, x_getR 7 0 30), (30, x_getI 6 8 33), (33, x_istore 2 34), (34, x_push (0) 35), (35, x_istore 3 36)]
theorem o75_0 (scr : Nat × (Nat → Int32)) : ∀ q ∈ k75_0, XSnd xm scr Y75 q.1 q.2 := xcons (s_iload_n rfl dX7_drawn_0) (xcons (s_iconst dX7_drawn_1 rfl) (xcons (s_iclt dX7_drawn_2 rfl) (xcons (s_iload_n rfl dX7_drawn_5) (xcons (s_bipush dX7_drawn_6 rfl) (xcons (s_icle dX7_drawn_8 rfl) (xcons (s_iconst dX7_drawn_11 rfl) (xcons (s_iret dX7_drawn_12 rfl) (xcons (s_aload_n rfl dX7_drawn_13) (xcons (s_getR (f := 0) xC7 (by decide) xw_320 rfl dX7_drawn_14) (xcons (s_getI (f := 4) xC6 (by decide) xw_335 rfl dX7_drawn_17) (xcons (s_ifne dX7_drawn_20 rfl) (xcons (s_bipush dX7_drawn_23 rfl) (xcons (s_iret dX7_drawn_25 rfl) (xcons (s_aload_n rfl dX7_drawn_26) (xcons (s_getR (f := 0) xC7 (by decide) xw_320 rfl dX7_drawn_27) (xcons (s_getI (f := 8) xC6 (by decide) xw_359 rfl dX7_drawn_30) (xcons (s_istore_n rfl dX7_drawn_33 (by decide)) (xcons (s_iconst dX7_drawn_34 rfl) (xcons (s_istore_n rfl dX7_drawn_35 (by decide)) (xnil))))))))))))))))))))
theorem dX7_drawn_36 : decode cX7_drawn 36 = .ok (.iload_n 3, 1) := by decide +kernel
theorem dX7_drawn_37 : decode cX7_drawn 37 = .ok (.iload_n 1, 1) := by decide +kernel
theorem dX7_drawn_38 : decode cX7_drawn 38 = .ok (.if_icmp .ge 77, 3) := by decide +kernel
theorem dX7_drawn_41 : decode cX7_drawn 41 = .ok (.aload_n 0, 1) := by decide +kernel
theorem dX7_drawn_42 : decode cX7_drawn 42 = .ok (.getfield 10, 3) := by decide +kernel
theorem dX7_drawn_45 : decode cX7_drawn 45 = .ok (.aload_n 0, 1) := by decide +kernel
theorem dX7_drawn_46 : decode cX7_drawn 46 = .ok (.getfield 10, 3) := by decide +kernel
theorem dX7_drawn_49 : decode cX7_drawn 49 = .ok (.getfield 228, 3) := by decide +kernel
theorem dX7_drawn_52 : decode cX7_drawn 52 = .ok (.ldc 231, 2) := by decide +kernel
theorem dX7_drawn_54 : decode cX7_drawn 54 = .ok (.imul, 1) := by decide +kernel
theorem dX7_drawn_55 : decode cX7_drawn 55 = .ok (.sipush 12345, 3) := by decide +kernel
theorem dX7_drawn_58 : decode cX7_drawn 58 = .ok (.iadd, 1) := by decide +kernel
theorem dX7_drawn_59 : decode cX7_drawn 59 = .ok (.putfield 228, 3) := by decide +kernel
theorem dX7_drawn_62 : decode cX7_drawn 62 = .ok (.aload_n 0, 1) := by decide +kernel
theorem dX7_drawn_63 : decode cX7_drawn 63 = .ok (.getfield 10, 3) := by decide +kernel
theorem dX7_drawn_66 : decode cX7_drawn 66 = .ok (.getfield 228, 3) := by decide +kernel
theorem dX7_drawn_69 : decode cX7_drawn 69 = .ok (.bipush 16, 2) := by decide +kernel
theorem dX7_drawn_71 : decode cX7_drawn 71 = .ok (.iushr, 1) := by decide +kernel
theorem dX7_drawn_72 : decode cX7_drawn 72 = .ok (.sipush 32767, 3) := by decide +kernel
theorem dX7_drawn_75 : decode cX7_drawn 75 = .ok (.iand, 1) := by decide +kernel
def k75_1 : List (Nat × XI) := [(36, x_iload 3 37), (37, x_iload 1 38), (38, x_icge 115 41), (41, x_aload 0 42), (42, x_getR 7 0 45), (45, x_aload 0 46), (46, x_getR 7 0 49), (49, x_getI 6 9 52), (52, x_push (1103515245) 54), (54, x_imul 55), (55, x_push (12345) 58), (58, x_iadd 59), (59, x_putI 6 9 62), (62, x_aload 0 63), (63, x_getR 7 0 66), (66, x_getI 6 9 69), (69, x_push (16) 71), (71, x_iushr 72), (72, x_push (32767) 75), (75, x_iand 76)]
theorem o75_1 (scr : Nat × (Nat → Int32)) : ∀ q ∈ k75_1, XSnd xm scr Y75 q.1 q.2 := xcons (s_iload_n rfl dX7_drawn_36) (xcons (s_iload_n rfl dX7_drawn_37) (xcons (s_icge dX7_drawn_38 rfl) (xcons (s_aload_n rfl dX7_drawn_41) (xcons (s_getR (f := 0) xC7 (by decide) xw_320 rfl dX7_drawn_42) (xcons (s_aload_n rfl dX7_drawn_45) (xcons (s_getR (f := 0) xC7 (by decide) xw_320 rfl dX7_drawn_46) (xcons (s_getI (f := 9) xC6 (by decide) xw_374 rfl dX7_drawn_49) (xcons (s_ldc dX7_drawn_52 xw_375) (xcons (s_imul dX7_drawn_54) (xcons (s_sipush dX7_drawn_55 rfl) (xcons (s_iadd dX7_drawn_58) (xcons (s_putI (f := 9) xC6 (by decide) xw_374 rfl (Or.inl rfl) dX7_drawn_59) (xcons (s_aload_n rfl dX7_drawn_62) (xcons (s_getR (f := 0) xC7 (by decide) xw_320 rfl dX7_drawn_63) (xcons (s_getI (f := 9) xC6 (by decide) xw_374 rfl dX7_drawn_66) (xcons (s_bipush dX7_drawn_69 rfl) (xcons (s_iushr dX7_drawn_71) (xcons (s_sipush dX7_drawn_72 rfl) (xcons (s_iand dX7_drawn_75) (xnil))))))))))))))))))))
theorem dX7_drawn_76 : decode cX7_drawn 76 = .ok (.istore 4, 2) := by decide +kernel
theorem dX7_drawn_78 : decode cX7_drawn 78 = .ok (.aload_n 0, 1) := by decide +kernel
theorem dX7_drawn_79 : decode cX7_drawn 79 = .ok (.getfield 10, 3) := by decide +kernel
theorem dX7_drawn_82 : decode cX7_drawn 82 = .ok (.iload 4, 2) := by decide +kernel
theorem dX7_drawn_84 : decode cX7_drawn 84 = .ok (.aload_n 0, 1) := by decide +kernel
theorem dX7_drawn_85 : decode cX7_drawn 85 = .ok (.getfield 10, 3) := by decide +kernel
theorem dX7_drawn_88 : decode cX7_drawn 88 = .ok (.getfield 225, 3) := by decide +kernel
theorem dX7_drawn_91 : decode cX7_drawn 91 = .ok (.irem, 1) := by decide +kernel
theorem dX7_drawn_92 : decode cX7_drawn 92 = .ok (.iconst (-1), 1) := by decide +kernel
theorem dX7_drawn_93 : decode cX7_drawn 93 = .ok (.iload 4, 2) := by decide +kernel
theorem dX7_drawn_95 : decode cX7_drawn 95 = .ok (.bipush 12, 2) := by decide +kernel
theorem dX7_drawn_97 : decode cX7_drawn 97 = .ok (.idiv, 1) := by decide +kernel
theorem dX7_drawn_98 : decode cX7_drawn 98 = .ok (.sipush 199, 3) := by decide +kernel
theorem dX7_drawn_101 : decode cX7_drawn 101 = .ok (.irem, 1) := by decide +kernel
theorem dX7_drawn_102 : decode cX7_drawn 102 = .ok (.bipush 99, 2) := by decide +kernel
theorem dX7_drawn_104 : decode cX7_drawn 104 = .ok (.isub, 1) := by decide +kernel
theorem dX7_drawn_105 : decode cX7_drawn 105 = .ok (.invokevirtual 50, 3) := by decide +kernel
theorem dX7_drawn_108 : decode cX7_drawn 108 = .ok (.pop, 1) := by decide +kernel
theorem dX7_drawn_109 : decode cX7_drawn 109 = .ok (.iinc 3 1, 3) := by decide +kernel
theorem dX7_drawn_112 : decode cX7_drawn 112 = .ok (.goto (-76), 3) := by decide +kernel
def k75_2 : List (Nat × XI) := [(76, x_istore 4 78), (78, x_aload 0 79), (79, x_getR 7 0 82), (82, x_iload 4 84), (84, x_aload 0 85), (85, x_getR 7 0 88), (88, x_getI 6 4 91), (91, x_irem 92), (92, x_push (-1) 93), (93, x_iload 4 95), (95, x_push (12) 97), (97, x_idiv 98), (98, x_push (199) 101), (101, x_irem 102), (102, x_push (99) 104), (104, x_isub 105), (105, x_inv 63 6 3 108), (108, x_pop 109), (109, x_iinc 3 (1) 112), (112, x_goto 36)]
theorem o75_2 (scr : Nat × (Nat → Int32)) : ∀ q ∈ k75_2, XSnd xm scr Y75 q.1 q.2 := xcons (s_istore dX7_drawn_76 (by decide)) (xcons (s_aload_n rfl dX7_drawn_78) (xcons (s_getR (f := 0) xC7 (by decide) xw_320 rfl dX7_drawn_79) (xcons (s_iload dX7_drawn_82) (xcons (s_aload_n rfl dX7_drawn_84) (xcons (s_getR (f := 0) xC7 (by decide) xw_320 rfl dX7_drawn_85) (xcons (s_getI (f := 4) xC6 (by decide) xw_335 rfl dX7_drawn_88) (xcons (s_irem dX7_drawn_91) (xcons (s_iconst dX7_drawn_92 rfl) (xcons (s_iload dX7_drawn_93) (xcons (s_bipush dX7_drawn_95 rfl) (xcons (s_idiv dX7_drawn_97) (xcons (s_sipush dX7_drawn_98 rfl) (xcons (s_irem dX7_drawn_101) (xcons (s_bipush dX7_drawn_102 rfl) (xcons (s_isub dX7_drawn_104) (xcons (s_inv (mid := 63) xC6 cal_63 xw_373 xw_182 xw_183 dX7_drawn_105) (xcons (s_pop dX7_drawn_108) (xcons (s_iinc dX7_drawn_109 rfl (by decide)) (xcons (s_goto dX7_drawn_112 rfl) (xnil))))))))))))))))))))
theorem dX7_drawn_115 : decode cX7_drawn 115 = .ok (.aload_n 0, 1) := by decide +kernel
theorem dX7_drawn_116 : decode cX7_drawn 116 = .ok (.getfield 10, 3) := by decide +kernel
theorem dX7_drawn_119 : decode cX7_drawn 119 = .ok (.getfield 180, 3) := by decide +kernel
theorem dX7_drawn_122 : decode cX7_drawn 122 = .ok (.iload_n 2, 1) := by decide +kernel
theorem dX7_drawn_123 : decode cX7_drawn 123 = .ok (.isub, 1) := by decide +kernel
theorem dX7_drawn_124 : decode cX7_drawn 124 = .ok (.ireturn, 1) := by decide +kernel
def k75_3 : List (Nat × XI) := [(115, x_aload 0 116), (116, x_getR 7 0 119), (119, x_getI 6 8 122), (122, x_iload 2 123), (123, x_isub 124), (124, x_iret)]
theorem o75_3 (scr : Nat × (Nat → Int32)) : ∀ q ∈ k75_3, XSnd xm scr Y75 q.1 q.2 := xcons (s_aload_n rfl dX7_drawn_115) (xcons (s_getR (f := 0) xC7 (by decide) xw_320 rfl dX7_drawn_116) (xcons (s_getI (f := 8) xC6 (by decide) xw_359 rfl dX7_drawn_119) (xcons (s_iload_n rfl dX7_drawn_122) (xcons (s_isub dX7_drawn_123) (xcons (s_iret dX7_drawn_124 rfl) (xnil))))))
def k75 (pc : Nat) : XI := if pc < 76 then if pc < 36 then xlk k75_0 pc else xlk k75_1 pc else if pc < 115 then xlk k75_2 pc else xlk k75_3 pc
theorem o75 (scr : Nat × (Nat → Int32)) (pc : Nat) : XSnd xm scr Y75 pc (k75 pc) := by
  unfold k75
  exact xite (xite (xlk_ok (o75_0 scr) pc) (xlk_ok (o75_1 scr) pc)) (xite (xlk_ok (o75_2 scr) pc) (xlk_ok (o75_3 scr) pc))
theorem dX7_dry_0 : decode cX7_dry 0 = .ok (.iload_n 2, 1) := by decide +kernel
theorem dX7_dry_1 : decode cX7_dry 1 = .ok (.ifCond .lt 8, 3) := by decide +kernel
theorem dX7_dry_4 : decode cX7_dry 4 = .ok (.iload_n 2, 1) := by decide +kernel
theorem dX7_dry_5 : decode cX7_dry 5 = .ok (.iconst 5, 1) := by decide +kernel
theorem dX7_dry_6 : decode cX7_dry 6 = .ok (.if_icmp .le 23, 3) := by decide +kernel
theorem dX7_dry_9 : decode cX7_dry 9 = .ok (.iload_n 2, 1) := by decide +kernel
theorem dX7_dry_10 : decode cX7_dry 10 = .ok (.bipush 10, 2) := by decide +kernel
theorem dX7_dry_12 : decode cX7_dry 12 = .ok (.if_icmp .lt 21, 3) := by decide +kernel
theorem dX7_dry_15 : decode cX7_dry 15 = .ok (.aload_n 0, 1) := by decide +kernel
theorem dX7_dry_16 : decode cX7_dry 16 = .ok (.getfield 10, 3) := by decide +kernel
theorem dX7_dry_19 : decode cX7_dry 19 = .ok (.iload_n 2, 1) := by decide +kernel
theorem dX7_dry_20 : decode cX7_dry 20 = .ok (.bipush 10, 2) := by decide +kernel
theorem dX7_dry_22 : decode cX7_dry 22 = .ok (.isub, 1) := by decide +kernel
theorem dX7_dry_23 : decode cX7_dry 23 = .ok (.invokevirtual 43, 3) := by decide +kernel
theorem dX7_dry_26 : decode cX7_dry 26 = .ok (.ifCond .eq 7, 3) := by decide +kernel
theorem dX7_dry_29 : decode cX7_dry 29 = .ok (.iconst 1, 1) := by decide +kernel
theorem dX7_dry_30 : decode cX7_dry 30 = .ok (.goto 4, 3) := by decide +kernel
theorem dX7_dry_33 : decode cX7_dry 33 = .ok (.iconst 0, 1) := by decide +kernel
theorem dX7_dry_34 : decode cX7_dry 34 = .ok (.istore_n 3, 1) := by decide +kernel
theorem dX7_dry_35 : decode cX7_dry 35 = .ok (.iload_n 1, 1) := by decide +kernel
def k76_0 : List (Nat × XI) := [(0, x_iload 2 1), (1, x_iflt 9 4), (4, x_iload 2 5), (5, x_push (5) 6), (6, x_icle 29 9), (9, x_iload 2 10), (10, x_push (10) 12), (12, x_iclt 33 15), (15, x_aload 0 16), (16, x_getR 7 0 19), (19, x_iload 2 20), (20, x_push (10) 22), (22, x_isub 23), (23, x_inv 53 6 1 26), (26, x_ifeq 33 29), (29, x_push (1) 30), (30, x_goto 34), (33, x_push (0) 34), (34, x_istore 3 35), (35, x_iload 1 36)]
theorem o76_0 (scr : Nat × (Nat → Int32)) : ∀ q ∈ k76_0, XSnd xm scr Y76 q.1 q.2 := xcons (s_iload_n rfl dX7_dry_0) (xcons (s_iflt dX7_dry_1 rfl) (xcons (s_iload_n rfl dX7_dry_4) (xcons (s_iconst dX7_dry_5 rfl) (xcons (s_icle dX7_dry_6 rfl) (xcons (s_iload_n rfl dX7_dry_9) (xcons (s_bipush dX7_dry_10 rfl) (xcons (s_iclt dX7_dry_12 rfl) (xcons (s_aload_n rfl dX7_dry_15) (xcons (s_getR (f := 0) xC7 (by decide) xw_320 rfl dX7_dry_16) (xcons (s_iload_n rfl dX7_dry_19) (xcons (s_bipush dX7_dry_20 rfl) (xcons (s_isub dX7_dry_22) (xcons (s_inv (mid := 53) xC6 cal_53 xw_334 xw_131 xw_132 dX7_dry_23) (xcons (s_ifeq dX7_dry_26 rfl) (xcons (s_iconst dX7_dry_29 rfl) (xcons (s_goto dX7_dry_30 rfl) (xcons (s_iconst dX7_dry_33 rfl) (xcons (s_istore_n rfl dX7_dry_34 (by decide)) (xcons (s_iload_n rfl dX7_dry_35) (xnil))))))))))))))))))))
theorem dX7_dry_36 : decode cX7_dry 36 = .ok (.invokestatic 157, 3) := by decide +kernel
theorem dX7_dry_39 : decode cX7_dry 39 = .ok (.ifCond .eq 7, 3) := by decide +kernel
theorem dX7_dry_42 : decode cX7_dry 42 = .ok (.iload_n 3, 1) := by decide +kernel
theorem dX7_dry_43 : decode cX7_dry 43 = .ok (.ifCond .ne 6, 3) := by decide +kernel
theorem dX7_dry_46 : decode cX7_dry 46 = .ok (.ldc 130, 2) := by decide +kernel
theorem dX7_dry_48 : decode cX7_dry 48 = .ok (.ireturn, 1) := by decide +kernel
theorem dX7_dry_49 : decode cX7_dry 49 = .ok (.aload_n 0, 1) := by decide +kernel
theorem dX7_dry_50 : decode cX7_dry 50 = .ok (.getfield 16, 3) := by decide +kernel
theorem dX7_dry_53 : decode cX7_dry 53 = .ok (.aload_n 0, 1) := by decide +kernel
theorem dX7_dry_54 : decode cX7_dry 54 = .ok (.getfield 10, 3) := by decide +kernel
theorem dX7_dry_57 : decode cX7_dry 57 = .ok (.invokevirtual 172, 3) := by decide +kernel
theorem dX7_dry_60 : decode cX7_dry 60 = .ok (.aload_n 0, 1) := by decide +kernel
theorem dX7_dry_61 : decode cX7_dry 61 = .ok (.getfield 16, 3) := by decide +kernel
theorem dX7_dry_64 : decode cX7_dry 64 = .ok (.iload_n 1, 1) := by decide +kernel
theorem dX7_dry_65 : decode cX7_dry 65 = .ok (.invokevirtual 160, 3) := by decide +kernel
theorem dX7_dry_68 : decode cX7_dry 68 = .ok (.istore 4, 2) := by decide +kernel
theorem dX7_dry_70 : decode cX7_dry 70 = .ok (.iload_n 2, 1) := by decide +kernel
theorem dX7_dry_71 : decode cX7_dry 71 = .ok (.tableswitch 80 0 5 #[37, 40, 48, 56, 64, 72], 37) := by decide +kernel
theorem dX7_dry_108 : decode cX7_dry 108 = .ok (.iload 4, 2) := by decide +kernel
theorem dX7_dry_110 : decode cX7_dry 110 = .ok (.ireturn, 1) := by decide +kernel
def k76_1 : List (Nat × XI) := [(36, x_invS 86 1 39), (39, x_ifeq 46 42), (42, x_iload 3 43), (43, x_ifne 49 46), (46, x_push (-2000000000) 48), (48, x_iret), (49, x_aload 0 50), (50, x_getR 7 1 53), (53, x_aload 0 54), (54, x_getR 7 0 57), (57, x_inv 42 6 1 60), (60, x_aload 0 61), (61, x_getR 7 1 64), (64, x_iload 1 65), (65, x_inv 60 6 1 68), (68, x_istore 4 70), (70, x_iload 2 71), (71, x_tsw (0) (5) [108, 111, 119, 127, 135, 143] 151), (108, x_iload 4 110), (110, x_iret)]
theorem o76_1 (scr : Nat × (Nat → Int32)) : ∀ q ∈ k76_1, XSnd xm scr Y76 q.1 q.2 := xcons (s_invS (mid := 86) cal_86 xw_378 xw_379 dX7_dry_36) (xcons (s_ifeq dX7_dry_39 rfl) (xcons (s_iload_n rfl dX7_dry_42) (xcons (s_ifne dX7_dry_43 rfl) (xcons (s_ldc dX7_dry_46 xw_337) (xcons (s_iret dX7_dry_48 rfl) (xcons (s_aload_n rfl dX7_dry_49) (xcons (s_getR (f := 1) xC7 (by decide) xw_338 rfl dX7_dry_50) (xcons (s_aload_n rfl dX7_dry_53) (xcons (s_getR (f := 0) xC7 (by decide) xw_320 rfl dX7_dry_54) (xcons (s_inv (mid := 42) xC6 cal_42 xw_328 xw_329 xw_330 dX7_dry_57) (xcons (s_aload_n rfl dX7_dry_60) (xcons (s_getR (f := 1) xC7 (by decide) xw_338 rfl dX7_dry_61) (xcons (s_iload_n rfl dX7_dry_64) (xcons (s_inv (mid := 60) xC6 cal_60 xw_381 xw_382 xw_383 dX7_dry_65) (xcons (s_istore dX7_dry_68 (by decide)) (xcons (s_iload_n rfl dX7_dry_70) (xcons (s_tsw dX7_dry_71 rfl rfl) (xcons (s_iload dX7_dry_108) (xcons (s_iret dX7_dry_110 rfl) (xnil))))))))))))))))))))
theorem dX7_dry_111 : decode cX7_dry 111 = .ok (.aload_n 0, 1) := by decide +kernel
theorem dX7_dry_112 : decode cX7_dry 112 = .ok (.getfield 16, 3) := by decide +kernel
theorem dX7_dry_115 : decode cX7_dry 115 = .ok (.getfield 163, 3) := by decide +kernel
theorem dX7_dry_118 : decode cX7_dry 118 = .ok (.ireturn, 1) := by decide +kernel
theorem dX7_dry_119 : decode cX7_dry 119 = .ok (.aload_n 0, 1) := by decide +kernel
theorem dX7_dry_120 : decode cX7_dry 120 = .ok (.getfield 16, 3) := by decide +kernel
theorem dX7_dry_123 : decode cX7_dry 123 = .ok (.invokevirtual 176, 3) := by decide +kernel
theorem dX7_dry_126 : decode cX7_dry 126 = .ok (.ireturn, 1) := by decide +kernel
theorem dX7_dry_127 : decode cX7_dry 127 = .ok (.aload_n 0, 1) := by decide +kernel
theorem dX7_dry_128 : decode cX7_dry 128 = .ok (.getfield 16, 3) := by decide +kernel
theorem dX7_dry_131 : decode cX7_dry 131 = .ok (.getfield 180, 3) := by decide +kernel
theorem dX7_dry_134 : decode cX7_dry 134 = .ok (.ireturn, 1) := by decide +kernel
theorem dX7_dry_135 : decode cX7_dry 135 = .ok (.aload_n 0, 1) := by decide +kernel
theorem dX7_dry_136 : decode cX7_dry 136 = .ok (.getfield 16, 3) := by decide +kernel
theorem dX7_dry_139 : decode cX7_dry 139 = .ok (.getfield 183, 3) := by decide +kernel
theorem dX7_dry_142 : decode cX7_dry 142 = .ok (.ireturn, 1) := by decide +kernel
theorem dX7_dry_143 : decode cX7_dry 143 = .ok (.aload_n 0, 1) := by decide +kernel
theorem dX7_dry_144 : decode cX7_dry 144 = .ok (.getfield 16, 3) := by decide +kernel
theorem dX7_dry_147 : decode cX7_dry 147 = .ok (.getfield 118, 3) := by decide +kernel
theorem dX7_dry_150 : decode cX7_dry 150 = .ok (.ireturn, 1) := by decide +kernel
def k76_2 : List (Nat × XI) := [(111, x_aload 0 112), (112, x_getR 7 1 115), (115, x_getI 6 10 118), (118, x_iret), (119, x_aload 0 120), (120, x_getR 7 1 123), (123, x_inv 58 6 0 126), (126, x_iret), (127, x_aload 0 128), (128, x_getR 7 1 131), (131, x_getI 6 8 134), (134, x_iret), (135, x_aload 0 136), (136, x_getR 7 1 139), (139, x_getI 6 7 142), (142, x_iret), (143, x_aload 0 144), (144, x_getR 7 1 147), (147, x_getI 6 6 150), (150, x_iret)]
theorem o76_2 (scr : Nat × (Nat → Int32)) : ∀ q ∈ k76_2, XSnd xm scr Y76 q.1 q.2 := xcons (s_aload_n rfl dX7_dry_111) (xcons (s_getR (f := 1) xC7 (by decide) xw_338 rfl dX7_dry_112) (xcons (s_getI (f := 10) xC6 (by decide) xw_384 rfl dX7_dry_115) (xcons (s_iret dX7_dry_118 rfl) (xcons (s_aload_n rfl dX7_dry_119) (xcons (s_getR (f := 1) xC7 (by decide) xw_338 rfl dX7_dry_120) (xcons (s_inv (mid := 58) xC6 cal_58 xw_342 xw_343 xw_344 dX7_dry_123) (xcons (s_iret dX7_dry_126 rfl) (xcons (s_aload_n rfl dX7_dry_127) (xcons (s_getR (f := 1) xC7 (by decide) xw_338 rfl dX7_dry_128) (xcons (s_getI (f := 8) xC6 (by decide) xw_359 rfl dX7_dry_131) (xcons (s_iret dX7_dry_134 rfl) (xcons (s_aload_n rfl dX7_dry_135) (xcons (s_getR (f := 1) xC7 (by decide) xw_338 rfl dX7_dry_136) (xcons (s_getI (f := 7) xC6 (by decide) xw_360 rfl dX7_dry_139) (xcons (s_iret dX7_dry_142 rfl) (xcons (s_aload_n rfl dX7_dry_143) (xcons (s_getR (f := 1) xC7 (by decide) xw_338 rfl dX7_dry_144) (xcons (s_getI (f := 6) xC6 (by decide) xw_361 rfl dX7_dry_147) (xcons (s_iret dX7_dry_150 rfl) (xnil))))))))))))))))))))
theorem dX7_dry_151 : decode cX7_dry 151 = .ok (.aload_n 0, 1) := by decide +kernel
theorem dX7_dry_152 : decode cX7_dry 152 = .ok (.getfield 16, 3) := by decide +kernel
theorem dX7_dry_155 : decode cX7_dry 155 = .ok (.iload_n 2, 1) := by decide +kernel
theorem dX7_dry_156 : decode cX7_dry 156 = .ok (.bipush 10, 2) := by decide +kernel
theorem dX7_dry_158 : decode cX7_dry 158 = .ok (.isub, 1) := by decide +kernel
theorem dX7_dry_159 : decode cX7_dry 159 = .ok (.invokevirtual 43, 3) := by decide +kernel
theorem dX7_dry_162 : decode cX7_dry 162 = .ok (.ifCond .eq 21, 3) := by decide +kernel
theorem dX7_dry_165 : decode cX7_dry 165 = .ok (.aload_n 0, 1) := by decide +kernel
theorem dX7_dry_166 : decode cX7_dry 166 = .ok (.getfield 16, 3) := by decide +kernel
theorem dX7_dry_169 : decode cX7_dry 169 = .ok (.getfield 54, 3) := by decide +kernel
theorem dX7_dry_172 : decode cX7_dry 172 = .ok (.iload_n 2, 1) := by decide +kernel
theorem dX7_dry_173 : decode cX7_dry 173 = .ok (.bipush 10, 2) := by decide +kernel
theorem dX7_dry_175 : decode cX7_dry 175 = .ok (.isub, 1) := by decide +kernel
theorem dX7_dry_176 : decode cX7_dry 176 = .ok (.aaload, 1) := by decide +kernel
theorem dX7_dry_177 : decode cX7_dry 177 = .ok (.getfield 127, 3) := by decide +kernel
theorem dX7_dry_180 : decode cX7_dry 180 = .ok (.goto 5, 3) := by decide +kernel
theorem dX7_dry_183 : decode cX7_dry 183 = .ok (.ldc 130, 2) := by decide +kernel
theorem dX7_dry_185 : decode cX7_dry 185 = .ok (.ireturn, 1) := by decide +kernel
def k76_3 : List (Nat × XI) := [(151, x_aload 0 152), (152, x_getR 7 1 155), (155, x_iload 2 156), (156, x_push (10) 158), (158, x_isub 159), (159, x_inv 53 6 1 162), (162, x_ifeq 183 165), (165, x_aload 0 166), (166, x_getR 7 1 169), (169, x_getR 6 0 172), (172, x_iload 2 173), (173, x_push (10) 175), (175, x_isub 176), (176, x_aald 177), (177, x_getI 0 5 180), (180, x_goto 185), (183, x_push (-2000000000) 185), (185, x_iret)]
theorem o76_3 (scr : Nat × (Nat → Int32)) : ∀ q ∈ k76_3, XSnd xm scr Y76 q.1 q.2 := xcons (s_aload_n rfl dX7_dry_151) (xcons (s_getR (f := 1) xC7 (by decide) xw_338 rfl dX7_dry_152) (xcons (s_iload_n rfl dX7_dry_155) (xcons (s_bipush dX7_dry_156 rfl) (xcons (s_isub dX7_dry_158) (xcons (s_inv (mid := 53) xC6 cal_53 xw_334 xw_131 xw_132 dX7_dry_159) (xcons (s_ifeq dX7_dry_162 rfl) (xcons (s_aload_n rfl dX7_dry_165) (xcons (s_getR (f := 1) xC7 (by decide) xw_338 rfl dX7_dry_166) (xcons (s_getR (f := 0) xC6 (by decide) xw_366 rfl dX7_dry_169) (xcons (s_iload_n rfl dX7_dry_172) (xcons (s_bipush dX7_dry_173 rfl) (xcons (s_isub dX7_dry_175) (xcons (s_aald dX7_dry_176) (xcons (s_getI (f := 5) xC0 (by decide) xw_367 rfl dX7_dry_177) (xcons (s_goto dX7_dry_180 rfl) (xcons (s_ldc dX7_dry_183 xw_337) (xcons (s_iret dX7_dry_185 rfl) (xnil))))))))))))))))))
def k76 (pc : Nat) : XI := if pc < 111 then if pc < 36 then xlk k76_0 pc else xlk k76_1 pc else if pc < 151 then xlk k76_2 pc else xlk k76_3 pc
theorem o76 (scr : Nat × (Nat → Int32)) (pc : Nat) : XSnd xm scr Y76 pc (k76 pc) := by
  unfold k76
  exact xite (xite (xlk_ok (o76_0 scr) pc) (xlk_ok (o76_1 scr) pc)) (xite (xlk_ok (o76_2 scr) pc) (xlk_ok (o76_3 scr) pc))
theorem dX7_ended_0 : decode cX7_ended 0 = .ok (.aload_n 0, 1) := by decide +kernel
theorem dX7_ended_1 : decode cX7_ended 1 = .ok (.getfield 10, 3) := by decide +kernel
theorem dX7_ended_4 : decode cX7_ended 4 = .ok (.getfield 163, 3) := by decide +kernel
theorem dX7_ended_7 : decode cX7_ended 7 = .ok (.ireturn, 1) := by decide +kernel
def k77_0 : List (Nat × XI) := [(0, x_aload 0 1), (1, x_getR 7 0 4), (4, x_getI 6 10 7), (7, x_iret)]
theorem o77_0 (scr : Nat × (Nat → Int32)) : ∀ q ∈ k77_0, XSnd xm scr Y77 q.1 q.2 := xcons (s_aload_n rfl dX7_ended_0) (xcons (s_getR (f := 0) xC7 (by decide) xw_320 rfl dX7_ended_1) (xcons (s_getI (f := 10) xC6 (by decide) xw_384 rfl dX7_ended_4) (xcons (s_iret dX7_ended_7 rfl) (xnil))))
def k77 (pc : Nat) : XI := xlk k77_0 pc
theorem o77 (scr : Nat × (Nat → Int32)) (pc : Nat) : XSnd xm scr Y77 pc (k77 pc) := by
  unfold k77
  exact xlk_ok (o77_0 scr) pc
theorem dX7_feed_0 : decode cX7_feed 0 = .ok (.iload_n 1, 1) := by decide +kernel
theorem dX7_feed_1 : decode cX7_feed 1 = .ok (.ifCond .lt 10, 3) := by decide +kernel
theorem dX7_feed_4 : decode cX7_feed 4 = .ok (.iload_n 1, 1) := by decide +kernel
theorem dX7_feed_5 : decode cX7_feed 5 = .ok (.sipush 255, 3) := by decide +kernel
theorem dX7_feed_8 : decode cX7_feed 8 = .ok (.if_icmp .le 5, 3) := by decide +kernel
theorem dX7_feed_11 : decode cX7_feed 11 = .ok (.iconst (-1), 1) := by decide +kernel
theorem dX7_feed_12 : decode cX7_feed 12 = .ok (.ireturn, 1) := by decide +kernel
theorem dX7_feed_13 : decode cX7_feed 13 = .ok (.aload_n 0, 1) := by decide +kernel
theorem dX7_feed_14 : decode cX7_feed 14 = .ok (.getfield 28, 3) := by decide +kernel
theorem dX7_feed_17 : decode cX7_feed 17 = .ok (.getfield 207, 3) := by decide +kernel
theorem dX7_feed_20 : decode cX7_feed 20 = .ok (.iload_n 1, 1) := by decide +kernel
theorem dX7_feed_21 : decode cX7_feed 21 = .ok (.invokevirtual 210, 3) := by decide +kernel
theorem dX7_feed_24 : decode cX7_feed 24 = .ok (.ifCond .eq 16, 3) := by decide +kernel
theorem dX7_feed_27 : decode cX7_feed 27 = .ok (.aload_n 0, 1) := by decide +kernel
theorem dX7_feed_28 : decode cX7_feed 28 = .ok (.getfield 28, 3) := by decide +kernel
theorem dX7_feed_31 : decode cX7_feed 31 = .ok (.getfield 207, 3) := by decide +kernel
theorem dX7_feed_34 : decode cX7_feed 34 = .ok (.getfield 93, 3) := by decide +kernel
theorem dX7_feed_37 : decode cX7_feed 37 = .ok (.goto 5, 3) := by decide +kernel
theorem dX7_feed_40 : decode cX7_feed 40 = .ok (.bipush (-3), 2) := by decide +kernel
theorem dX7_feed_42 : decode cX7_feed 42 = .ok (.ireturn, 1) := by decide +kernel
def k78_0 : List (Nat × XI) := [(0, x_iload 1 1), (1, x_iflt 11 4), (4, x_iload 1 5), (5, x_push (255) 8), (8, x_icle 13 11), (11, x_push (-1) 12), (12, x_iret), (13, x_aload 0 14), (14, x_getR 7 4 17), (17, x_getR 4 0 20), (20, x_iload 1 21), (21, x_inv 5 2 1 24), (24, x_ifeq 40 27), (27, x_aload 0 28), (28, x_getR 7 4 31), (31, x_getR 4 0 34), (34, x_getI 2 1 37), (37, x_goto 42), (40, x_push (-3) 42), (42, x_iret)]
theorem o78_0 (scr : Nat × (Nat → Int32)) : ∀ q ∈ k78_0, XSnd xm scr Y78 q.1 q.2 := xcons (s_iload_n rfl dX7_feed_0) (xcons (s_iflt dX7_feed_1 rfl) (xcons (s_iload_n rfl dX7_feed_4) (xcons (s_sipush dX7_feed_5 rfl) (xcons (s_icle dX7_feed_8 rfl) (xcons (s_iconst dX7_feed_11 rfl) (xcons (s_iret dX7_feed_12 rfl) (xcons (s_aload_n rfl dX7_feed_13) (xcons (s_getR (f := 4) xC7 (by decide) xw_363 rfl dX7_feed_14) (xcons (s_getR (f := 0) xC4 (by decide) xw_364 rfl dX7_feed_17) (xcons (s_iload_n rfl dX7_feed_20) (xcons (s_inv (mid := 5) xC2 cal_5 xw_385 xw_44 xw_45 dX7_feed_21) (xcons (s_ifeq dX7_feed_24 rfl) (xcons (s_aload_n rfl dX7_feed_27) (xcons (s_getR (f := 4) xC7 (by decide) xw_363 rfl dX7_feed_28) (xcons (s_getR (f := 0) xC4 (by decide) xw_364 rfl dX7_feed_31) (xcons (s_getI (f := 1) xC2 (by decide) xw_365 rfl dX7_feed_34) (xcons (s_goto dX7_feed_37 rfl) (xcons (s_bipush dX7_feed_40 rfl) (xcons (s_iret dX7_feed_42 rfl) (xnil))))))))))))))))))))
def k78 (pc : Nat) : XI := xlk k78_0 pc
theorem o78 (scr : Nat × (Nat → Int32)) (pc : Nat) : XSnd xm scr Y78 pc (k78 pc) := by
  unfold k78
  exact xlk_ok (o78_0 scr) pc
theorem dX7_first_0 : decode cX7_first 0 = .ok (.aload_n 0, 1) := by decide +kernel
theorem dX7_first_1 : decode cX7_first 1 = .ok (.getfield 16, 3) := by decide +kernel
theorem dX7_first_4 : decode cX7_first 4 = .ok (.aload_n 0, 1) := by decide +kernel
theorem dX7_first_5 : decode cX7_first 5 = .ok (.getfield 10, 3) := by decide +kernel
theorem dX7_first_8 : decode cX7_first 8 = .ok (.invokevirtual 172, 3) := by decide +kernel
theorem dX7_first_11 : decode cX7_first 11 = .ok (.aload_n 0, 1) := by decide +kernel
theorem dX7_first_12 : decode cX7_first 12 = .ok (.getfield 16, 3) := by decide +kernel
theorem dX7_first_15 : decode cX7_first 15 = .ok (.iconst 0, 1) := by decide +kernel
theorem dX7_first_16 : decode cX7_first 16 = .ok (.putfield 186, 3) := by decide +kernel
theorem dX7_first_19 : decode cX7_first 19 = .ok (.iconst 1, 1) := by decide +kernel
theorem dX7_first_20 : decode cX7_first 20 = .ok (.istore_n 1, 1) := by decide +kernel
theorem dX7_first_21 : decode cX7_first 21 = .ok (.iload_n 1, 1) := by decide +kernel
theorem dX7_first_22 : decode cX7_first 22 = .ok (.sipush 200, 3) := by decide +kernel
theorem dX7_first_25 : decode cX7_first 25 = .ok (.if_icmp .gt 34, 3) := by decide +kernel
theorem dX7_first_28 : decode cX7_first 28 = .ok (.aload_n 0, 1) := by decide +kernel
theorem dX7_first_29 : decode cX7_first 29 = .ok (.getfield 16, 3) := by decide +kernel
theorem dX7_first_32 : decode cX7_first 32 = .ok (.invokevirtual 189, 3) := by decide +kernel
theorem dX7_first_35 : decode cX7_first 35 = .ok (.ifCond .ne 6, 3) := by decide +kernel
theorem dX7_first_38 : decode cX7_first 38 = .ok (.bipush (-2), 2) := by decide +kernel
theorem dX7_first_40 : decode cX7_first 40 = .ok (.ireturn, 1) := by decide +kernel
def k79_0 : List (Nat × XI) := [(0, x_aload 0 1), (1, x_getR 7 1 4), (4, x_aload 0 5), (5, x_getR 7 0 8), (8, x_inv 42 6 1 11), (11, x_aload 0 12), (12, x_getR 7 1 15), (15, x_push (0) 16), (16, x_putZ 6 11 19), (19, x_push (1) 20), (20, x_istore 1 21), (21, x_iload 1 22), (22, x_push (200) 25), (25, x_icgt 59 28), (28, x_aload 0 29), (29, x_getR 7 1 32), (32, x_inv 65 6 0 35), (35, x_ifne 41 38), (38, x_push (-2) 40), (40, x_iret)]
theorem o79_0 (scr : Nat × (Nat → Int32)) : ∀ q ∈ k79_0, XSnd xm scr Y79 q.1 q.2 := xcons (s_aload_n rfl dX7_first_0) (xcons (s_getR (f := 1) xC7 (by decide) xw_338 rfl dX7_first_1) (xcons (s_aload_n rfl dX7_first_4) (xcons (s_getR (f := 0) xC7 (by decide) xw_320 rfl dX7_first_5) (xcons (s_inv (mid := 42) xC6 cal_42 xw_328 xw_329 xw_330 dX7_first_8) (xcons (s_aload_n rfl dX7_first_11) (xcons (s_getR (f := 1) xC7 (by decide) xw_338 rfl dX7_first_12) (xcons (s_iconst dX7_first_15 rfl) (xcons (s_putZ (f := 11) xC6 (by decide) xw_386 rfl (Or.inl rfl) dX7_first_16) (xcons (s_iconst dX7_first_19 rfl) (xcons (s_istore_n rfl dX7_first_20 (by decide)) (xcons (s_iload_n rfl dX7_first_21) (xcons (s_sipush dX7_first_22 rfl) (xcons (s_icgt dX7_first_25 rfl) (xcons (s_aload_n rfl dX7_first_28) (xcons (s_getR (f := 1) xC7 (by decide) xw_338 rfl dX7_first_29) (xcons (s_inv (mid := 65) xC6 cal_65 xw_387 xw_284 xw_285 dX7_first_32) (xcons (s_ifne dX7_first_35 rfl) (xcons (s_bipush dX7_first_38 rfl) (xcons (s_iret dX7_first_40 rfl) (xnil))))))))))))))))))))
theorem dX7_first_41 : decode cX7_first 41 = .ok (.aload_n 0, 1) := by decide +kernel
theorem dX7_first_42 : decode cX7_first 42 = .ok (.getfield 16, 3) := by decide +kernel
theorem dX7_first_45 : decode cX7_first 45 = .ok (.getfield 186, 3) := by decide +kernel
theorem dX7_first_48 : decode cX7_first 48 = .ok (.ifCond .eq 5, 3) := by decide +kernel
theorem dX7_first_51 : decode cX7_first 51 = .ok (.iload_n 1, 1) := by decide +kernel
theorem dX7_first_52 : decode cX7_first 52 = .ok (.ireturn, 1) := by decide +kernel
theorem dX7_first_53 : decode cX7_first 53 = .ok (.iinc 1 1, 3) := by decide +kernel
theorem dX7_first_56 : decode cX7_first 56 = .ok (.goto (-35), 3) := by decide +kernel
theorem dX7_first_59 : decode cX7_first 59 = .ok (.bipush (-2), 2) := by decide +kernel
theorem dX7_first_61 : decode cX7_first 61 = .ok (.ireturn, 1) := by decide +kernel
def k79_1 : List (Nat × XI) := [(41, x_aload 0 42), (42, x_getR 7 1 45), (45, x_getI 6 11 48), (48, x_ifeq 53 51), (51, x_iload 1 52), (52, x_iret), (53, x_iinc 1 (1) 56), (56, x_goto 21), (59, x_push (-2) 61), (61, x_iret)]
theorem o79_1 (scr : Nat × (Nat → Int32)) : ∀ q ∈ k79_1, XSnd xm scr Y79 q.1 q.2 := xcons (s_aload_n rfl dX7_first_41) (xcons (s_getR (f := 1) xC7 (by decide) xw_338 rfl dX7_first_42) (xcons (s_getI (f := 11) xC6 (by decide) xw_386 rfl dX7_first_45) (xcons (s_ifeq dX7_first_48 rfl) (xcons (s_iload_n rfl dX7_first_51) (xcons (s_iret dX7_first_52 rfl) (xcons (s_iinc dX7_first_53 rfl (by decide)) (xcons (s_goto dX7_first_56 rfl) (xcons (s_bipush dX7_first_59 rfl) (xcons (s_iret dX7_first_61 rfl) (xnil))))))))))
def k79 (pc : Nat) : XI := if pc < 41 then xlk k79_0 pc else xlk k79_1 pc
theorem o79 (scr : Nat × (Nat → Int32)) (pc : Nat) : XSnd xm scr Y79 pc (k79 pc) := by
  unfold k79
  exact xite (xlk_ok (o79_0 scr) pc) (xlk_ok (o79_1 scr) pc)
theorem dX7_firstOtherwise_0 : decode cX7_firstOtherwise 0 = .ok (.aload_n 0, 1) := by decide +kernel
theorem dX7_firstOtherwise_1 : decode cX7_firstOtherwise 1 = .ok (.getfield 16, 3) := by decide +kernel
theorem dX7_firstOtherwise_4 : decode cX7_firstOtherwise 4 = .ok (.aload_n 0, 1) := by decide +kernel
theorem dX7_firstOtherwise_5 : decode cX7_firstOtherwise 5 = .ok (.getfield 10, 3) := by decide +kernel
theorem dX7_firstOtherwise_8 : decode cX7_firstOtherwise 8 = .ok (.invokevirtual 172, 3) := by decide +kernel
theorem dX7_firstOtherwise_11 : decode cX7_firstOtherwise 11 = .ok (.iconst 0, 1) := by decide +kernel
theorem dX7_firstOtherwise_12 : decode cX7_firstOtherwise 12 = .ok (.istore_n 3, 1) := by decide +kernel
theorem dX7_firstOtherwise_13 : decode cX7_firstOtherwise 13 = .ok (.iconst 0, 1) := by decide +kernel
theorem dX7_firstOtherwise_14 : decode cX7_firstOtherwise 14 = .ok (.istore 4, 2) := by decide +kernel
theorem dX7_firstOtherwise_16 : decode cX7_firstOtherwise 16 = .ok (.iload 4, 2) := by decide +kernel
theorem dX7_firstOtherwise_18 : decode cX7_firstOtherwise 18 = .ok (.sipush 200, 3) := by decide +kernel
theorem dX7_firstOtherwise_21 : decode cX7_firstOtherwise 21 = .ok (.if_icmp .ge 112, 3) := by decide +kernel
theorem dX7_firstOtherwise_24 : decode cX7_firstOtherwise 24 = .ok (.iload_n 3, 1) := by decide +kernel
theorem dX7_firstOtherwise_25 : decode cX7_firstOtherwise 25 = .ok (.iload_n 2, 1) := by decide +kernel
theorem dX7_firstOtherwise_26 : decode cX7_firstOtherwise 26 = .ok (.if_icmp .ge 107, 3) := by decide +kernel
theorem dX7_firstOtherwise_29 : decode cX7_firstOtherwise 29 = .ok (.aload_n 0, 1) := by decide +kernel
theorem dX7_firstOtherwise_30 : decode cX7_firstOtherwise 30 = .ok (.getfield 16, 3) := by decide +kernel
theorem dX7_firstOtherwise_33 : decode cX7_firstOtherwise 33 = .ok (.getfield 183, 3) := by decide +kernel
theorem dX7_firstOtherwise_36 : decode cX7_firstOtherwise 36 = .ok (.istore 5, 2) := by decide +kernel
theorem dX7_firstOtherwise_38 : decode cX7_firstOtherwise 38 = .ok (.aload_n 0, 1) := by decide +kernel
def k80_0 : List (Nat × XI) := [(0, x_aload 0 1), (1, x_getR 7 1 4), (4, x_aload 0 5), (5, x_getR 7 0 8), (8, x_inv 42 6 1 11), (11, x_push (0) 12), (12, x_istore 3 13), (13, x_push (0) 14), (14, x_istore 4 16), (16, x_iload 4 18), (18, x_push (200) 21), (21, x_icge 133 24), (24, x_iload 3 25), (25, x_iload 2 26), (26, x_icge 133 29), (29, x_aload 0 30), (30, x_getR 7 1 33), (33, x_getI 6 7 36), (36, x_istore 5 38), (38, x_aload 0 39)]
theorem o80_0 (scr : Nat × (Nat → Int32)) : ∀ q ∈ k80_0, XSnd xm scr Y80 q.1 q.2 := xcons (s_aload_n rfl dX7_firstOtherwise_0) (xcons (s_getR (f := 1) xC7 (by decide) xw_338 rfl dX7_firstOtherwise_1) (xcons (s_aload_n rfl dX7_firstOtherwise_4) (xcons (s_getR (f := 0) xC7 (by decide) xw_320 rfl dX7_firstOtherwise_5) (xcons (s_inv (mid := 42) xC6 cal_42 xw_328 xw_329 xw_330 dX7_firstOtherwise_8) (xcons (s_iconst dX7_firstOtherwise_11 rfl) (xcons (s_istore_n rfl dX7_firstOtherwise_12 (by decide)) (xcons (s_iconst dX7_firstOtherwise_13 rfl) (xcons (s_istore dX7_firstOtherwise_14 (by decide)) (xcons (s_iload dX7_firstOtherwise_16) (xcons (s_sipush dX7_firstOtherwise_18 rfl) (xcons (s_icge dX7_firstOtherwise_21 rfl) (xcons (s_iload_n rfl dX7_firstOtherwise_24) (xcons (s_iload_n rfl dX7_firstOtherwise_25) (xcons (s_icge dX7_firstOtherwise_26 rfl) (xcons (s_aload_n rfl dX7_firstOtherwise_29) (xcons (s_getR (f := 1) xC7 (by decide) xw_338 rfl dX7_firstOtherwise_30) (xcons (s_getI (f := 7) xC6 (by decide) xw_360 rfl dX7_firstOtherwise_33) (xcons (s_istore dX7_firstOtherwise_36 (by decide)) (xcons (s_aload_n rfl dX7_firstOtherwise_38) (xnil))))))))))))))))))))
theorem dX7_firstOtherwise_39 : decode cX7_firstOtherwise 39 = .ok (.getfield 16, 3) := by decide +kernel
theorem dX7_firstOtherwise_42 : decode cX7_firstOtherwise 42 = .ok (.invokevirtual 189, 3) := by decide +kernel
theorem dX7_firstOtherwise_45 : decode cX7_firstOtherwise 45 = .ok (.ifCond .ne 5, 3) := by decide +kernel
theorem dX7_firstOtherwise_48 : decode cX7_firstOtherwise 48 = .ok (.iload_n 3, 1) := by decide +kernel
theorem dX7_firstOtherwise_49 : decode cX7_firstOtherwise 49 = .ok (.ireturn, 1) := by decide +kernel
theorem dX7_firstOtherwise_50 : decode cX7_firstOtherwise 50 = .ok (.aload_n 0, 1) := by decide +kernel
theorem dX7_firstOtherwise_51 : decode cX7_firstOtherwise 51 = .ok (.getfield 16, 3) := by decide +kernel
theorem dX7_firstOtherwise_54 : decode cX7_firstOtherwise 54 = .ok (.getfield 183, 3) := by decide +kernel
theorem dX7_firstOtherwise_57 : decode cX7_firstOtherwise 57 = .ok (.iload 5, 2) := by decide +kernel
theorem dX7_firstOtherwise_59 : decode cX7_firstOtherwise 59 = .ok (.if_icmp .eq 68, 3) := by decide +kernel
theorem dX7_firstOtherwise_62 : decode cX7_firstOtherwise 62 = .ok (.aload_n 0, 1) := by decide +kernel
theorem dX7_firstOtherwise_63 : decode cX7_firstOtherwise 63 = .ok (.getfield 16, 3) := by decide +kernel
theorem dX7_firstOtherwise_66 : decode cX7_firstOtherwise 66 = .ok (.getfield 166, 3) := by decide +kernel
theorem dX7_firstOtherwise_69 : decode cX7_firstOtherwise 69 = .ok (.getfield 64, 3) := by decide +kernel
theorem dX7_firstOtherwise_72 : decode cX7_firstOtherwise 72 = .ok (.iconst 1, 1) := by decide +kernel
theorem dX7_firstOtherwise_73 : decode cX7_firstOtherwise 73 = .ok (.isub, 1) := by decide +kernel
theorem dX7_firstOtherwise_74 : decode cX7_firstOtherwise 74 = .ok (.istore 6, 2) := by decide +kernel
theorem dX7_firstOtherwise_76 : decode cX7_firstOtherwise 76 = .ok (.aload_n 0, 1) := by decide +kernel
theorem dX7_firstOtherwise_77 : decode cX7_firstOtherwise 77 = .ok (.getfield 16, 3) := by decide +kernel
theorem dX7_firstOtherwise_80 : decode cX7_firstOtherwise 80 = .ok (.getfield 166, 3) := by decide +kernel
def k80_1 : List (Nat × XI) := [(39, x_getR 7 1 42), (42, x_inv 65 6 0 45), (45, x_ifne 50 48), (48, x_iload 3 49), (49, x_iret), (50, x_aload 0 51), (51, x_getR 7 1 54), (54, x_getI 6 7 57), (57, x_iload 5 59), (59, x_iceq 127 62), (62, x_aload 0 63), (63, x_getR 7 1 66), (66, x_getR 6 2 69), (69, x_getI 3 2 72), (72, x_push (1) 73), (73, x_isub 74), (74, x_istore 6 76), (76, x_aload 0 77), (77, x_getR 7 1 80), (80, x_getR 6 2 83)]
theorem o80_1 (scr : Nat × (Nat → Int32)) : ∀ q ∈ k80_1, XSnd xm scr Y80 q.1 q.2 := xcons (s_getR (f := 1) xC7 (by decide) xw_338 rfl dX7_firstOtherwise_39) (xcons (s_inv (mid := 65) xC6 cal_65 xw_387 xw_284 xw_285 dX7_firstOtherwise_42) (xcons (s_ifne dX7_firstOtherwise_45 rfl) (xcons (s_iload_n rfl dX7_firstOtherwise_48) (xcons (s_iret dX7_firstOtherwise_49 rfl) (xcons (s_aload_n rfl dX7_firstOtherwise_50) (xcons (s_getR (f := 1) xC7 (by decide) xw_338 rfl dX7_firstOtherwise_51) (xcons (s_getI (f := 7) xC6 (by decide) xw_360 rfl dX7_firstOtherwise_54) (xcons (s_iload dX7_firstOtherwise_57) (xcons (s_iceq dX7_firstOtherwise_59 rfl) (xcons (s_aload_n rfl dX7_firstOtherwise_62) (xcons (s_getR (f := 1) xC7 (by decide) xw_338 rfl dX7_firstOtherwise_63) (xcons (s_getR (f := 2) xC6 (by decide) xw_362 rfl dX7_firstOtherwise_66) (xcons (s_getI (f := 2) xC3 (by decide) xw_346 rfl dX7_firstOtherwise_69) (xcons (s_iconst dX7_firstOtherwise_72 rfl) (xcons (s_isub dX7_firstOtherwise_73) (xcons (s_istore dX7_firstOtherwise_74 (by decide)) (xcons (s_aload_n rfl dX7_firstOtherwise_76) (xcons (s_getR (f := 1) xC7 (by decide) xw_338 rfl dX7_firstOtherwise_77) (xcons (s_getR (f := 2) xC6 (by decide) xw_362 rfl dX7_firstOtherwise_80) (xnil))))))))))))))))))))
theorem dX7_firstOtherwise_83 : decode cX7_firstOtherwise 83 = .ok (.iload 6, 2) := by decide +kernel
theorem dX7_firstOtherwise_85 : decode cX7_firstOtherwise 85 = .ok (.invokevirtual 134, 3) := by decide +kernel
theorem dX7_firstOtherwise_88 : decode cX7_firstOtherwise 88 = .ok (.aload_n 1, 1) := by decide +kernel
theorem dX7_firstOtherwise_89 : decode cX7_firstOtherwise 89 = .ok (.iconst 2, 1) := by decide +kernel
theorem dX7_firstOtherwise_90 : decode cX7_firstOtherwise 90 = .ok (.iload_n 3, 1) := by decide +kernel
theorem dX7_firstOtherwise_91 : decode cX7_firstOtherwise 91 = .ok (.imul, 1) := by decide +kernel
theorem dX7_firstOtherwise_92 : decode cX7_firstOtherwise 92 = .ok (.invokevirtual 96, 3) := by decide +kernel
theorem dX7_firstOtherwise_95 : decode cX7_firstOtherwise 95 = .ok (.if_icmp .ne 27, 3) := by decide +kernel
theorem dX7_firstOtherwise_98 : decode cX7_firstOtherwise 98 = .ok (.aload_n 0, 1) := by decide +kernel
theorem dX7_firstOtherwise_99 : decode cX7_firstOtherwise 99 = .ok (.getfield 16, 3) := by decide +kernel
theorem dX7_firstOtherwise_102 : decode cX7_firstOtherwise 102 = .ok (.getfield 166, 3) := by decide +kernel
theorem dX7_firstOtherwise_105 : decode cX7_firstOtherwise 105 = .ok (.iload 6, 2) := by decide +kernel
theorem dX7_firstOtherwise_107 : decode cX7_firstOtherwise 107 = .ok (.invokevirtual 131, 3) := by decide +kernel
theorem dX7_firstOtherwise_110 : decode cX7_firstOtherwise 110 = .ok (.aload_n 1, 1) := by decide +kernel
theorem dX7_firstOtherwise_111 : decode cX7_firstOtherwise 111 = .ok (.iconst 2, 1) := by decide +kernel
theorem dX7_firstOtherwise_112 : decode cX7_firstOtherwise 112 = .ok (.iload_n 3, 1) := by decide +kernel
theorem dX7_firstOtherwise_113 : decode cX7_firstOtherwise 113 = .ok (.imul, 1) := by decide +kernel
theorem dX7_firstOtherwise_114 : decode cX7_firstOtherwise 114 = .ok (.iconst 1, 1) := by decide +kernel
theorem dX7_firstOtherwise_115 : decode cX7_firstOtherwise 115 = .ok (.iadd, 1) := by decide +kernel
theorem dX7_firstOtherwise_116 : decode cX7_firstOtherwise 116 = .ok (.invokevirtual 96, 3) := by decide +kernel
def k80_2 : List (Nat × XI) := [(83, x_iload 6 85), (85, x_inv 18 3 1 88), (88, x_aload 1 89), (89, x_push (2) 90), (90, x_iload 3 91), (91, x_imul 92), (92, x_inv 6 2 1 95), (95, x_icne 122 98), (98, x_aload 0 99), (99, x_getR 7 1 102), (102, x_getR 6 2 105), (105, x_iload 6 107), (107, x_inv 22 3 1 110), (110, x_aload 1 111), (111, x_push (2) 112), (112, x_iload 3 113), (113, x_imul 114), (114, x_push (1) 115), (115, x_iadd 116), (116, x_inv 6 2 1 119)]
theorem o80_2 (scr : Nat × (Nat → Int32)) : ∀ q ∈ k80_2, XSnd xm scr Y80 q.1 q.2 := xcons (s_iload dX7_firstOtherwise_83) (xcons (s_inv (mid := 18) xC3 cal_18 xw_347 xw_293 xw_294 dX7_firstOtherwise_85) (xcons (s_aload_n rfl dX7_firstOtherwise_88) (xcons (s_iconst dX7_firstOtherwise_89 rfl) (xcons (s_iload_n rfl dX7_firstOtherwise_90) (xcons (s_imul dX7_firstOtherwise_91) (xcons (s_inv (mid := 6) xC2 cal_6 xw_371 xw_93 xw_94 dX7_firstOtherwise_92) (xcons (s_icne dX7_firstOtherwise_95 rfl) (xcons (s_aload_n rfl dX7_firstOtherwise_98) (xcons (s_getR (f := 1) xC7 (by decide) xw_338 rfl dX7_firstOtherwise_99) (xcons (s_getR (f := 2) xC6 (by decide) xw_362 rfl dX7_firstOtherwise_102) (xcons (s_iload dX7_firstOtherwise_105) (xcons (s_inv (mid := 22) xC3 cal_22 xw_348 xw_297 xw_298 dX7_firstOtherwise_107) (xcons (s_aload_n rfl dX7_firstOtherwise_110) (xcons (s_iconst dX7_firstOtherwise_111 rfl) (xcons (s_iload_n rfl dX7_firstOtherwise_112) (xcons (s_imul dX7_firstOtherwise_113) (xcons (s_iconst dX7_firstOtherwise_114 rfl) (xcons (s_iadd dX7_firstOtherwise_115) (xcons (s_inv (mid := 6) xC2 cal_6 xw_371 xw_93 xw_94 dX7_firstOtherwise_116) (xnil))))))))))))))))))))
theorem dX7_firstOtherwise_119 : decode cX7_firstOtherwise 119 = .ok (.if_icmp .eq 5, 3) := by decide +kernel
theorem dX7_firstOtherwise_122 : decode cX7_firstOtherwise 122 = .ok (.iload_n 3, 1) := by decide +kernel
theorem dX7_firstOtherwise_123 : decode cX7_firstOtherwise 123 = .ok (.ireturn, 1) := by decide +kernel
theorem dX7_firstOtherwise_124 : decode cX7_firstOtherwise 124 = .ok (.iinc 3 1, 3) := by decide +kernel
theorem dX7_firstOtherwise_127 : decode cX7_firstOtherwise 127 = .ok (.iinc 4 1, 3) := by decide +kernel
theorem dX7_firstOtherwise_130 : decode cX7_firstOtherwise 130 = .ok (.goto (-114), 3) := by decide +kernel
theorem dX7_firstOtherwise_133 : decode cX7_firstOtherwise 133 = .ok (.iload_n 3, 1) := by decide +kernel
theorem dX7_firstOtherwise_134 : decode cX7_firstOtherwise 134 = .ok (.iload_n 2, 1) := by decide +kernel
theorem dX7_firstOtherwise_135 : decode cX7_firstOtherwise 135 = .ok (.if_icmp .ge 7, 3) := by decide +kernel
theorem dX7_firstOtherwise_138 : decode cX7_firstOtherwise 138 = .ok (.iload_n 3, 1) := by decide +kernel
theorem dX7_firstOtherwise_139 : decode cX7_firstOtherwise 139 = .ok (.goto 5, 3) := by decide +kernel
theorem dX7_firstOtherwise_142 : decode cX7_firstOtherwise 142 = .ok (.bipush (-2), 2) := by decide +kernel
theorem dX7_firstOtherwise_144 : decode cX7_firstOtherwise 144 = .ok (.ireturn, 1) := by decide +kernel
def k80_3 : List (Nat × XI) := [(119, x_iceq 124 122), (122, x_iload 3 123), (123, x_iret), (124, x_iinc 3 (1) 127), (127, x_iinc 4 (1) 130), (130, x_goto 16), (133, x_iload 3 134), (134, x_iload 2 135), (135, x_icge 142 138), (138, x_iload 3 139), (139, x_goto 144), (142, x_push (-2) 144), (144, x_iret)]
theorem o80_3 (scr : Nat × (Nat → Int32)) : ∀ q ∈ k80_3, XSnd xm scr Y80 q.1 q.2 := xcons (s_iceq dX7_firstOtherwise_119 rfl) (xcons (s_iload_n rfl dX7_firstOtherwise_122) (xcons (s_iret dX7_firstOtherwise_123 rfl) (xcons (s_iinc dX7_firstOtherwise_124 rfl (by decide)) (xcons (s_iinc dX7_firstOtherwise_127 rfl (by decide)) (xcons (s_goto dX7_firstOtherwise_130 rfl) (xcons (s_iload_n rfl dX7_firstOtherwise_133) (xcons (s_iload_n rfl dX7_firstOtherwise_134) (xcons (s_icge dX7_firstOtherwise_135 rfl) (xcons (s_iload_n rfl dX7_firstOtherwise_138) (xcons (s_goto dX7_firstOtherwise_139 rfl) (xcons (s_bipush dX7_firstOtherwise_142 rfl) (xcons (s_iret dX7_firstOtherwise_144 rfl) (xnil)))))))))))))
def k80 (pc : Nat) : XI := if pc < 83 then if pc < 39 then xlk k80_0 pc else xlk k80_1 pc else if pc < 119 then xlk k80_2 pc else xlk k80_3 pc
theorem o80 (scr : Nat × (Nat → Int32)) (pc : Nat) : XSnd xm scr Y80 pc (k80 pc) := by
  unfold k80
  exact xite (xite (xlk_ok (o80_0 scr) pc) (xlk_ok (o80_1 scr) pc)) (xite (xlk_ok (o80_2 scr) pc) (xlk_ok (o80_3 scr) pc))
theorem dX7_hold_0 : decode cX7_hold 0 = .ok (.iload_n 1, 1) := by decide +kernel
theorem dX7_hold_1 : decode cX7_hold 1 = .ok (.invokestatic 232, 3) := by decide +kernel
theorem dX7_hold_4 : decode cX7_hold 4 = .ok (.ifCond .eq 19, 3) := by decide +kernel
theorem dX7_hold_7 : decode cX7_hold 7 = .ok (.iload_n 2, 1) := by decide +kernel
theorem dX7_hold_8 : decode cX7_hold 8 = .ok (.iconst (-1), 1) := by decide +kernel
theorem dX7_hold_9 : decode cX7_hold 9 = .ok (.if_icmp .eq 16, 3) := by decide +kernel
theorem dX7_hold_12 : decode cX7_hold 12 = .ok (.aload_n 0, 1) := by decide +kernel
theorem dX7_hold_13 : decode cX7_hold 13 = .ok (.getfield 10, 3) := by decide +kernel
theorem dX7_hold_16 : decode cX7_hold 16 = .ok (.iload_n 2, 1) := by decide +kernel
theorem dX7_hold_17 : decode cX7_hold 17 = .ok (.invokevirtual 43, 3) := by decide +kernel
theorem dX7_hold_20 : decode cX7_hold 20 = .ok (.ifCond .ne 5, 3) := by decide +kernel
theorem dX7_hold_23 : decode cX7_hold 23 = .ok (.iconst (-1), 1) := by decide +kernel
theorem dX7_hold_24 : decode cX7_hold 24 = .ok (.ireturn, 1) := by decide +kernel
theorem dX7_hold_25 : decode cX7_hold 25 = .ok (.aload_n 0, 1) := by decide +kernel
theorem dX7_hold_26 : decode cX7_hold 26 = .ok (.getfield 34, 3) := by decide +kernel
theorem dX7_hold_29 : decode cX7_hold 29 = .ok (.iload_n 1, 1) := by decide +kernel
theorem dX7_hold_30 : decode cX7_hold 30 = .ok (.aaload, 1) := by decide +kernel
theorem dX7_hold_31 : decode cX7_hold 31 = .ok (.iload_n 2, 1) := by decide +kernel
theorem dX7_hold_32 : decode cX7_hold 32 = .ok (.iconst (-1), 1) := by decide +kernel
theorem dX7_hold_33 : decode cX7_hold 33 = .ok (.if_icmp .ne 7, 3) := by decide +kernel
def k81_0 : List (Nat × XI) := [(0, x_iload 1 1), (1, x_invS 84 1 4), (4, x_ifeq 23 7), (7, x_iload 2 8), (8, x_push (-1) 9), (9, x_iceq 25 12), (12, x_aload 0 13), (13, x_getR 7 0 16), (16, x_iload 2 17), (17, x_inv 53 6 1 20), (20, x_ifne 25 23), (23, x_push (-1) 24), (24, x_iret), (25, x_aload 0 26), (26, x_getR 7 5 29), (29, x_iload 1 30), (30, x_aald 31), (31, x_iload 2 32), (32, x_push (-1) 33), (33, x_icne 40 36)]
theorem o81_0 (scr : Nat × (Nat → Int32)) : ∀ q ∈ k81_0, XSnd xm scr Y81 q.1 q.2 := xcons (s_iload_n rfl dX7_hold_0) (xcons (s_invS (mid := 84) cal_84 xw_389 xw_390 dX7_hold_1) (xcons (s_ifeq dX7_hold_4 rfl) (xcons (s_iload_n rfl dX7_hold_7) (xcons (s_iconst dX7_hold_8 rfl) (xcons (s_iceq dX7_hold_9 rfl) (xcons (s_aload_n rfl dX7_hold_12) (xcons (s_getR (f := 0) xC7 (by decide) xw_320 rfl dX7_hold_13) (xcons (s_iload_n rfl dX7_hold_16) (xcons (s_inv (mid := 53) xC6 cal_53 xw_334 xw_131 xw_132 dX7_hold_17) (xcons (s_ifne dX7_hold_20 rfl) (xcons (s_iconst dX7_hold_23 rfl) (xcons (s_iret dX7_hold_24 rfl) (xcons (s_aload_n rfl dX7_hold_25) (xcons (s_getR (f := 5) xC7 (by decide) xw_331 rfl dX7_hold_26) (xcons (s_iload_n rfl dX7_hold_29) (xcons (s_aald dX7_hold_30) (xcons (s_iload_n rfl dX7_hold_31) (xcons (s_iconst dX7_hold_32 rfl) (xcons (s_icne dX7_hold_33 rfl) (xnil))))))))))))))))))))
theorem dX7_hold_36 : decode cX7_hold 36 = .ok (.iconst 0, 1) := by decide +kernel
theorem dX7_hold_37 : decode cX7_hold 37 = .ok (.goto 4, 3) := by decide +kernel
theorem dX7_hold_40 : decode cX7_hold 40 = .ok (.iconst 1, 1) := by decide +kernel
theorem dX7_hold_41 : decode cX7_hold 41 = .ok (.putfield 235, 3) := by decide +kernel
theorem dX7_hold_44 : decode cX7_hold 44 = .ok (.aload_n 0, 1) := by decide +kernel
theorem dX7_hold_45 : decode cX7_hold 45 = .ok (.getfield 34, 3) := by decide +kernel
theorem dX7_hold_48 : decode cX7_hold 48 = .ok (.iload_n 1, 1) := by decide +kernel
theorem dX7_hold_49 : decode cX7_hold 49 = .ok (.aaload, 1) := by decide +kernel
theorem dX7_hold_50 : decode cX7_hold 50 = .ok (.iload_n 2, 1) := by decide +kernel
theorem dX7_hold_51 : decode cX7_hold 51 = .ok (.putfield 247, 3) := by decide +kernel
theorem dX7_hold_54 : decode cX7_hold 54 = .ok (.iconst 1, 1) := by decide +kernel
theorem dX7_hold_55 : decode cX7_hold 55 = .ok (.ireturn, 1) := by decide +kernel
def k81_1 : List (Nat × XI) := [(36, x_push (0) 37), (37, x_goto 41), (40, x_push (1) 41), (41, x_putI 1 1 44), (44, x_aload 0 45), (45, x_getR 7 5 48), (48, x_iload 1 49), (49, x_aald 50), (50, x_iload 2 51), (51, x_putI 1 2 54), (54, x_push (1) 55), (55, x_iret)]
theorem o81_1 (scr : Nat × (Nat → Int32)) : ∀ q ∈ k81_1, XSnd xm scr Y81 q.1 q.2 := xcons (s_iconst dX7_hold_36 rfl) (xcons (s_goto dX7_hold_37 rfl) (xcons (s_iconst dX7_hold_40 rfl) (xcons (s_putI (f := 1) xC1 (by decide) xw_332 rfl (Or.inl rfl) dX7_hold_41) (xcons (s_aload_n rfl dX7_hold_44) (xcons (s_getR (f := 5) xC7 (by decide) xw_331 rfl dX7_hold_45) (xcons (s_iload_n rfl dX7_hold_48) (xcons (s_aald dX7_hold_49) (xcons (s_iload_n rfl dX7_hold_50) (xcons (s_putI (f := 2) xC1 (by decide) xw_333 rfl (Or.inl rfl) dX7_hold_51) (xcons (s_iconst dX7_hold_54 rfl) (xcons (s_iret dX7_hold_55 rfl) (xnil))))))))))))
def k81 (pc : Nat) : XI := if pc < 36 then xlk k81_0 pc else xlk k81_1 pc
theorem o81 (scr : Nat × (Nat → Int32)) (pc : Nat) : XSnd xm scr Y81 pc (k81 pc) := by
  unfold k81
  exact xite (xlk_ok (o81_0 scr) pc) (xlk_ok (o81_1 scr) pc)
theorem dX7_image_0 : decode cX7_image 0 = .ok (.aload_n 0, 1) := by decide +kernel
theorem dX7_image_1 : decode cX7_image 1 = .ok (.getfield 19, 3) := by decide +kernel
theorem dX7_image_4 : decode cX7_image 4 = .ok (.aload_n 0, 1) := by decide +kernel
theorem dX7_image_5 : decode cX7_image 5 = .ok (.getfield 10, 3) := by decide +kernel
theorem dX7_image_8 : decode cX7_image 8 = .ok (.invokevirtual 172, 3) := by decide +kernel
theorem dX7_image_11 : decode cX7_image 11 = .ok (.aload_n 0, 1) := by decide +kernel
theorem dX7_image_12 : decode cX7_image 12 = .ok (.iconst 1, 1) := by decide +kernel
theorem dX7_image_13 : decode cX7_image 13 = .ok (.putfield 244, 3) := by decide +kernel
theorem dX7_image_16 : decode cX7_image 16 = .ok (.aload_n 0, 1) := by decide +kernel
theorem dX7_image_17 : decode cX7_image 17 = .ok (.getfield 19, 3) := by decide +kernel
theorem dX7_image_20 : decode cX7_image 20 = .ok (.getfield 225, 3) := by decide +kernel
theorem dX7_image_23 : decode cX7_image 23 = .ok (.ireturn, 1) := by decide +kernel
def k82_0 : List (Nat × XI) := [(0, x_aload 0 1), (1, x_getR 7 2 4), (4, x_aload 0 5), (5, x_getR 7 0 8), (8, x_inv 42 6 1 11), (11, x_aload 0 12), (12, x_push (1) 13), (13, x_putZ 7 6 16), (16, x_aload 0 17), (17, x_getR 7 2 20), (20, x_getI 6 4 23), (23, x_iret)]
theorem o82_0 (scr : Nat × (Nat → Int32)) : ∀ q ∈ k82_0, XSnd xm scr Y82 q.1 q.2 := xcons (s_aload_n rfl dX7_image_0) (xcons (s_getR (f := 2) xC7 (by decide) xw_326 rfl dX7_image_1) (xcons (s_aload_n rfl dX7_image_4) (xcons (s_getR (f := 0) xC7 (by decide) xw_320 rfl dX7_image_5) (xcons (s_inv (mid := 42) xC6 cal_42 xw_328 xw_329 xw_330 dX7_image_8) (xcons (s_aload_n rfl dX7_image_11) (xcons (s_iconst dX7_image_12 rfl) (xcons (s_putZ (f := 6) xC7 (by decide) xw_325 rfl (Or.inl rfl) dX7_image_13) (xcons (s_aload_n rfl dX7_image_16) (xcons (s_getR (f := 2) xC7 (by decide) xw_326 rfl dX7_image_17) (xcons (s_getI (f := 4) xC6 (by decide) xw_335 rfl dX7_image_20) (xcons (s_iret dX7_image_23 rfl) (xnil))))))))))))
def k82 (pc : Nat) : XI := xlk k82_0 pc
theorem o82 (scr : Nat × (Nat → Int32)) (pc : Nat) : XSnd xm scr Y82 pc (k82 pc) := by
  unfold k82
  exact xlk_ok (o82_0 scr) pc
theorem dX7_init_0 : decode cX7_init 0 = .ok (.aload_n 0, 1) := by decide +kernel
theorem dX7_init_1 : decode cX7_init 1 = .ok (.invokespecial 1, 3) := by decide +kernel
theorem dX7_init_4 : decode cX7_init 4 = .ok (.aload_n 0, 1) := by decide +kernel
theorem dX7_init_5 : decode cX7_init 5 = .ok (.new 7, 3) := by decide +kernel
theorem dX7_init_8 : decode cX7_init 8 = .ok (.dup, 1) := by decide +kernel
theorem dX7_init_9 : decode cX7_init 9 = .ok (.invokespecial 9, 3) := by decide +kernel
theorem dX7_init_12 : decode cX7_init 12 = .ok (.putfield 10, 3) := by decide +kernel
theorem dX7_init_15 : decode cX7_init 15 = .ok (.aload_n 0, 1) := by decide +kernel
theorem dX7_init_16 : decode cX7_init 16 = .ok (.new 7, 3) := by decide +kernel
theorem dX7_init_19 : decode cX7_init 19 = .ok (.dup, 1) := by decide +kernel
theorem dX7_init_20 : decode cX7_init 20 = .ok (.invokespecial 9, 3) := by decide +kernel
theorem dX7_init_23 : decode cX7_init 23 = .ok (.putfield 16, 3) := by decide +kernel
theorem dX7_init_26 : decode cX7_init 26 = .ok (.aload_n 0, 1) := by decide +kernel
theorem dX7_init_27 : decode cX7_init 27 = .ok (.new 7, 3) := by decide +kernel
theorem dX7_init_30 : decode cX7_init 30 = .ok (.dup, 1) := by decide +kernel
theorem dX7_init_31 : decode cX7_init 31 = .ok (.invokespecial 9, 3) := by decide +kernel
theorem dX7_init_34 : decode cX7_init 34 = .ok (.putfield 19, 3) := by decide +kernel
theorem dX7_init_37 : decode cX7_init 37 = .ok (.aload_n 0, 1) := by decide +kernel
theorem dX7_init_38 : decode cX7_init 38 = .ok (.new 7, 3) := by decide +kernel
theorem dX7_init_41 : decode cX7_init 41 = .ok (.dup, 1) := by decide +kernel
def k83_0 : List (Nat × XI) := [(0, x_aload 0 1), (1, x_obj 4), (4, x_aload 0 5), (5, x_new 6 8), (8, x_dup 9), (9, x_inv 52 6 0 12), (12, x_putR 7 0 15), (15, x_aload 0 16), (16, x_new 6 19), (19, x_dup 20), (20, x_inv 52 6 0 23), (23, x_putR 7 1 26), (26, x_aload 0 27), (27, x_new 6 30), (30, x_dup 31), (31, x_inv 52 6 0 34), (34, x_putR 7 2 37), (37, x_aload 0 38), (38, x_new 6 41), (41, x_dup 42)]
theorem o83_0 (scr : Nat × (Nat → Int32)) : ∀ q ∈ k83_0, XSnd xm scr Y83 q.1 q.2 := xcons (s_aload_n rfl dX7_init_0) (xcons (s_obj xw_391 xw_30 xw_31 dX7_init_1) (xcons (s_aload_n rfl dX7_init_4) (xcons (s_new xC6 xw_392 xw_393 xw_129 (by decide +kernel) dX7_init_5) (xcons (s_dup dX7_init_8) (xcons (s_init (mid := 52) xC6 cal_52 rfl rfl xw_395 xw_396 dX7_init_9) (xcons (s_putR (f := 0) xC7 (by decide) xw_320 rfl (Or.inr ⟨rfl, rfl, rfl⟩) dX7_init_12) (xcons (s_aload_n rfl dX7_init_15) (xcons (s_new xC6 xw_392 xw_393 xw_129 (by decide +kernel) dX7_init_16) (xcons (s_dup dX7_init_19) (xcons (s_init (mid := 52) xC6 cal_52 rfl rfl xw_395 xw_396 dX7_init_20) (xcons (s_putR (f := 1) xC7 (by decide) xw_338 rfl (Or.inr ⟨rfl, rfl, rfl⟩) dX7_init_23) (xcons (s_aload_n rfl dX7_init_26) (xcons (s_new xC6 xw_392 xw_393 xw_129 (by decide +kernel) dX7_init_27) (xcons (s_dup dX7_init_30) (xcons (s_init (mid := 52) xC6 cal_52 rfl rfl xw_395 xw_396 dX7_init_31) (xcons (s_putR (f := 2) xC7 (by decide) xw_326 rfl (Or.inr ⟨rfl, rfl, rfl⟩) dX7_init_34) (xcons (s_aload_n rfl dX7_init_37) (xcons (s_new xC6 xw_392 xw_393 xw_129 (by decide +kernel) dX7_init_38) (xcons (s_dup dX7_init_41) (xnil))))))))))))))))))))
theorem dX7_init_42 : decode cX7_init 42 = .ok (.invokespecial 9, 3) := by decide +kernel
theorem dX7_init_45 : decode cX7_init 45 = .ok (.putfield 22, 3) := by decide +kernel
theorem dX7_init_48 : decode cX7_init 48 = .ok (.aload_n 0, 1) := by decide +kernel
theorem dX7_init_49 : decode cX7_init 49 = .ok (.new 25, 3) := by decide +kernel
theorem dX7_init_52 : decode cX7_init 52 = .ok (.dup, 1) := by decide +kernel
theorem dX7_init_53 : decode cX7_init 53 = .ok (.invokespecial 27, 3) := by decide +kernel
theorem dX7_init_56 : decode cX7_init 56 = .ok (.putfield 28, 3) := by decide +kernel
theorem dX7_init_59 : decode cX7_init 59 = .ok (.aload_n 0, 1) := by decide +kernel
theorem dX7_init_60 : decode cX7_init 60 = .ok (.bipush 6, 2) := by decide +kernel
theorem dX7_init_62 : decode cX7_init 62 = .ok (.anewarray 32, 3) := by decide +kernel
theorem dX7_init_65 : decode cX7_init 65 = .ok (.putfield 34, 3) := by decide +kernel
theorem dX7_init_68 : decode cX7_init 68 = .ok (.iconst 0, 1) := by decide +kernel
theorem dX7_init_69 : decode cX7_init 69 = .ok (.istore_n 1, 1) := by decide +kernel
theorem dX7_init_70 : decode cX7_init 70 = .ok (.iload_n 1, 1) := by decide +kernel
theorem dX7_init_71 : decode cX7_init 71 = .ok (.aload_n 0, 1) := by decide +kernel
theorem dX7_init_72 : decode cX7_init 72 = .ok (.getfield 34, 3) := by decide +kernel
theorem dX7_init_75 : decode cX7_init 75 = .ok (.arraylength, 1) := by decide +kernel
theorem dX7_init_76 : decode cX7_init 76 = .ok (.if_icmp .ge 22, 3) := by decide +kernel
theorem dX7_init_79 : decode cX7_init 79 = .ok (.aload_n 0, 1) := by decide +kernel
theorem dX7_init_80 : decode cX7_init 80 = .ok (.getfield 34, 3) := by decide +kernel
def k83_1 : List (Nat × XI) := [(42, x_inv 52 6 0 45), (45, x_putR 7 3 48), (48, x_aload 0 49), (49, x_new 4 52), (52, x_dup 53), (53, x_inv 24 4 0 56), (56, x_putR 7 4 59), (59, x_aload 0 60), (60, x_push (6) 62), (62, x_newA 1 65), (65, x_putR 7 5 68), (68, x_push (0) 69), (69, x_istore 1 70), (70, x_iload 1 71), (71, x_aload 0 72), (72, x_getR 7 5 75), (75, x_len 76), (76, x_icge 98 79), (79, x_aload 0 80), (80, x_getR 7 5 83)]
theorem o83_1 (scr : Nat × (Nat → Int32)) : ∀ q ∈ k83_1, XSnd xm scr Y83 q.1 q.2 := xcons (s_init (mid := 52) xC6 cal_52 rfl rfl xw_395 xw_396 dX7_init_42) (xcons (s_putR (f := 3) xC7 (by decide) xw_397 rfl (Or.inr ⟨rfl, rfl, rfl⟩) dX7_init_45) (xcons (s_aload_n rfl dX7_init_48) (xcons (s_new xC4 xw_398 xw_399 xw_82 (by decide +kernel) dX7_init_49) (xcons (s_dup dX7_init_52) (xcons (s_initN (mid := 24) xC4 cal_24 rfl rfl (List.mem_of_getElem? (i := 2) rfl) xw_401 dX7_init_53) (xcons (s_putR (f := 4) xC7 (by decide) xw_363 rfl (Or.inr ⟨rfl, rfl, rfl⟩) dX7_init_56) (xcons (s_aload_n rfl dX7_init_59) (xcons (s_bipush dX7_init_60 rfl) (xcons (s_newA rfl (by decide) xw_402 dX7_init_62) (xcons (s_putR (f := 5) xC7 (by decide) xw_331 rfl (Or.inr ⟨rfl, rfl, rfl⟩) dX7_init_65) (xcons (s_iconst dX7_init_68 rfl) (xcons (s_istore_n rfl dX7_init_69 (by decide)) (xcons (s_iload_n rfl dX7_init_70) (xcons (s_aload_n rfl dX7_init_71) (xcons (s_getR (f := 5) xC7 (by decide) xw_331 rfl dX7_init_72) (xcons (s_len dX7_init_75) (xcons (s_icge dX7_init_76 rfl) (xcons (s_aload_n rfl dX7_init_79) (xcons (s_getR (f := 5) xC7 (by decide) xw_331 rfl dX7_init_80) (xnil))))))))))))))))))))
theorem dX7_init_83 : decode cX7_init 83 = .ok (.iload_n 1, 1) := by decide +kernel
theorem dX7_init_84 : decode cX7_init 84 = .ok (.new 32, 3) := by decide +kernel
theorem dX7_init_87 : decode cX7_init 87 = .ok (.dup, 1) := by decide +kernel
theorem dX7_init_88 : decode cX7_init 88 = .ok (.invokespecial 38, 3) := by decide +kernel
theorem dX7_init_91 : decode cX7_init 91 = .ok (.aastore, 1) := by decide +kernel
theorem dX7_init_92 : decode cX7_init 92 = .ok (.iinc 1 1, 3) := by decide +kernel
theorem dX7_init_95 : decode cX7_init 95 = .ok (.goto (-25), 3) := by decide +kernel
theorem dX7_init_98 : decode cX7_init 98 = .ok (.return_, 1) := by decide +kernel
def k83_2 : List (Nat × XI) := [(83, x_iload 1 84), (84, x_new 1 87), (87, x_dup 88), (88, x_inv 4 1 0 91), (91, x_aast 1 1 92), (92, x_iinc 1 (1) 95), (95, x_goto 70), (98, x_ret)]
theorem o83_2 (scr : Nat × (Nat → Int32)) : ∀ q ∈ k83_2, XSnd xm scr Y83 q.1 q.2 := xcons (s_iload_n rfl dX7_init_83) (xcons (s_new xC1 xw_402 xw_403 xw_404 (by decide +kernel) dX7_init_84) (xcons (s_dup dX7_init_87) (xcons (s_initN (mid := 4) xC1 cal_4 rfl rfl (List.mem_of_getElem? (i := 3) rfl) xw_406 dX7_init_88) (xcons (s_aast xC1 rfl (by decide) dX7_init_91) (xcons (s_iinc dX7_init_92 rfl (by decide)) (xcons (s_goto dX7_init_95 rfl) (xcons (s_ret dX7_init_98 rfl) (xnil))))))))
def k83 (pc : Nat) : XI := if pc < 42 then xlk k83_0 pc else if pc < 83 then xlk k83_1 pc else xlk k83_2 pc
theorem o83 (scr : Nat × (Nat → Int32)) (pc : Nat) : XSnd xm scr Y83 pc (k83 pc) := by
  unfold k83
  exact xite (xlk_ok (o83_0 scr) pc) (xite (xlk_ok (o83_1 scr) pc) (xlk_ok (o83_2 scr) pc))
theorem dX7_isHandle_0 : decode cX7_isHandle 0 = .ok (.iload_n 0, 1) := by decide +kernel
theorem dX7_isHandle_1 : decode cX7_isHandle 1 = .ok (.ifCond .lt 13, 3) := by decide +kernel
theorem dX7_isHandle_4 : decode cX7_isHandle 4 = .ok (.iload_n 0, 1) := by decide +kernel
theorem dX7_isHandle_5 : decode cX7_isHandle 5 = .ok (.bipush 6, 2) := by decide +kernel
theorem dX7_isHandle_7 : decode cX7_isHandle 7 = .ok (.if_icmp .ge 7, 3) := by decide +kernel
theorem dX7_isHandle_10 : decode cX7_isHandle 10 = .ok (.iconst 1, 1) := by decide +kernel
theorem dX7_isHandle_11 : decode cX7_isHandle 11 = .ok (.goto 4, 3) := by decide +kernel
theorem dX7_isHandle_14 : decode cX7_isHandle 14 = .ok (.iconst 0, 1) := by decide +kernel
theorem dX7_isHandle_15 : decode cX7_isHandle 15 = .ok (.ireturn, 1) := by decide +kernel
def k84_0 : List (Nat × XI) := [(0, x_iload 0 1), (1, x_iflt 14 4), (4, x_iload 0 5), (5, x_push (6) 7), (7, x_icge 14 10), (10, x_push (1) 11), (11, x_goto 15), (14, x_push (0) 15), (15, x_zret)]
theorem o84_0 (scr : Nat × (Nat → Int32)) : ∀ q ∈ k84_0, XSnd xm scr Y84 q.1 q.2 := xcons (s_iload_n rfl dX7_isHandle_0) (xcons (s_iflt dX7_isHandle_1 rfl) (xcons (s_iload_n rfl dX7_isHandle_4) (xcons (s_bipush dX7_isHandle_5 rfl) (xcons (s_icge dX7_isHandle_7 rfl) (xcons (s_iconst dX7_isHandle_10 rfl) (xcons (s_goto dX7_isHandle_11 rfl) (xcons (s_iconst dX7_isHandle_14 rfl) (xcons (s_zret dX7_isHandle_15 rfl) (xnil)))))))))
def k84 (pc : Nat) : XI := xlk k84_0 pc
theorem o84 (scr : Nat × (Nat → Int32)) (pc : Nat) : XSnd xm scr Y84 pc (k84 pc) := by
  unfold k84
  exact xlk_ok (o84_0 scr) pc
theorem dX7_isNumber_0 : decode cX7_isNumber 0 = .ok (.iload_n 0, 1) := by decide +kernel
theorem dX7_isNumber_1 : decode cX7_isNumber 1 = .ok (.bipush (-99), 2) := by decide +kernel
theorem dX7_isNumber_3 : decode cX7_isNumber 3 = .ok (.if_icmp .lt 13, 3) := by decide +kernel
theorem dX7_isNumber_6 : decode cX7_isNumber 6 = .ok (.iload_n 0, 1) := by decide +kernel
theorem dX7_isNumber_7 : decode cX7_isNumber 7 = .ok (.bipush 99, 2) := by decide +kernel
theorem dX7_isNumber_9 : decode cX7_isNumber 9 = .ok (.if_icmp .gt 7, 3) := by decide +kernel
theorem dX7_isNumber_12 : decode cX7_isNumber 12 = .ok (.iconst 1, 1) := by decide +kernel
theorem dX7_isNumber_13 : decode cX7_isNumber 13 = .ok (.goto 4, 3) := by decide +kernel
theorem dX7_isNumber_16 : decode cX7_isNumber 16 = .ok (.iconst 0, 1) := by decide +kernel
theorem dX7_isNumber_17 : decode cX7_isNumber 17 = .ok (.ireturn, 1) := by decide +kernel
def k85_0 : List (Nat × XI) := [(0, x_iload 0 1), (1, x_push (-99) 3), (3, x_iclt 16 6), (6, x_iload 0 7), (7, x_push (99) 9), (9, x_icgt 16 12), (12, x_push (1) 13), (13, x_goto 17), (16, x_push (0) 17), (17, x_zret)]
theorem o85_0 (scr : Nat × (Nat → Int32)) : ∀ q ∈ k85_0, XSnd xm scr Y85 q.1 q.2 := xcons (s_iload_n rfl dX7_isNumber_0) (xcons (s_bipush dX7_isNumber_1 rfl) (xcons (s_iclt dX7_isNumber_3 rfl) (xcons (s_iload_n rfl dX7_isNumber_6) (xcons (s_bipush dX7_isNumber_7 rfl) (xcons (s_icgt dX7_isNumber_9 rfl) (xcons (s_iconst dX7_isNumber_12 rfl) (xcons (s_goto dX7_isNumber_13 rfl) (xcons (s_iconst dX7_isNumber_16 rfl) (xcons (s_zret dX7_isNumber_17 rfl) (xnil))))))))))
def k85 (pc : Nat) : XI := xlk k85_0 pc
theorem o85 (scr : Nat × (Nat → Int32)) (pc : Nat) : XSnd xm scr Y85 pc (k85 pc) := by
  unfold k85
  exact xlk_ok (o85_0 scr) pc
theorem dX7_isSteps_0 : decode cX7_isSteps 0 = .ok (.iload_n 0, 1) := by decide +kernel
theorem dX7_isSteps_1 : decode cX7_isSteps 1 = .ok (.iconst 1, 1) := by decide +kernel
theorem dX7_isSteps_2 : decode cX7_isSteps 2 = .ok (.if_icmp .lt 14, 3) := by decide +kernel
theorem dX7_isSteps_5 : decode cX7_isSteps 5 = .ok (.iload_n 0, 1) := by decide +kernel
theorem dX7_isSteps_6 : decode cX7_isSteps 6 = .ok (.sipush 200, 3) := by decide +kernel
theorem dX7_isSteps_9 : decode cX7_isSteps 9 = .ok (.if_icmp .gt 7, 3) := by decide +kernel
theorem dX7_isSteps_12 : decode cX7_isSteps 12 = .ok (.iconst 1, 1) := by decide +kernel
theorem dX7_isSteps_13 : decode cX7_isSteps 13 = .ok (.goto 4, 3) := by decide +kernel
theorem dX7_isSteps_16 : decode cX7_isSteps 16 = .ok (.iconst 0, 1) := by decide +kernel
theorem dX7_isSteps_17 : decode cX7_isSteps 17 = .ok (.ireturn, 1) := by decide +kernel
def k86_0 : List (Nat × XI) := [(0, x_iload 0 1), (1, x_push (1) 2), (2, x_iclt 16 5), (5, x_iload 0 6), (6, x_push (200) 9), (9, x_icgt 16 12), (12, x_push (1) 13), (13, x_goto 17), (16, x_push (0) 17), (17, x_zret)]
theorem o86_0 (scr : Nat × (Nat → Int32)) : ∀ q ∈ k86_0, XSnd xm scr Y86 q.1 q.2 := xcons (s_iload_n rfl dX7_isSteps_0) (xcons (s_iconst dX7_isSteps_1 rfl) (xcons (s_iclt dX7_isSteps_2 rfl) (xcons (s_iload_n rfl dX7_isSteps_5) (xcons (s_sipush dX7_isSteps_6 rfl) (xcons (s_icgt dX7_isSteps_9 rfl) (xcons (s_iconst dX7_isSteps_12 rfl) (xcons (s_goto dX7_isSteps_13 rfl) (xcons (s_iconst dX7_isSteps_16 rfl) (xcons (s_zret dX7_isSteps_17 rfl) (xnil))))))))))
def k86 (pc : Nat) : XI := xlk k86_0 pc
theorem o86 (scr : Nat × (Nat → Int32)) (pc : Nat) : XSnd xm scr Y86 pc (k86 pc) := by
  unfold k86
  exact xlk_ok (o86_0 scr) pc
theorem dX7_itemOf_0 : decode cX7_itemOf 0 = .ok (.iload_n 1, 1) := by decide +kernel
theorem dX7_itemOf_1 : decode cX7_itemOf 1 = .ok (.ifCond .ge 5, 3) := by decide +kernel
theorem dX7_itemOf_4 : decode cX7_itemOf 4 = .ok (.iconst (-1), 1) := by decide +kernel
theorem dX7_itemOf_5 : decode cX7_itemOf 5 = .ok (.ireturn, 1) := by decide +kernel
theorem dX7_itemOf_6 : decode cX7_itemOf 6 = .ok (.iload_n 1, 1) := by decide +kernel
theorem dX7_itemOf_7 : decode cX7_itemOf 7 = .ok (.aload_n 0, 1) := by decide +kernel
theorem dX7_itemOf_8 : decode cX7_itemOf 8 = .ok (.getfield 93, 3) := by decide +kernel
theorem dX7_itemOf_11 : decode cX7_itemOf 11 = .ok (.if_icmp .ge 11, 3) := by decide +kernel
theorem dX7_itemOf_14 : decode cX7_itemOf 14 = .ok (.aload_n 0, 1) := by decide +kernel
theorem dX7_itemOf_15 : decode cX7_itemOf 15 = .ok (.iload_n 1, 1) := by decide +kernel
theorem dX7_itemOf_16 : decode cX7_itemOf 16 = .ok (.invokevirtual 96, 3) := by decide +kernel
theorem dX7_itemOf_19 : decode cX7_itemOf 19 = .ok (.goto 5, 3) := by decide +kernel
theorem dX7_itemOf_22 : decode cX7_itemOf 22 = .ok (.bipush (-2), 2) := by decide +kernel
theorem dX7_itemOf_24 : decode cX7_itemOf 24 = .ok (.ireturn, 1) := by decide +kernel
def k87_0 : List (Nat × XI) := [(0, x_iload 1 1), (1, x_ifge 6 4), (4, x_push (-1) 5), (5, x_iret), (6, x_iload 1 7), (7, x_aload 0 8), (8, x_getI 2 1 11), (11, x_icge 22 14), (14, x_aload 0 15), (15, x_iload 1 16), (16, x_inv 6 2 1 19), (19, x_goto 24), (22, x_push (-2) 24), (24, x_iret)]
theorem o87_0 (scr : Nat × (Nat → Int32)) : ∀ q ∈ k87_0, XSnd xm scr Y87 q.1 q.2 := xcons (s_iload_n rfl dX7_itemOf_0) (xcons (s_ifge dX7_itemOf_1 rfl) (xcons (s_iconst dX7_itemOf_4 rfl) (xcons (s_iret dX7_itemOf_5 rfl) (xcons (s_iload_n rfl dX7_itemOf_6) (xcons (s_aload_n rfl dX7_itemOf_7) (xcons (s_getI (f := 1) xC2 (by decide) xw_365 rfl dX7_itemOf_8) (xcons (s_icge dX7_itemOf_11 rfl) (xcons (s_aload_n rfl dX7_itemOf_14) (xcons (s_iload_n rfl dX7_itemOf_15) (xcons (s_inv (mid := 6) xC2 cal_6 xw_371 xw_93 xw_94 dX7_itemOf_16) (xcons (s_goto dX7_itemOf_19 rfl) (xcons (s_bipush dX7_itemOf_22 rfl) (xcons (s_iret dX7_itemOf_24 rfl) (xnil))))))))))))))
def k87 (pc : Nat) : XI := xlk k87_0 pc
theorem o87 (scr : Nat × (Nat → Int32)) (pc : Nat) : XSnd xm scr Y87 pc (k87 pc) := by
  unfold k87
  exact xlk_ok (o87_0 scr) pc
