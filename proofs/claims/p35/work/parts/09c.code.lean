/-! 09c: the code, instruction by instruction -/
theorem dX6_send_0 : decode cX6_send 0 = .ok (.aload_n 0, 1) := by decide +kernel
theorem dX6_send_1 : decode cX6_send 1 = .ok (.iload_n 1, 1) := by decide +kernel
theorem dX6_send_2 : decode cX6_send 2 = .ok (.invokevirtual 86, 3) := by decide +kernel
theorem dX6_send_5 : decode cX6_send 5 = .ok (.ifCond .eq 24, 3) := by decide +kernel
theorem dX6_send_8 : decode cX6_send 8 = .ok (.aload_n 0, 1) := by decide +kernel
theorem dX6_send_9 : decode cX6_send 9 = .ok (.getfield 11, 3) := by decide +kernel
theorem dX6_send_12 : decode cX6_send 12 = .ok (.iload_n 1, 1) := by decide +kernel
theorem dX6_send_13 : decode cX6_send 13 = .ok (.aaload, 1) := by decide +kernel
theorem dX6_send_14 : decode cX6_send 14 = .ok (.getfield 76, 3) := by decide +kernel
theorem dX6_send_17 : decode cX6_send 17 = .ok (.iload_n 2, 1) := by decide +kernel
theorem dX6_send_18 : decode cX6_send 18 = .ok (.iload_n 3, 1) := by decide +kernel
theorem dX6_send_19 : decode cX6_send 19 = .ok (.invokevirtual 102, 3) := by decide +kernel
theorem dX6_send_22 : decode cX6_send 22 = .ok (.ifCond .eq 7, 3) := by decide +kernel
theorem dX6_send_25 : decode cX6_send 25 = .ok (.iconst 1, 1) := by decide +kernel
theorem dX6_send_26 : decode cX6_send 26 = .ok (.goto 4, 3) := by decide +kernel
theorem dX6_send_29 : decode cX6_send 29 = .ok (.iconst 0, 1) := by decide +kernel
theorem dX6_send_30 : decode cX6_send 30 = .ok (.istore 4, 2) := by decide +kernel
theorem dX6_send_32 : decode cX6_send 32 = .ok (.iload 4, 2) := by decide +kernel
theorem dX6_send_34 : decode cX6_send 34 = .ok (.ifCond .ne 13, 3) := by decide +kernel
theorem dX6_send_37 : decode cX6_send 37 = .ok (.aload_n 0, 1) := by decide +kernel
def k63_0 : List (Nat × XI) := [(0, x_aload 0 1), (1, x_iload 1 2), (2, x_inv 54 6 1 5), (5, x_ifeq 29 8), (8, x_aload 0 9), (9, x_getR 6 0 12), (12, x_iload 1 13), (13, x_aald 14), (14, x_getR 0 8 17), (17, x_iload 2 18), (18, x_iload 3 19), (19, x_inv 15 3 2 22), (22, x_ifeq 29 25), (25, x_push (1) 26), (26, x_goto 30), (29, x_push (0) 30), (30, x_istore 4 32), (32, x_iload 4 34), (34, x_ifne 47 37), (37, x_aload 0 38)]
theorem o63_0 (scr : Nat × (Nat → Int32)) : ∀ q ∈ k63_0, XSnd xm scr Y63 q.1 q.2 := xcons (s_aload_n rfl dX6_send_0) (xcons (s_iload_n rfl dX6_send_1) (xcons (s_inv (mid := 54) xC6 cal_54 xw_134 xw_135 xw_136 dX6_send_2) (xcons (s_ifeq dX6_send_5 rfl) (xcons (s_aload_n rfl dX6_send_8) (xcons (s_getR (f := 0) xC6 (by decide) xw_137 rfl dX6_send_9) (xcons (s_iload_n rfl dX6_send_12) (xcons (s_aald dX6_send_13) (xcons (s_getR (f := 8) xC0 (by decide) xw_243 rfl dX6_send_14) (xcons (s_iload_n rfl dX6_send_17) (xcons (s_iload_n rfl dX6_send_18) (xcons (s_inv (mid := 15) xC3 cal_15 xw_185 xw_74 xw_75 dX6_send_19) (xcons (s_ifeq dX6_send_22 rfl) (xcons (s_iconst dX6_send_25 rfl) (xcons (s_goto dX6_send_26 rfl) (xcons (s_iconst dX6_send_29 rfl) (xcons (s_istore dX6_send_30 (by decide)) (xcons (s_iload dX6_send_32) (xcons (s_ifne dX6_send_34 rfl) (xcons (s_aload_n rfl dX6_send_37) (xnil))))))))))))))))))))
theorem dX6_send_38 : decode cX6_send 38 = .ok (.dup, 1) := by decide +kernel
theorem dX6_send_39 : decode cX6_send 39 = .ok (.getfield 63, 3) := by decide +kernel
theorem dX6_send_42 : decode cX6_send 42 = .ok (.iconst 1, 1) := by decide +kernel
theorem dX6_send_43 : decode cX6_send 43 = .ok (.iadd, 1) := by decide +kernel
theorem dX6_send_44 : decode cX6_send 44 = .ok (.putfield 63, 3) := by decide +kernel
theorem dX6_send_47 : decode cX6_send 47 = .ok (.iload 4, 2) := by decide +kernel
theorem dX6_send_49 : decode cX6_send 49 = .ok (.ireturn, 1) := by decide +kernel
def k63_1 : List (Nat × XI) := [(38, x_dup 39), (39, x_getI 6 8 42), (42, x_push (1) 43), (43, x_iadd 44), (44, x_putI 6 8 47), (47, x_iload 4 49), (49, x_zret)]
theorem o63_1 (scr : Nat × (Nat → Int32)) : ∀ q ∈ k63_1, XSnd xm scr Y63 q.1 q.2 := xcons (s_dup dX6_send_38) (xcons (s_getI (f := 8) xC6 (by decide) xw_161 rfl dX6_send_39) (xcons (s_iconst dX6_send_42 rfl) (xcons (s_iadd dX6_send_43) (xcons (s_putI (f := 8) xC6 (by decide) xw_161 rfl (Or.inl rfl) dX6_send_44) (xcons (s_iload dX6_send_47) (xcons (s_zret dX6_send_49 rfl) (xnil)))))))
def k63 (pc : Nat) : XI := if pc < 38 then xlk k63_0 pc else xlk k63_1 pc
theorem o63 (scr : Nat × (Nat → Int32)) (pc : Nat) : XSnd xm scr Y63 pc (k63 pc) := by
  unfold k63
  exact xite (xlk_ok (o63_0 scr) pc) (xlk_ok (o63_1 scr) pc)
theorem dX6_sendDown_0 : decode cX6_sendDown 0 = .ok (.iconst 0, 1) := by decide +kernel
theorem dX6_sendDown_1 : decode cX6_sendDown 1 = .ok (.istore 4, 2) := by decide +kernel
theorem dX6_sendDown_3 : decode cX6_sendDown 3 = .ok (.iconst 0, 1) := by decide +kernel
theorem dX6_sendDown_4 : decode cX6_sendDown 4 = .ok (.istore 5, 2) := by decide +kernel
theorem dX6_sendDown_6 : decode cX6_sendDown 6 = .ok (.iload 5, 2) := by decide +kernel
theorem dX6_sendDown_8 : decode cX6_sendDown 8 = .ok (.aload_n 0, 1) := by decide +kernel
theorem dX6_sendDown_9 : decode cX6_sendDown 9 = .ok (.getfield 44, 3) := by decide +kernel
theorem dX6_sendDown_12 : decode cX6_sendDown 12 = .ok (.if_icmp .ge 37, 3) := by decide +kernel
theorem dX6_sendDown_15 : decode cX6_sendDown 15 = .ok (.iload 4, 2) := by decide +kernel
theorem dX6_sendDown_17 : decode cX6_sendDown 17 = .ok (.iload_n 3, 1) := by decide +kernel
theorem dX6_sendDown_18 : decode cX6_sendDown 18 = .ok (.if_icmp .ge 31, 3) := by decide +kernel
theorem dX6_sendDown_21 : decode cX6_sendDown 21 = .ok (.aload_n 0, 1) := by decide +kernel
theorem dX6_sendDown_22 : decode cX6_sendDown 22 = .ok (.iload 5, 2) := by decide +kernel
theorem dX6_sendDown_24 : decode cX6_sendDown 24 = .ok (.iload_n 1, 1) := by decide +kernel
theorem dX6_sendDown_25 : decode cX6_sendDown 25 = .ok (.invokevirtual 199, 3) := by decide +kernel
theorem dX6_sendDown_28 : decode cX6_sendDown 28 = .ok (.ifCond .eq 15, 3) := by decide +kernel
theorem dX6_sendDown_31 : decode cX6_sendDown 31 = .ok (.aload_n 0, 1) := by decide +kernel
theorem dX6_sendDown_32 : decode cX6_sendDown 32 = .ok (.iload 5, 2) := by decide +kernel
theorem dX6_sendDown_34 : decode cX6_sendDown 34 = .ok (.iload_n 1, 1) := by decide +kernel
theorem dX6_sendDown_35 : decode cX6_sendDown 35 = .ok (.iload_n 2, 1) := by decide +kernel
def k64_0 : List (Nat × XI) := [(0, x_push (0) 1), (1, x_istore 4 3), (3, x_push (0) 4), (4, x_istore 5 6), (6, x_iload 5 8), (8, x_aload 0 9), (9, x_getI 6 4 12), (12, x_icge 49 15), (15, x_iload 4 17), (17, x_iload 3 18), (18, x_icge 49 21), (21, x_aload 0 22), (22, x_iload 5 24), (24, x_iload 1 25), (25, x_inv 55 6 2 28), (28, x_ifeq 43 31), (31, x_aload 0 32), (32, x_iload 5 34), (34, x_iload 1 35), (35, x_iload 2 36)]
theorem o64_0 (scr : Nat × (Nat → Int32)) : ∀ q ∈ k64_0, XSnd xm scr Y64 q.1 q.2 := xcons (s_iconst dX6_sendDown_0 rfl) (xcons (s_istore dX6_sendDown_1 (by decide)) (xcons (s_iconst dX6_sendDown_3 rfl) (xcons (s_istore dX6_sendDown_4 (by decide)) (xcons (s_iload dX6_sendDown_6) (xcons (s_aload_n rfl dX6_sendDown_8) (xcons (s_getI (f := 4) xC6 (by decide) xw_127 rfl dX6_sendDown_9) (xcons (s_icge dX6_sendDown_12 rfl) (xcons (s_iload dX6_sendDown_15) (xcons (s_iload_n rfl dX6_sendDown_17) (xcons (s_icge dX6_sendDown_18 rfl) (xcons (s_aload_n rfl dX6_sendDown_21) (xcons (s_iload dX6_sendDown_22) (xcons (s_iload_n rfl dX6_sendDown_24) (xcons (s_inv (mid := 55) xC6 cal_55 xw_235 xw_236 xw_237 dX6_sendDown_25) (xcons (s_ifeq dX6_sendDown_28 rfl) (xcons (s_aload_n rfl dX6_sendDown_31) (xcons (s_iload dX6_sendDown_32) (xcons (s_iload_n rfl dX6_sendDown_34) (xcons (s_iload_n rfl dX6_sendDown_35) (xnil))))))))))))))))))))
theorem dX6_sendDown_36 : decode cX6_sendDown 36 = .ok (.invokevirtual 154, 3) := by decide +kernel
theorem dX6_sendDown_39 : decode cX6_sendDown 39 = .ok (.pop, 1) := by decide +kernel
theorem dX6_sendDown_40 : decode cX6_sendDown 40 = .ok (.iinc 4 1, 3) := by decide +kernel
theorem dX6_sendDown_43 : decode cX6_sendDown 43 = .ok (.iinc 5 1, 3) := by decide +kernel
theorem dX6_sendDown_46 : decode cX6_sendDown 46 = .ok (.goto (-40), 3) := by decide +kernel
theorem dX6_sendDown_49 : decode cX6_sendDown 49 = .ok (.return_, 1) := by decide +kernel
def k64_1 : List (Nat × XI) := [(36, x_inv 63 6 3 39), (39, x_pop 40), (40, x_iinc 4 (1) 43), (43, x_iinc 5 (1) 46), (46, x_goto 6), (49, x_ret)]
theorem o64_1 (scr : Nat × (Nat → Int32)) : ∀ q ∈ k64_1, XSnd xm scr Y64 q.1 q.2 := xcons (s_inv (mid := 63) xC6 cal_63 xw_181 xw_182 xw_183 dX6_sendDown_36) (xcons (s_pop dX6_sendDown_39) (xcons (s_iinc dX6_sendDown_40 rfl (by decide)) (xcons (s_iinc dX6_sendDown_43 rfl (by decide)) (xcons (s_goto dX6_sendDown_46 rfl) (xcons (s_ret dX6_sendDown_49 rfl) (xnil))))))
def k64 (pc : Nat) : XI := if pc < 36 then xlk k64_0 pc else xlk k64_1 pc
theorem o64 (scr : Nat × (Nat → Int32)) (pc : Nat) : XSnd xm scr Y64 pc (k64 pc) := by
  unfold k64
  exact xite (xlk_ok (o64_0 scr) pc) (xlk_ok (o64_1 scr) pc)
theorem dX6_step_0 : decode cX6_step 0 = .ok (.aload_n 0, 1) := by decide +kernel
theorem dX6_step_1 : decode cX6_step 1 = .ok (.invokevirtual 118, 3) := by decide +kernel
theorem dX6_step_4 : decode cX6_step 4 = .ok (.istore_n 1, 1) := by decide +kernel
theorem dX6_step_5 : decode cX6_step 5 = .ok (.aload_n 0, 1) := by decide +kernel
theorem dX6_step_6 : decode cX6_step 6 = .ok (.iload_n 1, 1) := by decide +kernel
theorem dX6_step_7 : decode cX6_step 7 = .ok (.invokevirtual 82, 3) := by decide +kernel
theorem dX6_step_10 : decode cX6_step 10 = .ok (.ifCond .ne 8, 3) := by decide +kernel
theorem dX6_step_13 : decode cX6_step 13 = .ok (.aload_n 0, 1) := by decide +kernel
theorem dX6_step_14 : decode cX6_step 14 = .ok (.invokevirtual 121, 3) := by decide +kernel
theorem dX6_step_17 : decode cX6_step 17 = .ok (.ireturn, 1) := by decide +kernel
theorem dX6_step_18 : decode cX6_step 18 = .ok (.aload_n 0, 1) := by decide +kernel
theorem dX6_step_19 : decode cX6_step 19 = .ok (.getfield 11, 3) := by decide +kernel
theorem dX6_step_22 : decode cX6_step 22 = .ok (.iload_n 1, 1) := by decide +kernel
theorem dX6_step_23 : decode cX6_step 23 = .ok (.aaload, 1) := by decide +kernel
theorem dX6_step_24 : decode cX6_step 24 = .ok (.getfield 76, 3) := by decide +kernel
theorem dX6_step_27 : decode cX6_step 27 = .ok (.astore_n 2, 1) := by decide +kernel
theorem dX6_step_28 : decode cX6_step 28 = .ok (.aload_n 2, 1) := by decide +kernel
theorem dX6_step_29 : decode cX6_step 29 = .ok (.iconst 0, 1) := by decide +kernel
theorem dX6_step_30 : decode cX6_step 30 = .ok (.invokevirtual 124, 3) := by decide +kernel
theorem dX6_step_33 : decode cX6_step 33 = .ok (.istore_n 3, 1) := by decide +kernel
def k65_0 : List (Nat × XI) := [(0, x_aload 0 1), (1, x_inv 61 6 0 4), (4, x_istore 1 5), (5, x_aload 0 6), (6, x_iload 1 7), (7, x_inv 53 6 1 10), (10, x_ifne 18 13), (13, x_aload 0 14), (14, x_inv 47 6 0 17), (17, x_zret), (18, x_aload 0 19), (19, x_getR 6 0 22), (22, x_iload 1 23), (23, x_aald 24), (24, x_getR 0 8 27), (27, x_astore 2 28), (28, x_aload 2 29), (29, x_push (0) 30), (30, x_inv 18 3 1 33), (33, x_istore 3 34)]
theorem o65_0 (scr : Nat × (Nat → Int32)) : ∀ q ∈ k65_0, XSnd xm scr Y65 q.1 q.2 := xcons (s_aload_n rfl dX6_step_0) (xcons (s_inv (mid := 61) xC6 cal_61 xw_255 xw_256 xw_257 dX6_step_1) (xcons (s_istore_n rfl dX6_step_4 (by decide)) (xcons (s_aload_n rfl dX6_step_5) (xcons (s_iload_n rfl dX6_step_6) (xcons (s_inv (mid := 53) xC6 cal_53 xw_130 xw_131 xw_132 dX6_step_7) (xcons (s_ifne dX6_step_10 rfl) (xcons (s_aload_n rfl dX6_step_13) (xcons (s_inv (mid := 47) xC6 cal_47 xw_288 xw_289 xw_290 dX6_step_14) (xcons (s_zret dX6_step_17 rfl) (xcons (s_aload_n rfl dX6_step_18) (xcons (s_getR (f := 0) xC6 (by decide) xw_137 rfl dX6_step_19) (xcons (s_iload_n rfl dX6_step_22) (xcons (s_aald dX6_step_23) (xcons (s_getR (f := 8) xC0 (by decide) xw_243 rfl dX6_step_24) (xcons (s_astore_n rfl dX6_step_27 (by decide)) (xcons (s_aload_n rfl dX6_step_28) (xcons (s_iconst dX6_step_29 rfl) (xcons (s_inv (mid := 18) xC3 cal_18 xw_292 xw_293 xw_294 dX6_step_30) (xcons (s_istore_n rfl dX6_step_33 (by decide)) (xnil))))))))))))))))))))
theorem dX6_step_34 : decode cX6_step 34 = .ok (.aload_n 2, 1) := by decide +kernel
theorem dX6_step_35 : decode cX6_step 35 = .ok (.iconst 0, 1) := by decide +kernel
theorem dX6_step_36 : decode cX6_step 36 = .ok (.invokevirtual 128, 3) := by decide +kernel
theorem dX6_step_39 : decode cX6_step 39 = .ok (.istore 4, 2) := by decide +kernel
theorem dX6_step_41 : decode cX6_step 41 = .ok (.aload_n 2, 1) := by decide +kernel
theorem dX6_step_42 : decode cX6_step 42 = .ok (.invokevirtual 131, 3) := by decide +kernel
theorem dX6_step_45 : decode cX6_step 45 = .ok (.aload_n 0, 1) := by decide +kernel
theorem dX6_step_46 : decode cX6_step 46 = .ok (.iload_n 1, 1) := by decide +kernel
theorem dX6_step_47 : decode cX6_step 47 = .ok (.putfield 36, 3) := by decide +kernel
theorem dX6_step_50 : decode cX6_step 50 = .ok (.aload_n 0, 1) := by decide +kernel
theorem dX6_step_51 : decode cX6_step 51 = .ok (.dup, 1) := by decide +kernel
theorem dX6_step_52 : decode cX6_step 52 = .ok (.getfield 60, 3) := by decide +kernel
theorem dX6_step_55 : decode cX6_step 55 = .ok (.iconst 1, 1) := by decide +kernel
theorem dX6_step_56 : decode cX6_step 56 = .ok (.iadd, 1) := by decide +kernel
theorem dX6_step_57 : decode cX6_step 57 = .ok (.putfield 60, 3) := by decide +kernel
theorem dX6_step_60 : decode cX6_step 60 = .ok (.aload_n 0, 1) := by decide +kernel
theorem dX6_step_61 : decode cX6_step 61 = .ok (.getfield 29, 3) := by decide +kernel
theorem dX6_step_64 : decode cX6_step 64 = .ok (.iload_n 1, 1) := by decide +kernel
theorem dX6_step_65 : decode cX6_step 65 = .ok (.iload 4, 2) := by decide +kernel
theorem dX6_step_67 : decode cX6_step 67 = .ok (.invokevirtual 134, 3) := by decide +kernel
def k65_1 : List (Nat × XI) := [(34, x_aload 2 35), (35, x_push (0) 36), (36, x_inv 22 3 1 39), (39, x_istore 4 41), (41, x_aload 2 42), (42, x_inv 21 3 0 45), (45, x_aload 0 46), (46, x_iload 1 47), (47, x_putI 6 5 50), (50, x_aload 0 51), (51, x_dup 52), (52, x_getI 6 7 55), (55, x_push (1) 56), (56, x_iadd 57), (57, x_putI 6 7 60), (60, x_aload 0 61), (61, x_getR 6 2 64), (64, x_iload 1 65), (65, x_iload 4 67), (67, x_inv 16 3 2 70)]
theorem o65_1 (scr : Nat × (Nat → Int32)) : ∀ q ∈ k65_1, XSnd xm scr Y65 q.1 q.2 := xcons (s_aload_n rfl dX6_step_34) (xcons (s_iconst dX6_step_35 rfl) (xcons (s_inv (mid := 22) xC3 cal_22 xw_296 xw_297 xw_298 dX6_step_36) (xcons (s_istore dX6_step_39 (by decide)) (xcons (s_aload_n rfl dX6_step_41) (xcons (s_inv (mid := 21) xC3 cal_21 xw_299 xw_70 xw_71 dX6_step_42) (xcons (s_aload_n rfl dX6_step_45) (xcons (s_iload_n rfl dX6_step_46) (xcons (s_putI (f := 5) xC6 (by decide) xw_158 rfl (Or.inl rfl) dX6_step_47) (xcons (s_aload_n rfl dX6_step_50) (xcons (s_dup dX6_step_51) (xcons (s_getI (f := 7) xC6 (by decide) xw_160 rfl dX6_step_52) (xcons (s_iconst dX6_step_55 rfl) (xcons (s_iadd dX6_step_56) (xcons (s_putI (f := 7) xC6 (by decide) xw_160 rfl (Or.inl rfl) dX6_step_57) (xcons (s_aload_n rfl dX6_step_60) (xcons (s_getR (f := 2) xC6 (by decide) xw_155 rfl dX6_step_61) (xcons (s_iload_n rfl dX6_step_64) (xcons (s_iload dX6_step_65) (xcons (s_inv (mid := 16) xC3 cal_16 xw_301 xw_302 xw_303 dX6_step_67) (xnil))))))))))))))))))))
theorem dX6_step_70 : decode cX6_step 70 = .ok (.aload_n 0, 1) := by decide +kernel
theorem dX6_step_71 : decode cX6_step 71 = .ok (.iload_n 1, 1) := by decide +kernel
theorem dX6_step_72 : decode cX6_step 72 = .ok (.iload_n 3, 1) := by decide +kernel
theorem dX6_step_73 : decode cX6_step 73 = .ok (.iload 4, 2) := by decide +kernel
theorem dX6_step_75 : decode cX6_step 75 = .ok (.invokevirtual 137, 3) := by decide +kernel
theorem dX6_step_78 : decode cX6_step 78 = .ok (.istore 5, 2) := by decide +kernel
theorem dX6_step_80 : decode cX6_step 80 = .ok (.iload 5, 2) := by decide +kernel
theorem dX6_step_82 : decode cX6_step 82 = .ok (.ifCond .eq 10, 3) := by decide +kernel
theorem dX6_step_85 : decode cX6_step 85 = .ok (.aload_n 0, 1) := by decide +kernel
theorem dX6_step_86 : decode cX6_step 86 = .ok (.iload_n 1, 1) := by decide +kernel
theorem dX6_step_87 : decode cX6_step 87 = .ok (.iload 5, 2) := by decide +kernel
theorem dX6_step_89 : decode cX6_step 89 = .ok (.invokevirtual 141, 3) := by decide +kernel
theorem dX6_step_92 : decode cX6_step 92 = .ok (.iconst 1, 1) := by decide +kernel
theorem dX6_step_93 : decode cX6_step 93 = .ok (.ireturn, 1) := by decide +kernel
def k65_2 : List (Nat × XI) := [(70, x_aload 0 71), (71, x_iload 1 72), (72, x_iload 3 73), (73, x_iload 4 75), (75, x_inv 43 6 3 78), (78, x_istore 5 80), (80, x_iload 5 82), (82, x_ifeq 92 85), (85, x_aload 0 86), (86, x_iload 1 87), (87, x_iload 5 89), (89, x_inv 46 6 2 92), (92, x_push (1) 93), (93, x_zret)]
theorem o65_2 (scr : Nat × (Nat → Int32)) : ∀ q ∈ k65_2, XSnd xm scr Y65 q.1 q.2 := xcons (s_aload_n rfl dX6_step_70) (xcons (s_iload_n rfl dX6_step_71) (xcons (s_iload_n rfl dX6_step_72) (xcons (s_iload dX6_step_73) (xcons (s_inv (mid := 43) xC6 cal_43 xw_305 xw_306 xw_307 dX6_step_75) (xcons (s_istore dX6_step_78 (by decide)) (xcons (s_iload dX6_step_80) (xcons (s_ifeq dX6_step_82 rfl) (xcons (s_aload_n rfl dX6_step_85) (xcons (s_iload_n rfl dX6_step_86) (xcons (s_iload dX6_step_87) (xcons (s_inv (mid := 46) xC6 cal_46 xw_309 xw_310 xw_311 dX6_step_89) (xcons (s_iconst dX6_step_92 rfl) (xcons (s_zret dX6_step_93 rfl) (xnil))))))))))))))
def k65 (pc : Nat) : XI := if pc < 34 then xlk k65_0 pc else if pc < 70 then xlk k65_1 pc else xlk k65_2 pc
theorem o65 (scr : Nat × (Nat → Int32)) (pc : Nat) : XSnd xm scr Y65 pc (k65 pc) := by
  unfold k65
  exact xite (xlk_ok (o65_0 scr) pc) (xite (xlk_ok (o65_1 scr) pc) (xlk_ok (o65_2 scr) pc))
theorem dX6_unstash_0 : decode cX6_unstash 0 = .ok (.aload_n 0, 1) := by decide +kernel
theorem dX6_unstash_1 : decode cX6_unstash 1 = .ok (.dup, 1) := by decide +kernel
theorem dX6_unstash_2 : decode cX6_unstash 2 = .ok (.getfield 63, 3) := by decide +kernel
theorem dX6_unstash_5 : decode cX6_unstash 5 = .ok (.aload_n 1, 1) := by decide +kernel
theorem dX6_unstash_6 : decode cX6_unstash 6 = .ok (.getfield 182, 3) := by decide +kernel
theorem dX6_unstash_9 : decode cX6_unstash 9 = .ok (.getfield 79, 3) := by decide +kernel
theorem dX6_unstash_12 : decode cX6_unstash 12 = .ok (.aload_n 1, 1) := by decide +kernel
theorem dX6_unstash_13 : decode cX6_unstash 13 = .ok (.getfield 76, 3) := by decide +kernel
theorem dX6_unstash_16 : decode cX6_unstash 16 = .ok (.aload_n 1, 1) := by decide +kernel
theorem dX6_unstash_17 : decode cX6_unstash 17 = .ok (.getfield 182, 3) := by decide +kernel
theorem dX6_unstash_20 : decode cX6_unstash 20 = .ok (.invokevirtual 202, 3) := by decide +kernel
theorem dX6_unstash_23 : decode cX6_unstash 23 = .ok (.isub, 1) := by decide +kernel
theorem dX6_unstash_24 : decode cX6_unstash 24 = .ok (.iadd, 1) := by decide +kernel
theorem dX6_unstash_25 : decode cX6_unstash 25 = .ok (.putfield 63, 3) := by decide +kernel
theorem dX6_unstash_28 : decode cX6_unstash 28 = .ok (.aload_n 1, 1) := by decide +kernel
theorem dX6_unstash_29 : decode cX6_unstash 29 = .ok (.getfield 182, 3) := by decide +kernel
theorem dX6_unstash_32 : decode cX6_unstash 32 = .ok (.iconst 0, 1) := by decide +kernel
theorem dX6_unstash_33 : decode cX6_unstash 33 = .ok (.putfield 79, 3) := by decide +kernel
theorem dX6_unstash_36 : decode cX6_unstash 36 = .ok (.return_, 1) := by decide +kernel
def k66_0 : List (Nat × XI) := [(0, x_aload 0 1), (1, x_dup 2), (2, x_getI 6 8 5), (5, x_aload 1 6), (6, x_getR 0 9 9), (9, x_getI 3 2 12), (12, x_aload 1 13), (13, x_getR 0 8 16), (16, x_aload 1 17), (17, x_getR 0 9 20), (20, x_inv 20 3 1 23), (23, x_isub 24), (24, x_iadd 25), (25, x_putI 6 8 28), (28, x_aload 1 29), (29, x_getR 0 9 32), (32, x_push (0) 33), (33, x_putI 3 2 36), (36, x_ret)]
theorem o66_0 (scr : Nat × (Nat → Int32)) : ∀ q ∈ k66_0, XSnd xm scr Y66 q.1 q.2 := xcons (s_aload_n rfl dX6_unstash_0) (xcons (s_dup dX6_unstash_1) (xcons (s_getI (f := 8) xC6 (by decide) xw_161 rfl dX6_unstash_2) (xcons (s_aload_n rfl dX6_unstash_5) (xcons (s_getR (f := 9) xC0 (by decide) xw_184 rfl dX6_unstash_6) (xcons (s_getI (f := 2) xC3 (by decide) xw_204 rfl dX6_unstash_9) (xcons (s_aload_n rfl dX6_unstash_12) (xcons (s_getR (f := 8) xC0 (by decide) xw_243 rfl dX6_unstash_13) (xcons (s_aload_n rfl dX6_unstash_16) (xcons (s_getR (f := 9) xC0 (by decide) xw_184 rfl dX6_unstash_17) (xcons (s_inv (mid := 20) xC3 cal_20 xw_313 xw_314 xw_315 dX6_unstash_20) (xcons (s_isub dX6_unstash_23) (xcons (s_iadd dX6_unstash_24) (xcons (s_putI (f := 8) xC6 (by decide) xw_161 rfl (Or.inl rfl) dX6_unstash_25) (xcons (s_aload_n rfl dX6_unstash_28) (xcons (s_getR (f := 9) xC0 (by decide) xw_184 rfl dX6_unstash_29) (xcons (s_iconst dX6_unstash_32 rfl) (xcons (s_putI (f := 2) xC3 (by decide) xw_204 rfl (Or.inl rfl) dX6_unstash_33) (xcons (s_ret dX6_unstash_36 rfl) (xnil)))))))))))))))))))
def k66 (pc : Nat) : XI := xlk k66_0 pc
theorem o66 (scr : Nat × (Nat → Int32)) (pc : Nat) : XSnd xm scr Y66 pc (k66 pc) := by
  unfold k66
  exact xlk_ok (o66_0 scr) pc
theorem dX6_watch_0 : decode cX6_watch 0 = .ok (.aload_n 0, 1) := by decide +kernel
theorem dX6_watch_1 : decode cX6_watch 1 = .ok (.getfield 44, 3) := by decide +kernel
theorem dX6_watch_4 : decode cX6_watch 4 = .ok (.ifCond .gt 4, 3) := by decide +kernel
theorem dX6_watch_7 : decode cX6_watch 7 = .ok (.return_, 1) := by decide +kernel
theorem dX6_watch_8 : decode cX6_watch 8 = .ok (.iload_n 2, 1) := by decide +kernel
theorem dX6_watch_9 : decode cX6_watch 9 = .ok (.aload_n 0, 1) := by decide +kernel
theorem dX6_watch_10 : decode cX6_watch 10 = .ok (.getfield 44, 3) := by decide +kernel
theorem dX6_watch_13 : decode cX6_watch 13 = .ok (.irem, 1) := by decide +kernel
theorem dX6_watch_14 : decode cX6_watch 14 = .ok (.istore_n 3, 1) := by decide +kernel
theorem dX6_watch_15 : decode cX6_watch 15 = .ok (.iload_n 3, 1) := by decide +kernel
theorem dX6_watch_16 : decode cX6_watch 16 = .ok (.iload_n 1, 1) := by decide +kernel
theorem dX6_watch_17 : decode cX6_watch 17 = .ok (.if_icmp .eq 11, 3) := by decide +kernel
theorem dX6_watch_20 : decode cX6_watch 20 = .ok (.aload_n 0, 1) := by decide +kernel
theorem dX6_watch_21 : decode cX6_watch 21 = .ok (.iload_n 3, 1) := by decide +kernel
theorem dX6_watch_22 : decode cX6_watch 22 = .ok (.invokevirtual 82, 3) := by decide +kernel
theorem dX6_watch_25 : decode cX6_watch 25 = .ok (.ifCond .ne 4, 3) := by decide +kernel
theorem dX6_watch_28 : decode cX6_watch 28 = .ok (.return_, 1) := by decide +kernel
theorem dX6_watch_29 : decode cX6_watch 29 = .ok (.aload_n 0, 1) := by decide +kernel
theorem dX6_watch_30 : decode cX6_watch 30 = .ok (.iload_n 3, 1) := by decide +kernel
theorem dX6_watch_31 : decode cX6_watch 31 = .ok (.invokevirtual 86, 3) := by decide +kernel
def k67_0 : List (Nat × XI) := [(0, x_aload 0 1), (1, x_getI 6 4 4), (4, x_ifgt 8 7), (7, x_ret), (8, x_iload 2 9), (9, x_aload 0 10), (10, x_getI 6 4 13), (13, x_irem 14), (14, x_istore 3 15), (15, x_iload 3 16), (16, x_iload 1 17), (17, x_iceq 28 20), (20, x_aload 0 21), (21, x_iload 3 22), (22, x_inv 53 6 1 25), (25, x_ifne 29 28), (28, x_ret), (29, x_aload 0 30), (30, x_iload 3 31), (31, x_inv 54 6 1 34)]
theorem o67_0 (scr : Nat × (Nat → Int32)) : ∀ q ∈ k67_0, XSnd xm scr Y67 q.1 q.2 := xcons (s_aload_n rfl dX6_watch_0) (xcons (s_getI (f := 4) xC6 (by decide) xw_127 rfl dX6_watch_1) (xcons (s_ifgt dX6_watch_4 rfl) (xcons (s_ret dX6_watch_7 rfl) (xcons (s_iload_n rfl dX6_watch_8) (xcons (s_aload_n rfl dX6_watch_9) (xcons (s_getI (f := 4) xC6 (by decide) xw_127 rfl dX6_watch_10) (xcons (s_irem dX6_watch_13) (xcons (s_istore_n rfl dX6_watch_14 (by decide)) (xcons (s_iload_n rfl dX6_watch_15) (xcons (s_iload_n rfl dX6_watch_16) (xcons (s_iceq dX6_watch_17 rfl) (xcons (s_aload_n rfl dX6_watch_20) (xcons (s_iload_n rfl dX6_watch_21) (xcons (s_inv (mid := 53) xC6 cal_53 xw_130 xw_131 xw_132 dX6_watch_22) (xcons (s_ifne dX6_watch_25 rfl) (xcons (s_ret dX6_watch_28 rfl) (xcons (s_aload_n rfl dX6_watch_29) (xcons (s_iload_n rfl dX6_watch_30) (xcons (s_inv (mid := 54) xC6 cal_54 xw_134 xw_135 xw_136 dX6_watch_31) (xnil))))))))))))))))))))
theorem dX6_watch_34 : decode cX6_watch 34 = .ok (.ifCond .ne 18, 3) := by decide +kernel
theorem dX6_watch_37 : decode cX6_watch 37 = .ok (.aload_n 0, 1) := by decide +kernel
theorem dX6_watch_38 : decode cX6_watch 38 = .ok (.iload_n 1, 1) := by decide +kernel
theorem dX6_watch_39 : decode cX6_watch 39 = .ok (.iload_n 1, 1) := by decide +kernel
theorem dX6_watch_40 : decode cX6_watch 40 = .ok (.sipush 200, 3) := by decide +kernel
theorem dX6_watch_43 : decode cX6_watch 43 = .ok (.iload_n 3, 1) := by decide +kernel
theorem dX6_watch_44 : decode cX6_watch 44 = .ok (.iadd, 1) := by decide +kernel
theorem dX6_watch_45 : decode cX6_watch 45 = .ok (.invokevirtual 154, 3) := by decide +kernel
theorem dX6_watch_48 : decode cX6_watch 48 = .ok (.pop, 1) := by decide +kernel
theorem dX6_watch_49 : decode cX6_watch 49 = .ok (.goto 33, 3) := by decide +kernel
theorem dX6_watch_52 : decode cX6_watch 52 = .ok (.aload_n 0, 1) := by decide +kernel
theorem dX6_watch_53 : decode cX6_watch 53 = .ok (.getfield 11, 3) := by decide +kernel
theorem dX6_watch_56 : decode cX6_watch 56 = .ok (.iload_n 3, 1) := by decide +kernel
theorem dX6_watch_57 : decode cX6_watch 57 = .ok (.aaload, 1) := by decide +kernel
theorem dX6_watch_58 : decode cX6_watch 58 = .ok (.getfield 206, 3) := by decide +kernel
theorem dX6_watch_61 : decode cX6_watch 61 = .ok (.iload_n 1, 1) := by decide +kernel
theorem dX6_watch_62 : decode cX6_watch 62 = .ok (.invokevirtual 209, 3) := by decide +kernel
theorem dX6_watch_65 : decode cX6_watch 65 = .ok (.ifCond .ne 17, 3) := by decide +kernel
theorem dX6_watch_68 : decode cX6_watch 68 = .ok (.aload_n 0, 1) := by decide +kernel
theorem dX6_watch_69 : decode cX6_watch 69 = .ok (.getfield 11, 3) := by decide +kernel
def k67_1 : List (Nat × XI) := [(34, x_ifne 52 37), (37, x_aload 0 38), (38, x_iload 1 39), (39, x_iload 1 40), (40, x_push (200) 43), (43, x_iload 3 44), (44, x_iadd 45), (45, x_inv 63 6 3 48), (48, x_pop 49), (49, x_goto 82), (52, x_aload 0 53), (53, x_getR 6 0 56), (56, x_iload 3 57), (57, x_aald 58), (58, x_getR 0 10 61), (61, x_iload 1 62), (62, x_inv 11 2 1 65), (65, x_ifne 82 68), (68, x_aload 0 69), (69, x_getR 6 0 72)]
theorem o67_1 (scr : Nat × (Nat → Int32)) : ∀ q ∈ k67_1, XSnd xm scr Y67 q.1 q.2 := xcons (s_ifne dX6_watch_34 rfl) (xcons (s_aload_n rfl dX6_watch_37) (xcons (s_iload_n rfl dX6_watch_38) (xcons (s_iload_n rfl dX6_watch_39) (xcons (s_sipush dX6_watch_40 rfl) (xcons (s_iload_n rfl dX6_watch_43) (xcons (s_iadd dX6_watch_44) (xcons (s_inv (mid := 63) xC6 cal_63 xw_181 xw_182 xw_183 dX6_watch_45) (xcons (s_pop dX6_watch_48) (xcons (s_goto dX6_watch_49 rfl) (xcons (s_aload_n rfl dX6_watch_52) (xcons (s_getR (f := 0) xC6 (by decide) xw_137 rfl dX6_watch_53) (xcons (s_iload_n rfl dX6_watch_56) (xcons (s_aald dX6_watch_57) (xcons (s_getR (f := 10) xC0 (by decide) xw_249 rfl dX6_watch_58) (xcons (s_iload_n rfl dX6_watch_61) (xcons (s_inv (mid := 11) xC2 cal_11 xw_317 xw_318 xw_319 dX6_watch_62) (xcons (s_ifne dX6_watch_65 rfl) (xcons (s_aload_n rfl dX6_watch_68) (xcons (s_getR (f := 0) xC6 (by decide) xw_137 rfl dX6_watch_69) (xnil))))))))))))))))))))
theorem dX6_watch_72 : decode cX6_watch 72 = .ok (.iload_n 3, 1) := by decide +kernel
theorem dX6_watch_73 : decode cX6_watch 73 = .ok (.aaload, 1) := by decide +kernel
theorem dX6_watch_74 : decode cX6_watch 74 = .ok (.getfield 206, 3) := by decide +kernel
theorem dX6_watch_77 : decode cX6_watch 77 = .ok (.iload_n 1, 1) := by decide +kernel
theorem dX6_watch_78 : decode cX6_watch 78 = .ok (.invokevirtual 188, 3) := by decide +kernel
theorem dX6_watch_81 : decode cX6_watch 81 = .ok (.pop, 1) := by decide +kernel
theorem dX6_watch_82 : decode cX6_watch 82 = .ok (.return_, 1) := by decide +kernel
def k67_2 : List (Nat × XI) := [(72, x_iload 3 73), (73, x_aald 74), (74, x_getR 0 10 77), (77, x_iload 1 78), (78, x_inv 5 2 1 81), (81, x_pop 82), (82, x_ret)]
theorem o67_2 (scr : Nat × (Nat → Int32)) : ∀ q ∈ k67_2, XSnd xm scr Y67 q.1 q.2 := xcons (s_iload_n rfl dX6_watch_72) (xcons (s_aald dX6_watch_73) (xcons (s_getR (f := 10) xC0 (by decide) xw_249 rfl dX6_watch_74) (xcons (s_iload_n rfl dX6_watch_77) (xcons (s_inv (mid := 5) xC2 cal_5 xw_190 xw_44 xw_45 dX6_watch_78) (xcons (s_pop dX6_watch_81) (xcons (s_ret dX6_watch_82 rfl) (xnil)))))))
def k67 (pc : Nat) : XI := if pc < 34 then xlk k67_0 pc else if pc < 72 then xlk k67_1 pc else xlk k67_2 pc
theorem o67 (scr : Nat × (Nat → Int32)) (pc : Nat) : XSnd xm scr Y67 pc (k67 pc) := by
  unfold k67
  exact xite (xlk_ok (o67_0 scr) pc) (xite (xlk_ok (o67_1 scr) pc) (xlk_ok (o67_2 scr) pc))
theorem dX7_actor_0 : decode cX7_actor 0 = .ok (.iload_n 3, 1) := by decide +kernel
theorem dX7_actor_1 : decode cX7_actor 1 = .ok (.ifCond .ge 5, 3) := by decide +kernel
theorem dX7_actor_4 : decode cX7_actor 4 = .ok (.iconst (-1), 1) := by decide +kernel
theorem dX7_actor_5 : decode cX7_actor 5 = .ok (.ireturn, 1) := by decide +kernel
theorem dX7_actor_6 : decode cX7_actor 6 = .ok (.aload_n 0, 1) := by decide +kernel
theorem dX7_actor_7 : decode cX7_actor 7 = .ok (.getfield 10, 3) := by decide +kernel
theorem dX7_actor_10 : decode cX7_actor 10 = .ok (.iload_n 1, 1) := by decide +kernel
theorem dX7_actor_11 : decode cX7_actor 11 = .ok (.iload_n 2, 1) := by decide +kernel
theorem dX7_actor_12 : decode cX7_actor 12 = .ok (.iload_n 3, 1) := by decide +kernel
theorem dX7_actor_13 : decode cX7_actor 13 = .ok (.sipush 1000, 3) := by decide +kernel
theorem dX7_actor_16 : decode cX7_actor 16 = .ok (.idiv, 1) := by decide +kernel
theorem dX7_actor_17 : decode cX7_actor 17 = .ok (.iload_n 3, 1) := by decide +kernel
theorem dX7_actor_18 : decode cX7_actor 18 = .ok (.bipush 100, 2) := by decide +kernel
theorem dX7_actor_20 : decode cX7_actor 20 = .ok (.idiv, 1) := by decide +kernel
theorem dX7_actor_21 : decode cX7_actor 21 = .ok (.bipush 10, 2) := by decide +kernel
theorem dX7_actor_23 : decode cX7_actor 23 = .ok (.irem, 1) := by decide +kernel
theorem dX7_actor_24 : decode cX7_actor 24 = .ok (.iload_n 3, 1) := by decide +kernel
theorem dX7_actor_25 : decode cX7_actor 25 = .ok (.bipush 100, 2) := by decide +kernel
theorem dX7_actor_27 : decode cX7_actor 27 = .ok (.irem, 1) := by decide +kernel
theorem dX7_actor_28 : decode cX7_actor 28 = .ok (.invokevirtual 39, 3) := by decide +kernel
def k68_0 : List (Nat × XI) := [(0, x_iload 3 1), (1, x_ifge 6 4), (4, x_push (-1) 5), (5, x_iret), (6, x_aload 0 7), (7, x_getR 7 0 10), (10, x_iload 1 11), (11, x_iload 2 12), (12, x_iload 3 13), (13, x_push (1000) 16), (16, x_idiv 17), (17, x_iload 3 18), (18, x_push (100) 20), (20, x_idiv 21), (21, x_push (10) 23), (23, x_irem 24), (24, x_iload 3 25), (25, x_push (100) 27), (27, x_irem 28), (28, x_inv 40 6 5 31)]
theorem o68_0 (scr : Nat × (Nat → Int32)) : ∀ q ∈ k68_0, XSnd xm scr Y68 q.1 q.2 := xcons (s_iload_n rfl dX7_actor_0) (xcons (s_ifge dX7_actor_1 rfl) (xcons (s_iconst dX7_actor_4 rfl) (xcons (s_iret dX7_actor_5 rfl) (xcons (s_aload_n rfl dX7_actor_6) (xcons (s_getR (f := 0) xC7 (by decide) xw_320 rfl dX7_actor_7) (xcons (s_iload_n rfl dX7_actor_10) (xcons (s_iload_n rfl dX7_actor_11) (xcons (s_iload_n rfl dX7_actor_12) (xcons (s_sipush dX7_actor_13 rfl) (xcons (s_idiv dX7_actor_16) (xcons (s_iload_n rfl dX7_actor_17) (xcons (s_bipush dX7_actor_18 rfl) (xcons (s_idiv dX7_actor_20) (xcons (s_bipush dX7_actor_21 rfl) (xcons (s_irem dX7_actor_23) (xcons (s_iload_n rfl dX7_actor_24) (xcons (s_bipush dX7_actor_25 rfl) (xcons (s_irem dX7_actor_27) (xcons (s_inv (mid := 40) xC6 cal_40 xw_322 xw_323 xw_324 dX7_actor_28) (xnil))))))))))))))))))))
theorem dX7_actor_31 : decode cX7_actor 31 = .ok (.ireturn, 1) := by decide +kernel
def k68_1 : List (Nat × XI) := [(31, x_iret)]
theorem o68_1 (scr : Nat × (Nat → Int32)) : ∀ q ∈ k68_1, XSnd xm scr Y68 q.1 q.2 := xcons (s_iret dX7_actor_31 rfl) (xnil)
def k68 (pc : Nat) : XI := if pc < 31 then xlk k68_0 pc else xlk k68_1 pc
theorem o68 (scr : Nat × (Nat → Int32)) (pc : Nat) : XSnd xm scr Y68 pc (k68 pc) := by
  unfold k68
  exact xite (xlk_ok (o68_0 scr) pc) (xlk_ok (o68_1 scr) pc)
theorem dX7_back_0 : decode cX7_back 0 = .ok (.aload_n 0, 1) := by decide +kernel
theorem dX7_back_1 : decode cX7_back 1 = .ok (.getfield 244, 3) := by decide +kernel
theorem dX7_back_4 : decode cX7_back 4 = .ok (.ifCond .ne 6, 3) := by decide +kernel
theorem dX7_back_7 : decode cX7_back 7 = .ok (.bipush (-5), 2) := by decide +kernel
theorem dX7_back_9 : decode cX7_back 9 = .ok (.ireturn, 1) := by decide +kernel
theorem dX7_back_10 : decode cX7_back 10 = .ok (.aload_n 0, 1) := by decide +kernel
theorem dX7_back_11 : decode cX7_back 11 = .ok (.getfield 10, 3) := by decide +kernel
theorem dX7_back_14 : decode cX7_back 14 = .ok (.aload_n 0, 1) := by decide +kernel
theorem dX7_back_15 : decode cX7_back 15 = .ok (.getfield 19, 3) := by decide +kernel
theorem dX7_back_18 : decode cX7_back 18 = .ok (.invokevirtual 172, 3) := by decide +kernel
theorem dX7_back_21 : decode cX7_back 21 = .ok (.iconst 0, 1) := by decide +kernel
theorem dX7_back_22 : decode cX7_back 22 = .ok (.istore_n 1, 1) := by decide +kernel
theorem dX7_back_23 : decode cX7_back 23 = .ok (.iload_n 1, 1) := by decide +kernel
theorem dX7_back_24 : decode cX7_back 24 = .ok (.aload_n 0, 1) := by decide +kernel
theorem dX7_back_25 : decode cX7_back 25 = .ok (.getfield 34, 3) := by decide +kernel
theorem dX7_back_28 : decode cX7_back 28 = .ok (.arraylength, 1) := by decide +kernel
theorem dX7_back_29 : decode cX7_back 29 = .ok (.if_icmp .ge 51, 3) := by decide +kernel
theorem dX7_back_32 : decode cX7_back 32 = .ok (.aload_n 0, 1) := by decide +kernel
theorem dX7_back_33 : decode cX7_back 33 = .ok (.getfield 34, 3) := by decide +kernel
theorem dX7_back_36 : decode cX7_back 36 = .ok (.iload_n 1, 1) := by decide +kernel
def k69_0 : List (Nat × XI) := [(0, x_aload 0 1), (1, x_getI 7 6 4), (4, x_ifne 10 7), (7, x_push (-5) 9), (9, x_iret), (10, x_aload 0 11), (11, x_getR 7 0 14), (14, x_aload 0 15), (15, x_getR 7 2 18), (18, x_inv 42 6 1 21), (21, x_push (0) 22), (22, x_istore 1 23), (23, x_iload 1 24), (24, x_aload 0 25), (25, x_getR 7 5 28), (28, x_len 29), (29, x_icge 80 32), (32, x_aload 0 33), (33, x_getR 7 5 36), (36, x_iload 1 37)]
theorem o69_0 (scr : Nat × (Nat → Int32)) : ∀ q ∈ k69_0, XSnd xm scr Y69 q.1 q.2 := xcons (s_aload_n rfl dX7_back_0) (xcons (s_getI (f := 6) xC7 (by decide) xw_325 rfl dX7_back_1) (xcons (s_ifne dX7_back_4 rfl) (xcons (s_bipush dX7_back_7 rfl) (xcons (s_iret dX7_back_9 rfl) (xcons (s_aload_n rfl dX7_back_10) (xcons (s_getR (f := 0) xC7 (by decide) xw_320 rfl dX7_back_11) (xcons (s_aload_n rfl dX7_back_14) (xcons (s_getR (f := 2) xC7 (by decide) xw_326 rfl dX7_back_15) (xcons (s_inv (mid := 42) xC6 cal_42 xw_328 xw_329 xw_330 dX7_back_18) (xcons (s_iconst dX7_back_21 rfl) (xcons (s_istore_n rfl dX7_back_22 (by decide)) (xcons (s_iload_n rfl dX7_back_23) (xcons (s_aload_n rfl dX7_back_24) (xcons (s_getR (f := 5) xC7 (by decide) xw_331 rfl dX7_back_25) (xcons (s_len dX7_back_28) (xcons (s_icge dX7_back_29 rfl) (xcons (s_aload_n rfl dX7_back_32) (xcons (s_getR (f := 5) xC7 (by decide) xw_331 rfl dX7_back_33) (xcons (s_iload_n rfl dX7_back_36) (xnil))))))))))))))))))))
theorem dX7_back_37 : decode cX7_back 37 = .ok (.aaload, 1) := by decide +kernel
theorem dX7_back_38 : decode cX7_back 38 = .ok (.getfield 235, 3) := by decide +kernel
theorem dX7_back_41 : decode cX7_back 41 = .ok (.iconst 1, 1) := by decide +kernel
theorem dX7_back_42 : decode cX7_back 42 = .ok (.if_icmp .ne 32, 3) := by decide +kernel
theorem dX7_back_45 : decode cX7_back 45 = .ok (.aload_n 0, 1) := by decide +kernel
theorem dX7_back_46 : decode cX7_back 46 = .ok (.getfield 10, 3) := by decide +kernel
theorem dX7_back_49 : decode cX7_back 49 = .ok (.aload_n 0, 1) := by decide +kernel
theorem dX7_back_50 : decode cX7_back 50 = .ok (.getfield 34, 3) := by decide +kernel
theorem dX7_back_53 : decode cX7_back 53 = .ok (.iload_n 1, 1) := by decide +kernel
theorem dX7_back_54 : decode cX7_back 54 = .ok (.aaload, 1) := by decide +kernel
theorem dX7_back_55 : decode cX7_back 55 = .ok (.getfield 247, 3) := by decide +kernel
theorem dX7_back_58 : decode cX7_back 58 = .ok (.invokevirtual 43, 3) := by decide +kernel
theorem dX7_back_61 : decode cX7_back 61 = .ok (.ifCond .ne 13, 3) := by decide +kernel
theorem dX7_back_64 : decode cX7_back 64 = .ok (.aload_n 0, 1) := by decide +kernel
theorem dX7_back_65 : decode cX7_back 65 = .ok (.getfield 34, 3) := by decide +kernel
theorem dX7_back_68 : decode cX7_back 68 = .ok (.iload_n 1, 1) := by decide +kernel
theorem dX7_back_69 : decode cX7_back 69 = .ok (.aaload, 1) := by decide +kernel
theorem dX7_back_70 : decode cX7_back 70 = .ok (.iconst 0, 1) := by decide +kernel
theorem dX7_back_71 : decode cX7_back 71 = .ok (.putfield 235, 3) := by decide +kernel
theorem dX7_back_74 : decode cX7_back 74 = .ok (.iinc 1 1, 3) := by decide +kernel
def k69_1 : List (Nat × XI) := [(37, x_aald 38), (38, x_getI 1 1 41), (41, x_push (1) 42), (42, x_icne 74 45), (45, x_aload 0 46), (46, x_getR 7 0 49), (49, x_aload 0 50), (50, x_getR 7 5 53), (53, x_iload 1 54), (54, x_aald 55), (55, x_getI 1 2 58), (58, x_inv 53 6 1 61), (61, x_ifne 74 64), (64, x_aload 0 65), (65, x_getR 7 5 68), (68, x_iload 1 69), (69, x_aald 70), (70, x_push (0) 71), (71, x_putI 1 1 74), (74, x_iinc 1 (1) 77)]
theorem o69_1 (scr : Nat × (Nat → Int32)) : ∀ q ∈ k69_1, XSnd xm scr Y69 q.1 q.2 := xcons (s_aald dX7_back_37) (xcons (s_getI (f := 1) xC1 (by decide) xw_332 rfl dX7_back_38) (xcons (s_iconst dX7_back_41 rfl) (xcons (s_icne dX7_back_42 rfl) (xcons (s_aload_n rfl dX7_back_45) (xcons (s_getR (f := 0) xC7 (by decide) xw_320 rfl dX7_back_46) (xcons (s_aload_n rfl dX7_back_49) (xcons (s_getR (f := 5) xC7 (by decide) xw_331 rfl dX7_back_50) (xcons (s_iload_n rfl dX7_back_53) (xcons (s_aald dX7_back_54) (xcons (s_getI (f := 2) xC1 (by decide) xw_333 rfl dX7_back_55) (xcons (s_inv (mid := 53) xC6 cal_53 xw_334 xw_131 xw_132 dX7_back_58) (xcons (s_ifne dX7_back_61 rfl) (xcons (s_aload_n rfl dX7_back_64) (xcons (s_getR (f := 5) xC7 (by decide) xw_331 rfl dX7_back_65) (xcons (s_iload_n rfl dX7_back_68) (xcons (s_aald dX7_back_69) (xcons (s_iconst dX7_back_70 rfl) (xcons (s_putI (f := 1) xC1 (by decide) xw_332 rfl (Or.inl rfl) dX7_back_71) (xcons (s_iinc dX7_back_74 rfl (by decide)) (xnil))))))))))))))))))))
theorem dX7_back_77 : decode cX7_back 77 = .ok (.goto (-54), 3) := by decide +kernel
theorem dX7_back_80 : decode cX7_back 80 = .ok (.aload_n 0, 1) := by decide +kernel
theorem dX7_back_81 : decode cX7_back 81 = .ok (.getfield 10, 3) := by decide +kernel
theorem dX7_back_84 : decode cX7_back 84 = .ok (.getfield 225, 3) := by decide +kernel
theorem dX7_back_87 : decode cX7_back 87 = .ok (.ireturn, 1) := by decide +kernel
def k69_2 : List (Nat × XI) := [(77, x_goto 23), (80, x_aload 0 81), (81, x_getR 7 0 84), (84, x_getI 6 4 87), (87, x_iret)]
theorem o69_2 (scr : Nat × (Nat → Int32)) : ∀ q ∈ k69_2, XSnd xm scr Y69 q.1 q.2 := xcons (s_goto dX7_back_77 rfl) (xcons (s_aload_n rfl dX7_back_80) (xcons (s_getR (f := 0) xC7 (by decide) xw_320 rfl dX7_back_81) (xcons (s_getI (f := 4) xC6 (by decide) xw_335 rfl dX7_back_84) (xcons (s_iret dX7_back_87 rfl) (xnil)))))
def k69 (pc : Nat) : XI := if pc < 37 then xlk k69_0 pc else if pc < 77 then xlk k69_1 pc else xlk k69_2 pc
theorem o69 (scr : Nat × (Nat → Int32)) (pc : Nat) : XSnd xm scr Y69 pc (k69 pc) := by
  unfold k69
  exact xite (xlk_ok (o69_0 scr) pc) (xite (xlk_ok (o69_1 scr) pc) (xlk_ok (o69_2 scr) pc))
theorem dX7_count_0 : decode cX7_count 0 = .ok (.iload_n 1, 1) := by decide +kernel
theorem dX7_count_1 : decode cX7_count 1 = .ok (.tableswitch 150 0 9 #[55, 63, 74, 82, 93, 101, 109, 117, 128, 139], 55) := by decide +kernel
theorem dX7_count_56 : decode cX7_count 56 = .ok (.aload_n 0, 1) := by decide +kernel
theorem dX7_count_57 : decode cX7_count 57 = .ok (.getfield 10, 3) := by decide +kernel
theorem dX7_count_60 : decode cX7_count 60 = .ok (.getfield 225, 3) := by decide +kernel
theorem dX7_count_63 : decode cX7_count 63 = .ok (.ireturn, 1) := by decide +kernel
theorem dX7_count_64 : decode cX7_count 64 = .ok (.aload_n 0, 1) := by decide +kernel
theorem dX7_count_65 : decode cX7_count 65 = .ok (.getfield 10, 3) := by decide +kernel
theorem dX7_count_68 : decode cX7_count 68 = .ok (.invokevirtual 176, 3) := by decide +kernel
theorem dX7_count_71 : decode cX7_count 71 = .ok (.invokestatic 258, 3) := by decide +kernel
theorem dX7_count_74 : decode cX7_count 74 = .ok (.ireturn, 1) := by decide +kernel
theorem dX7_count_75 : decode cX7_count 75 = .ok (.aload_n 0, 1) := by decide +kernel
theorem dX7_count_76 : decode cX7_count 76 = .ok (.getfield 10, 3) := by decide +kernel
theorem dX7_count_79 : decode cX7_count 79 = .ok (.invokevirtual 263, 3) := by decide +kernel
theorem dX7_count_82 : decode cX7_count 82 = .ok (.ireturn, 1) := by decide +kernel
theorem dX7_count_83 : decode cX7_count 83 = .ok (.aload_n 0, 1) := by decide +kernel
theorem dX7_count_84 : decode cX7_count 84 = .ok (.getfield 10, 3) := by decide +kernel
theorem dX7_count_87 : decode cX7_count 87 = .ok (.getfield 106, 3) := by decide +kernel
theorem dX7_count_90 : decode cX7_count 90 = .ok (.getfield 141, 3) := by decide +kernel
theorem dX7_count_93 : decode cX7_count 93 = .ok (.ireturn, 1) := by decide +kernel
def k72_0 : List (Nat × XI) := [(0, x_iload 1 1), (1, x_tsw (0) (9) [56, 64, 75, 83, 94, 102, 110, 118, 129, 140] 151), (56, x_aload 0 57), (57, x_getR 7 0 60), (60, x_getI 6 4 63), (63, x_iret), (64, x_aload 0 65), (65, x_getR 7 0 68), (68, x_inv 58 6 0 71), (71, x_invS 189 1 74), (74, x_iret), (75, x_aload 0 76), (76, x_getR 7 0 79), (79, x_inv 59 6 0 82), (82, x_iret), (83, x_aload 0 84), (84, x_getR 7 0 87), (87, x_getR 6 1 90), (90, x_getI 5 3 93), (93, x_iret)]
theorem o72_0 (scr : Nat × (Nat → Int32)) : ∀ q ∈ k72_0, XSnd xm scr Y72 q.1 q.2 := xcons (s_iload_n rfl dX7_count_0) (xcons (s_tsw dX7_count_1 rfl rfl) (xcons (s_aload_n rfl dX7_count_56) (xcons (s_getR (f := 0) xC7 (by decide) xw_320 rfl dX7_count_57) (xcons (s_getI (f := 4) xC6 (by decide) xw_335 rfl dX7_count_60) (xcons (s_iret dX7_count_63 rfl) (xcons (s_aload_n rfl dX7_count_64) (xcons (s_getR (f := 0) xC7 (by decide) xw_320 rfl dX7_count_65) (xcons (s_inv (mid := 58) xC6 cal_58 xw_342 xw_343 xw_344 dX7_count_68) (xcons (s_invS (mid := 189) cal_189 xw_351 xw_352 dX7_count_71) (xcons (s_iret dX7_count_74 rfl) (xcons (s_aload_n rfl dX7_count_75) (xcons (s_getR (f := 0) xC7 (by decide) xw_320 rfl dX7_count_76) (xcons (s_inv (mid := 59) xC6 cal_59 xw_354 xw_355 xw_356 dX7_count_79) (xcons (s_iret dX7_count_82 rfl) (xcons (s_aload_n rfl dX7_count_83) (xcons (s_getR (f := 0) xC7 (by decide) xw_320 rfl dX7_count_84) (xcons (s_getR (f := 1) xC6 (by decide) xw_357 rfl dX7_count_87) (xcons (s_getI (f := 3) xC5 (by decide) xw_358 rfl dX7_count_90) (xcons (s_iret dX7_count_93 rfl) (xnil))))))))))))))))))))
theorem dX7_count_94 : decode cX7_count 94 = .ok (.aload_n 0, 1) := by decide +kernel
theorem dX7_count_95 : decode cX7_count 95 = .ok (.getfield 10, 3) := by decide +kernel
theorem dX7_count_98 : decode cX7_count 98 = .ok (.getfield 180, 3) := by decide +kernel
theorem dX7_count_101 : decode cX7_count 101 = .ok (.ireturn, 1) := by decide +kernel
theorem dX7_count_102 : decode cX7_count 102 = .ok (.aload_n 0, 1) := by decide +kernel
theorem dX7_count_103 : decode cX7_count 103 = .ok (.getfield 10, 3) := by decide +kernel
theorem dX7_count_106 : decode cX7_count 106 = .ok (.getfield 183, 3) := by decide +kernel
theorem dX7_count_109 : decode cX7_count 109 = .ok (.ireturn, 1) := by decide +kernel
theorem dX7_count_110 : decode cX7_count 110 = .ok (.aload_n 0, 1) := by decide +kernel
theorem dX7_count_111 : decode cX7_count 111 = .ok (.getfield 10, 3) := by decide +kernel
theorem dX7_count_114 : decode cX7_count 114 = .ok (.getfield 118, 3) := by decide +kernel
theorem dX7_count_117 : decode cX7_count 117 = .ok (.ireturn, 1) := by decide +kernel
theorem dX7_count_118 : decode cX7_count 118 = .ok (.aload_n 0, 1) := by decide +kernel
theorem dX7_count_119 : decode cX7_count 119 = .ok (.getfield 10, 3) := by decide +kernel
theorem dX7_count_122 : decode cX7_count 122 = .ok (.getfield 169, 3) := by decide +kernel
theorem dX7_count_125 : decode cX7_count 125 = .ok (.getfield 64, 3) := by decide +kernel
theorem dX7_count_128 : decode cX7_count 128 = .ok (.ireturn, 1) := by decide +kernel
theorem dX7_count_129 : decode cX7_count 129 = .ok (.aload_n 0, 1) := by decide +kernel
theorem dX7_count_130 : decode cX7_count 130 = .ok (.getfield 10, 3) := by decide +kernel
theorem dX7_count_133 : decode cX7_count 133 = .ok (.getfield 166, 3) := by decide +kernel
def k72_1 : List (Nat × XI) := [(94, x_aload 0 95), (95, x_getR 7 0 98), (98, x_getI 6 8 101), (101, x_iret), (102, x_aload 0 103), (103, x_getR 7 0 106), (106, x_getI 6 7 109), (109, x_iret), (110, x_aload 0 111), (111, x_getR 7 0 114), (114, x_getI 6 6 117), (117, x_iret), (118, x_aload 0 119), (119, x_getR 7 0 122), (122, x_getR 6 3 125), (125, x_getI 3 2 128), (128, x_iret), (129, x_aload 0 130), (130, x_getR 7 0 133), (133, x_getR 6 2 136)]
theorem o72_1 (scr : Nat × (Nat → Int32)) : ∀ q ∈ k72_1, XSnd xm scr Y72 q.1 q.2 := xcons (s_aload_n rfl dX7_count_94) (xcons (s_getR (f := 0) xC7 (by decide) xw_320 rfl dX7_count_95) (xcons (s_getI (f := 8) xC6 (by decide) xw_359 rfl dX7_count_98) (xcons (s_iret dX7_count_101 rfl) (xcons (s_aload_n rfl dX7_count_102) (xcons (s_getR (f := 0) xC7 (by decide) xw_320 rfl dX7_count_103) (xcons (s_getI (f := 7) xC6 (by decide) xw_360 rfl dX7_count_106) (xcons (s_iret dX7_count_109 rfl) (xcons (s_aload_n rfl dX7_count_110) (xcons (s_getR (f := 0) xC7 (by decide) xw_320 rfl dX7_count_111) (xcons (s_getI (f := 6) xC6 (by decide) xw_361 rfl dX7_count_114) (xcons (s_iret dX7_count_117 rfl) (xcons (s_aload_n rfl dX7_count_118) (xcons (s_getR (f := 0) xC7 (by decide) xw_320 rfl dX7_count_119) (xcons (s_getR (f := 3) xC6 (by decide) xw_345 rfl dX7_count_122) (xcons (s_getI (f := 2) xC3 (by decide) xw_346 rfl dX7_count_125) (xcons (s_iret dX7_count_128 rfl) (xcons (s_aload_n rfl dX7_count_129) (xcons (s_getR (f := 0) xC7 (by decide) xw_320 rfl dX7_count_130) (xcons (s_getR (f := 2) xC6 (by decide) xw_362 rfl dX7_count_133) (xnil))))))))))))))))))))
theorem dX7_count_136 : decode cX7_count 136 = .ok (.getfield 64, 3) := by decide +kernel
theorem dX7_count_139 : decode cX7_count 139 = .ok (.ireturn, 1) := by decide +kernel
theorem dX7_count_140 : decode cX7_count 140 = .ok (.aload_n 0, 1) := by decide +kernel
theorem dX7_count_141 : decode cX7_count 141 = .ok (.getfield 28, 3) := by decide +kernel
theorem dX7_count_144 : decode cX7_count 144 = .ok (.getfield 207, 3) := by decide +kernel
theorem dX7_count_147 : decode cX7_count 147 = .ok (.getfield 93, 3) := by decide +kernel
theorem dX7_count_150 : decode cX7_count 150 = .ok (.ireturn, 1) := by decide +kernel
theorem dX7_count_151 : decode cX7_count 151 = .ok (.iconst (-1), 1) := by decide +kernel
theorem dX7_count_152 : decode cX7_count 152 = .ok (.ireturn, 1) := by decide +kernel
def k72_2 : List (Nat × XI) := [(136, x_getI 3 2 139), (139, x_iret), (140, x_aload 0 141), (141, x_getR 7 4 144), (144, x_getR 4 0 147), (147, x_getI 2 1 150), (150, x_iret), (151, x_push (-1) 152), (152, x_iret)]
theorem o72_2 (scr : Nat × (Nat → Int32)) : ∀ q ∈ k72_2, XSnd xm scr Y72 q.1 q.2 := xcons (s_getI (f := 2) xC3 (by decide) xw_346 rfl dX7_count_136) (xcons (s_iret dX7_count_139 rfl) (xcons (s_aload_n rfl dX7_count_140) (xcons (s_getR (f := 4) xC7 (by decide) xw_363 rfl dX7_count_141) (xcons (s_getR (f := 0) xC4 (by decide) xw_364 rfl dX7_count_144) (xcons (s_getI (f := 1) xC2 (by decide) xw_365 rfl dX7_count_147) (xcons (s_iret dX7_count_150 rfl) (xcons (s_iconst dX7_count_151 rfl) (xcons (s_iret dX7_count_152 rfl) (xnil)))))))))
def k72 (pc : Nat) : XI := if pc < 94 then xlk k72_0 pc else if pc < 136 then xlk k72_1 pc else xlk k72_2 pc
theorem o72 (scr : Nat × (Nat → Int32)) (pc : Nat) : XSnd xm scr Y72 pc (k72 pc) := by
  unfold k72
  exact xite (xlk_ok (o72_0 scr) pc) (xite (xlk_ok (o72_1 scr) pc) (xlk_ok (o72_2 scr) pc))
theorem dX7_counted_0 : decode cX7_counted 0 = .ok (.aload_n 0, 1) := by decide +kernel
theorem dX7_counted_1 : decode cX7_counted 1 = .ok (.getfield 10, 3) := by decide +kernel
theorem dX7_counted_4 : decode cX7_counted 4 = .ok (.iload_n 1, 1) := by decide +kernel
theorem dX7_counted_5 : decode cX7_counted 5 = .ok (.invokevirtual 43, 3) := by decide +kernel
theorem dX7_counted_8 : decode cX7_counted 8 = .ok (.ifCond .eq 18, 3) := by decide +kernel
theorem dX7_counted_11 : decode cX7_counted 11 = .ok (.aload_n 0, 1) := by decide +kernel
theorem dX7_counted_12 : decode cX7_counted 12 = .ok (.getfield 10, 3) := by decide +kernel
theorem dX7_counted_15 : decode cX7_counted 15 = .ok (.getfield 54, 3) := by decide +kernel
theorem dX7_counted_18 : decode cX7_counted 18 = .ok (.iload_n 1, 1) := by decide +kernel
theorem dX7_counted_19 : decode cX7_counted 19 = .ok (.aaload, 1) := by decide +kernel
theorem dX7_counted_20 : decode cX7_counted 20 = .ok (.getfield 127, 3) := by decide +kernel
theorem dX7_counted_23 : decode cX7_counted 23 = .ok (.goto 5, 3) := by decide +kernel
theorem dX7_counted_26 : decode cX7_counted 26 = .ok (.ldc 130, 2) := by decide +kernel
theorem dX7_counted_28 : decode cX7_counted 28 = .ok (.ireturn, 1) := by decide +kernel
def k73_0 : List (Nat × XI) := [(0, x_aload 0 1), (1, x_getR 7 0 4), (4, x_iload 1 5), (5, x_inv 53 6 1 8), (8, x_ifeq 26 11), (11, x_aload 0 12), (12, x_getR 7 0 15), (15, x_getR 6 0 18), (18, x_iload 1 19), (19, x_aald 20), (20, x_getI 0 5 23), (23, x_goto 28), (26, x_push (-2000000000) 28), (28, x_iret)]
theorem o73_0 (scr : Nat × (Nat → Int32)) : ∀ q ∈ k73_0, XSnd xm scr Y73 q.1 q.2 := xcons (s_aload_n rfl dX7_counted_0) (xcons (s_getR (f := 0) xC7 (by decide) xw_320 rfl dX7_counted_1) (xcons (s_iload_n rfl dX7_counted_4) (xcons (s_inv (mid := 53) xC6 cal_53 xw_334 xw_131 xw_132 dX7_counted_5) (xcons (s_ifeq dX7_counted_8 rfl) (xcons (s_aload_n rfl dX7_counted_11) (xcons (s_getR (f := 0) xC7 (by decide) xw_320 rfl dX7_counted_12) (xcons (s_getR (f := 0) xC6 (by decide) xw_366 rfl dX7_counted_15) (xcons (s_iload_n rfl dX7_counted_18) (xcons (s_aald dX7_counted_19) (xcons (s_getI (f := 5) xC0 (by decide) xw_367 rfl dX7_counted_20) (xcons (s_goto dX7_counted_23 rfl) (xcons (s_ldc dX7_counted_26 xw_337) (xcons (s_iret dX7_counted_28 rfl) (xnil))))))))))))))
def k73 (pc : Nat) : XI := xlk k73_0 pc
theorem o73 (scr : Nat × (Nat → Int32)) (pc : Nat) : XSnd xm scr Y73 pc (k73 pc) := by
  unfold k73
  exact xlk_ok (o73_0 scr) pc
theorem dX7_drawn_0 : decode cX7_drawn 0 = .ok (.iload_n 1, 1) := by decide +kernel
theorem dX7_drawn_1 : decode cX7_drawn 1 = .ok (.iconst 1, 1) := by decide +kernel
theorem dX7_drawn_2 : decode cX7_drawn 2 = .ok (.if_icmp .lt 9, 3) := by decide +kernel
theorem dX7_drawn_5 : decode cX7_drawn 5 = .ok (.iload_n 1, 1) := by decide +kernel
theorem dX7_drawn_6 : decode cX7_drawn 6 = .ok (.bipush 40, 2) := by decide +kernel
theorem dX7_drawn_8 : decode cX7_drawn 8 = .ok (.if_icmp .le 5, 3) := by decide +kernel
theorem dX7_drawn_11 : decode cX7_drawn 11 = .ok (.iconst (-1), 1) := by decide +kernel
theorem dX7_drawn_12 : decode cX7_drawn 12 = .ok (.ireturn, 1) := by decide +kernel
theorem dX7_drawn_13 : decode cX7_drawn 13 = .ok (.aload_n 0, 1) := by decide +kernel
theorem dX7_drawn_14 : decode cX7_drawn 14 = .ok (.getfield 10, 3) := by decide +kernel
theorem dX7_drawn_17 : decode cX7_drawn 17 = .ok (.getfield 225, 3) := by decide +kernel
theorem dX7_drawn_20 : decode cX7_drawn 20 = .ok (.ifCond .ne 6, 3) := by decide +kernel
theorem dX7_drawn_23 : decode cX7_drawn 23 = .ok (.bipush (-5), 2) := by decide +kernel
theorem dX7_drawn_25 : decode cX7_drawn 25 = .ok (.ireturn, 1) := by decide +kernel
theorem dX7_drawn_26 : decode cX7_drawn 26 = .ok (.aload_n 0, 1) := by decide +kernel
theorem dX7_drawn_27 : decode cX7_drawn 27 = .ok (.getfield 10, 3) := by decide +kernel
theorem dX7_drawn_30 : decode cX7_drawn 30 = .ok (.getfield 180, 3) := by decide +kernel
theorem dX7_drawn_33 : decode cX7_drawn 33 = .ok (.istore_n 2, 1) := by decide +kernel
theorem dX7_drawn_34 : decode cX7_drawn 34 = .ok (.iconst 0, 1) := by decide +kernel
theorem dX7_drawn_35 : decode cX7_drawn 35 = .ok (.istore_n 3, 1) := by decide +kernel
def k75_0 : List (Nat × XI) := [(0, x_iload 1 1), (1, x_push (1) 2), (2, x_iclt 11 5), (5, x_iload 1 6), (6, x_push (40) 8), (8, x_icle 13 11), (11, x_push (-1) 12), (12, x_iret), (13, x_aload 0 14), (14, x_getR 7 0 17), (17, x_getI 6 4 20), (20, x_ifne 26 23), (23, x_push (-5) 25), (25, x_iret), (26, x_aload 0 27), (27, x_getR 7 0 30), (30, x_getI 6 8 33), (33, x_istore 2 34), (34, x_push (0) 35), (35, x_istore 3 36)]
theorem o75_0 (scr : Nat × (Nat → Int32)) : ∀ q ∈ k75_0, XSnd xm scr Y75 q.1 q.2 := xcons (s_iload_n rfl dX7_drawn_0) (xcons (s_iconst dX7_drawn_1 rfl) (xcons (s_iclt dX7_drawn_2 rfl) (xcons (s_iload_n rfl dX7_drawn_5) (xcons (s_bipush dX7_drawn_6 rfl) (xcons (s_icle dX7_drawn_8 rfl) (xcons (s_iconst dX7_drawn_11 rfl) (xcons (s_iret dX7_drawn_12 rfl) (xcons (s_aload_n rfl dX7_drawn_13) (xcons (s_getR (f := 0) xC7 (by decide) xw_320 rfl dX7_drawn_14) (xcons (s_getI (f := 4) xC6 (by decide) xw_335 rfl dX7_drawn_17) (xcons (s_ifne dX7_drawn_20 rfl) (xcons (s_bipush dX7_drawn_23 rfl) (xcons (s_iret dX7_drawn_25 rfl) (xcons (s_aload_n rfl dX7_drawn_26) (xcons (s_getR (f := 0) xC7 (by decide) xw_320 rfl dX7_drawn_27) (xcons (s_getI (f := 8) xC6 (by decide) xw_359 rfl dX7_drawn_30) (xcons (s_istore_n rfl dX7_drawn_33 (by decide)) (xcons (s_iconst dX7_drawn_34 rfl) (xcons (s_istore_n rfl dX7_drawn_35 (by decide)) (xnil))))))))))))))))))))
theorem dX7_drawn_36 : decode cX7_drawn 36 = .ok (.iload_n 3, 1) := by decide +kernel
theorem dX7_drawn_37 : decode cX7_drawn 37 = .ok (.iload_n 1, 1) := by decide +kernel
theorem dX7_drawn_38 : decode cX7_drawn 38 = .ok (.if_icmp .ge 77, 3) := by decide +kernel
theorem dX7_drawn_41 : decode cX7_drawn 41 = .ok (.aload_n 0, 1) := by decide +kernel
theorem dX7_drawn_42 : decode cX7_drawn 42 = .ok (.getfield 10, 3) := by decide +kernel
theorem dX7_drawn_45 : decode cX7_drawn 45 = .ok (.aload_n 0, 1) := by decide +kernel
theorem dX7_drawn_46 : decode cX7_drawn 46 = .ok (.getfield 10, 3) := by decide +kernel
theorem dX7_drawn_49 : decode cX7_drawn 49 = .ok (.getfield 228, 3) := by decide +kernel
theorem dX7_drawn_52 : decode cX7_drawn 52 = .ok (.ldc 231, 2) := by decide +kernel
theorem dX7_drawn_54 : decode cX7_drawn 54 = .ok (.imul, 1) := by decide +kernel
theorem dX7_drawn_55 : decode cX7_drawn 55 = .ok (.sipush 12345, 3) := by decide +kernel
theorem dX7_drawn_58 : decode cX7_drawn 58 = .ok (.iadd, 1) := by decide +kernel
theorem dX7_drawn_59 : decode cX7_drawn 59 = .ok (.putfield 228, 3) := by decide +kernel
theorem dX7_drawn_62 : decode cX7_drawn 62 = .ok (.aload_n 0, 1) := by decide +kernel
theorem dX7_drawn_63 : decode cX7_drawn 63 = .ok (.getfield 10, 3) := by decide +kernel
theorem dX7_drawn_66 : decode cX7_drawn 66 = .ok (.getfield 228, 3) := by decide +kernel
theorem dX7_drawn_69 : decode cX7_drawn 69 = .ok (.bipush 16, 2) := by decide +kernel
theorem dX7_drawn_71 : decode cX7_drawn 71 = .ok (.iushr, 1) := by decide +kernel
theorem dX7_drawn_72 : decode cX7_drawn 72 = .ok (.sipush 32767, 3) := by decide +kernel
theorem dX7_drawn_75 : decode cX7_drawn 75 = .ok (.iand, 1) := by decide +kernel
def k75_1 : List (Nat × XI) := [(36, x_iload 3 37), (37, x_iload 1 38), (38, x_icge 115 41), (41, x_aload 0 42), (42, x_getR 7 0 45), (45, x_aload 0 46), (46, x_getR 7 0 49), (49, x_getI 6 9 52), (52, x_push (1103515245) 54), (54, x_imul 55), (55, x_push (12345) 58), (58, x_iadd 59), (59, x_putI 6 9 62), (62, x_aload 0 63), (63, x_getR 7 0 66), (66, x_getI 6 9 69), (69, x_push (16) 71), (71, x_iushr 72), (72, x_push (32767) 75), (75, x_iand 76)]
theorem o75_1 (scr : Nat × (Nat → Int32)) : ∀ q ∈ k75_1, XSnd xm scr Y75 q.1 q.2 := xcons (s_iload_n rfl dX7_drawn_36) (xcons (s_iload_n rfl dX7_drawn_37) (xcons (s_icge dX7_drawn_38 rfl) (xcons (s_aload_n rfl dX7_drawn_41) (xcons (s_getR (f := 0) xC7 (by decide) xw_320 rfl dX7_drawn_42) (xcons (s_aload_n rfl dX7_drawn_45) (xcons (s_getR (f := 0) xC7 (by decide) xw_320 rfl dX7_drawn_46) (xcons (s_getI (f := 9) xC6 (by decide) xw_374 rfl dX7_drawn_49) (xcons (s_ldc dX7_drawn_52 xw_375) (xcons (s_imul dX7_drawn_54) (xcons (s_sipush dX7_drawn_55 rfl) (xcons (s_iadd dX7_drawn_58) (xcons (s_putI (f := 9) xC6 (by decide) xw_374 rfl (Or.inl rfl) dX7_drawn_59) (xcons (s_aload_n rfl dX7_drawn_62) (xcons (s_getR (f := 0) xC7 (by decide) xw_320 rfl dX7_drawn_63) (xcons (s_getI (f := 9) xC6 (by decide) xw_374 rfl dX7_drawn_66) (xcons (s_bipush dX7_drawn_69 rfl) (xcons (s_iushr dX7_drawn_71) (xcons (s_sipush dX7_drawn_72 rfl) (xcons (s_iand dX7_drawn_75) (xnil))))))))))))))))))))
theorem dX7_drawn_76 : decode cX7_drawn 76 = .ok (.istore 4, 2) := by decide +kernel
theorem dX7_drawn_78 : decode cX7_drawn 78 = .ok (.aload_n 0, 1) := by decide +kernel
theorem dX7_drawn_79 : decode cX7_drawn 79 = .ok (.getfield 10, 3) := by decide +kernel
theorem dX7_drawn_82 : decode cX7_drawn 82 = .ok (.iload 4, 2) := by decide +kernel
theorem dX7_drawn_84 : decode cX7_drawn 84 = .ok (.aload_n 0, 1) := by decide +kernel
theorem dX7_drawn_85 : decode cX7_drawn 85 = .ok (.getfield 10, 3) := by decide +kernel
theorem dX7_drawn_88 : decode cX7_drawn 88 = .ok (.getfield 225, 3) := by decide +kernel
theorem dX7_drawn_91 : decode cX7_drawn 91 = .ok (.irem, 1) := by decide +kernel
theorem dX7_drawn_92 : decode cX7_drawn 92 = .ok (.iconst (-1), 1) := by decide +kernel
theorem dX7_drawn_93 : decode cX7_drawn 93 = .ok (.iload 4, 2) := by decide +kernel
theorem dX7_drawn_95 : decode cX7_drawn 95 = .ok (.bipush 12, 2) := by decide +kernel
theorem dX7_drawn_97 : decode cX7_drawn 97 = .ok (.idiv, 1) := by decide +kernel
theorem dX7_drawn_98 : decode cX7_drawn 98 = .ok (.sipush 199, 3) := by decide +kernel
theorem dX7_drawn_101 : decode cX7_drawn 101 = .ok (.irem, 1) := by decide +kernel
theorem dX7_drawn_102 : decode cX7_drawn 102 = .ok (.bipush 99, 2) := by decide +kernel
theorem dX7_drawn_104 : decode cX7_drawn 104 = .ok (.isub, 1) := by decide +kernel
theorem dX7_drawn_105 : decode cX7_drawn 105 = .ok (.invokevirtual 50, 3) := by decide +kernel
theorem dX7_drawn_108 : decode cX7_drawn 108 = .ok (.pop, 1) := by decide +kernel
theorem dX7_drawn_109 : decode cX7_drawn 109 = .ok (.iinc 3 1, 3) := by decide +kernel
theorem dX7_drawn_112 : decode cX7_drawn 112 = .ok (.goto (-76), 3) := by decide +kernel
def k75_2 : List (Nat × XI) := [(76, x_istore 4 78), (78, x_aload 0 79), (79, x_getR 7 0 82), (82, x_iload 4 84), (84, x_aload 0 85), (85, x_getR 7 0 88), (88, x_getI 6 4 91), (91, x_irem 92), (92, x_push (-1) 93), (93, x_iload 4 95), (95, x_push (12) 97), (97, x_idiv 98), (98, x_push (199) 101), (101, x_irem 102), (102, x_push (99) 104), (104, x_isub 105), (105, x_inv 63 6 3 108), (108, x_pop 109), (109, x_iinc 3 (1) 112), (112, x_goto 36)]
theorem o75_2 (scr : Nat × (Nat → Int32)) : ∀ q ∈ k75_2, XSnd xm scr Y75 q.1 q.2 := xcons (s_istore dX7_drawn_76 (by decide)) (xcons (s_aload_n rfl dX7_drawn_78) (xcons (s_getR (f := 0) xC7 (by decide) xw_320 rfl dX7_drawn_79) (xcons (s_iload dX7_drawn_82) (xcons (s_aload_n rfl dX7_drawn_84) (xcons (s_getR (f := 0) xC7 (by decide) xw_320 rfl dX7_drawn_85) (xcons (s_getI (f := 4) xC6 (by decide) xw_335 rfl dX7_drawn_88) (xcons (s_irem dX7_drawn_91) (xcons (s_iconst dX7_drawn_92 rfl) (xcons (s_iload dX7_drawn_93) (xcons (s_bipush dX7_drawn_95 rfl) (xcons (s_idiv dX7_drawn_97) (xcons (s_sipush dX7_drawn_98 rfl) (xcons (s_irem dX7_drawn_101) (xcons (s_bipush dX7_drawn_102 rfl) (xcons (s_isub dX7_drawn_104) (xcons (s_inv (mid := 63) xC6 cal_63 xw_373 xw_182 xw_183 dX7_drawn_105) (xcons (s_pop dX7_drawn_108) (xcons (s_iinc dX7_drawn_109 rfl (by decide)) (xcons (s_goto dX7_drawn_112 rfl) (xnil))))))))))))))))))))
theorem dX7_drawn_115 : decode cX7_drawn 115 = .ok (.aload_n 0, 1) := by decide +kernel
theorem dX7_drawn_116 : decode cX7_drawn 116 = .ok (.getfield 10, 3) := by decide +kernel
theorem dX7_drawn_119 : decode cX7_drawn 119 = .ok (.getfield 180, 3) := by decide +kernel
theorem dX7_drawn_122 : decode cX7_drawn 122 = .ok (.iload_n 2, 1) := by decide +kernel
theorem dX7_drawn_123 : decode cX7_drawn 123 = .ok (.isub, 1) := by decide +kernel
theorem dX7_drawn_124 : decode cX7_drawn 124 = .ok (.ireturn, 1) := by decide +kernel
def k75_3 : List (Nat × XI) := [(115, x_aload 0 116), (116, x_getR 7 0 119), (119, x_getI 6 8 122), (122, x_iload 2 123), (123, x_isub 124), (124, x_iret)]
theorem o75_3 (scr : Nat × (Nat → Int32)) : ∀ q ∈ k75_3, XSnd xm scr Y75 q.1 q.2 := xcons (s_aload_n rfl dX7_drawn_115) (xcons (s_getR (f := 0) xC7 (by decide) xw_320 rfl dX7_drawn_116) (xcons (s_getI (f := 8) xC6 (by decide) xw_359 rfl dX7_drawn_119) (xcons (s_iload_n rfl dX7_drawn_122) (xcons (s_isub dX7_drawn_123) (xcons (s_iret dX7_drawn_124 rfl) (xnil))))))
def k75 (pc : Nat) : XI := if pc < 76 then if pc < 36 then xlk k75_0 pc else xlk k75_1 pc else if pc < 115 then xlk k75_2 pc else xlk k75_3 pc
theorem o75 (scr : Nat × (Nat → Int32)) (pc : Nat) : XSnd xm scr Y75 pc (k75 pc) := by
  unfold k75
  exact xite (xite (xlk_ok (o75_0 scr) pc) (xlk_ok (o75_1 scr) pc)) (xite (xlk_ok (o75_2 scr) pc) (xlk_ok (o75_3 scr) pc))
theorem dX7_dry_0 : decode cX7_dry 0 = .ok (.iload_n 2, 1) := by decide +kernel
theorem dX7_dry_1 : decode cX7_dry 1 = .ok (.ifCond .lt 8, 3) := by decide +kernel
theorem dX7_dry_4 : decode cX7_dry 4 = .ok (.iload_n 2, 1) := by decide +kernel
theorem dX7_dry_5 : decode cX7_dry 5 = .ok (.iconst 5, 1) := by decide +kernel
theorem dX7_dry_6 : decode cX7_dry 6 = .ok (.if_icmp .le 23, 3) := by decide +kernel
theorem dX7_dry_9 : decode cX7_dry 9 = .ok (.iload_n 2, 1) := by decide +kernel
theorem dX7_dry_10 : decode cX7_dry 10 = .ok (.bipush 10, 2) := by decide +kernel
theorem dX7_dry_12 : decode cX7_dry 12 = .ok (.if_icmp .lt 21, 3) := by decide +kernel
theorem dX7_dry_15 : decode cX7_dry 15 = .ok (.aload_n 0, 1) := by decide +kernel
theorem dX7_dry_16 : decode cX7_dry 16 = .ok (.getfield 10, 3) := by decide +kernel
theorem dX7_dry_19 : decode cX7_dry 19 = .ok (.iload_n 2, 1) := by decide +kernel
theorem dX7_dry_20 : decode cX7_dry 20 = .ok (.bipush 10, 2) := by decide +kernel
theorem dX7_dry_22 : decode cX7_dry 22 = .ok (.isub, 1) := by decide +kernel
theorem dX7_dry_23 : decode cX7_dry 23 = .ok (.invokevirtual 43, 3) := by decide +kernel
theorem dX7_dry_26 : decode cX7_dry 26 = .ok (.ifCond .eq 7, 3) := by decide +kernel
theorem dX7_dry_29 : decode cX7_dry 29 = .ok (.iconst 1, 1) := by decide +kernel
theorem dX7_dry_30 : decode cX7_dry 30 = .ok (.goto 4, 3) := by decide +kernel
theorem dX7_dry_33 : decode cX7_dry 33 = .ok (.iconst 0, 1) := by decide +kernel
theorem dX7_dry_34 : decode cX7_dry 34 = .ok (.istore_n 3, 1) := by decide +kernel
theorem dX7_dry_35 : decode cX7_dry 35 = .ok (.iload_n 1, 1) := by decide +kernel
def k76_0 : List (Nat × XI) := [(0, x_iload 2 1), (1, x_iflt 9 4), (4, x_iload 2 5), (5, x_push (5) 6), (6, x_icle 29 9), (9, x_iload 2 10), (10, x_push (10) 12), (12, x_iclt 33 15), (15, x_aload 0 16), (16, x_getR 7 0 19), (19, x_iload 2 20), (20, x_push (10) 22), (22, x_isub 23), (23, x_inv 53 6 1 26), (26, x_ifeq 33 29), (29, x_push (1) 30), (30, x_goto 34), (33, x_push (0) 34), (34, x_istore 3 35), (35, x_iload 1 36)]
theorem o76_0 (scr : Nat × (Nat → Int32)) : ∀ q ∈ k76_0, XSnd xm scr Y76 q.1 q.2 := xcons (s_iload_n rfl dX7_dry_0) (xcons (s_iflt dX7_dry_1 rfl) (xcons (s_iload_n rfl dX7_dry_4) (xcons (s_iconst dX7_dry_5 rfl) (xcons (s_icle dX7_dry_6 rfl) (xcons (s_iload_n rfl dX7_dry_9) (xcons (s_bipush dX7_dry_10 rfl) (xcons (s_iclt dX7_dry_12 rfl) (xcons (s_aload_n rfl dX7_dry_15) (xcons (s_getR (f := 0) xC7 (by decide) xw_320 rfl dX7_dry_16) (xcons (s_iload_n rfl dX7_dry_19) (xcons (s_bipush dX7_dry_20 rfl) (xcons (s_isub dX7_dry_22) (xcons (s_inv (mid := 53) xC6 cal_53 xw_334 xw_131 xw_132 dX7_dry_23) (xcons (s_ifeq dX7_dry_26 rfl) (xcons (s_iconst dX7_dry_29 rfl) (xcons (s_goto dX7_dry_30 rfl) (xcons (s_iconst dX7_dry_33 rfl) (xcons (s_istore_n rfl dX7_dry_34 (by decide)) (xcons (s_iload_n rfl dX7_dry_35) (xnil))))))))))))))))))))
theorem dX7_dry_36 : decode cX7_dry 36 = .ok (.invokestatic 157, 3) := by decide +kernel
theorem dX7_dry_39 : decode cX7_dry 39 = .ok (.ifCond .eq 7, 3) := by decide +kernel
theorem dX7_dry_42 : decode cX7_dry 42 = .ok (.iload_n 3, 1) := by decide +kernel
theorem dX7_dry_43 : decode cX7_dry 43 = .ok (.ifCond .ne 6, 3) := by decide +kernel
theorem dX7_dry_46 : decode cX7_dry 46 = .ok (.ldc 130, 2) := by decide +kernel
theorem dX7_dry_48 : decode cX7_dry 48 = .ok (.ireturn, 1) := by decide +kernel
theorem dX7_dry_49 : decode cX7_dry 49 = .ok (.aload_n 0, 1) := by decide +kernel
theorem dX7_dry_50 : decode cX7_dry 50 = .ok (.getfield 16, 3) := by decide +kernel
theorem dX7_dry_53 : decode cX7_dry 53 = .ok (.aload_n 0, 1) := by decide +kernel
theorem dX7_dry_54 : decode cX7_dry 54 = .ok (.getfield 10, 3) := by decide +kernel
theorem dX7_dry_57 : decode cX7_dry 57 = .ok (.invokevirtual 172, 3) := by decide +kernel
theorem dX7_dry_60 : decode cX7_dry 60 = .ok (.aload_n 0, 1) := by decide +kernel
theorem dX7_dry_61 : decode cX7_dry 61 = .ok (.getfield 16, 3) := by decide +kernel
theorem dX7_dry_64 : decode cX7_dry 64 = .ok (.iload_n 1, 1) := by decide +kernel
theorem dX7_dry_65 : decode cX7_dry 65 = .ok (.invokevirtual 160, 3) := by decide +kernel
theorem dX7_dry_68 : decode cX7_dry 68 = .ok (.istore 4, 2) := by decide +kernel
theorem dX7_dry_70 : decode cX7_dry 70 = .ok (.iload_n 2, 1) := by decide +kernel
theorem dX7_dry_71 : decode cX7_dry 71 = .ok (.tableswitch 80 0 5 #[37, 40, 48, 56, 64, 72], 37) := by decide +kernel
theorem dX7_dry_108 : decode cX7_dry 108 = .ok (.iload 4, 2) := by decide +kernel
theorem dX7_dry_110 : decode cX7_dry 110 = .ok (.ireturn, 1) := by decide +kernel
def k76_1 : List (Nat × XI) := [(36, x_invS 86 1 39), (39, x_ifeq 46 42), (42, x_iload 3 43), (43, x_ifne 49 46), (46, x_push (-2000000000) 48), (48, x_iret), (49, x_aload 0 50), (50, x_getR 7 1 53), (53, x_aload 0 54), (54, x_getR 7 0 57), (57, x_inv 42 6 1 60), (60, x_aload 0 61), (61, x_getR 7 1 64), (64, x_iload 1 65), (65, x_inv 60 6 1 68), (68, x_istore 4 70), (70, x_iload 2 71), (71, x_tsw (0) (5) [108, 111, 119, 127, 135, 143] 151), (108, x_iload 4 110), (110, x_iret)]
theorem o76_1 (scr : Nat × (Nat → Int32)) : ∀ q ∈ k76_1, XSnd xm scr Y76 q.1 q.2 := xcons (s_invS (mid := 86) cal_86 xw_378 xw_379 dX7_dry_36) (xcons (s_ifeq dX7_dry_39 rfl) (xcons (s_iload_n rfl dX7_dry_42) (xcons (s_ifne dX7_dry_43 rfl) (xcons (s_ldc dX7_dry_46 xw_337) (xcons (s_iret dX7_dry_48 rfl) (xcons (s_aload_n rfl dX7_dry_49) (xcons (s_getR (f := 1) xC7 (by decide) xw_338 rfl dX7_dry_50) (xcons (s_aload_n rfl dX7_dry_53) (xcons (s_getR (f := 0) xC7 (by decide) xw_320 rfl dX7_dry_54) (xcons (s_inv (mid := 42) xC6 cal_42 xw_328 xw_329 xw_330 dX7_dry_57) (xcons (s_aload_n rfl dX7_dry_60) (xcons (s_getR (f := 1) xC7 (by decide) xw_338 rfl dX7_dry_61) (xcons (s_iload_n rfl dX7_dry_64) (xcons (s_inv (mid := 60) xC6 cal_60 xw_381 xw_382 xw_383 dX7_dry_65) (xcons (s_istore dX7_dry_68 (by decide)) (xcons (s_iload_n rfl dX7_dry_70) (xcons (s_tsw dX7_dry_71 rfl rfl) (xcons (s_iload dX7_dry_108) (xcons (s_iret dX7_dry_110 rfl) (xnil))))))))))))))))))))
theorem dX7_dry_111 : decode cX7_dry 111 = .ok (.aload_n 0, 1) := by decide +kernel
theorem dX7_dry_112 : decode cX7_dry 112 = .ok (.getfield 16, 3) := by decide +kernel
theorem dX7_dry_115 : decode cX7_dry 115 = .ok (.getfield 163, 3) := by decide +kernel
theorem dX7_dry_118 : decode cX7_dry 118 = .ok (.ireturn, 1) := by decide +kernel
theorem dX7_dry_119 : decode cX7_dry 119 = .ok (.aload_n 0, 1) := by decide +kernel
theorem dX7_dry_120 : decode cX7_dry 120 = .ok (.getfield 16, 3) := by decide +kernel
theorem dX7_dry_123 : decode cX7_dry 123 = .ok (.invokevirtual 176, 3) := by decide +kernel
theorem dX7_dry_126 : decode cX7_dry 126 = .ok (.ireturn, 1) := by decide +kernel
theorem dX7_dry_127 : decode cX7_dry 127 = .ok (.aload_n 0, 1) := by decide +kernel
theorem dX7_dry_128 : decode cX7_dry 128 = .ok (.getfield 16, 3) := by decide +kernel
theorem dX7_dry_131 : decode cX7_dry 131 = .ok (.getfield 180, 3) := by decide +kernel
theorem dX7_dry_134 : decode cX7_dry 134 = .ok (.ireturn, 1) := by decide +kernel
theorem dX7_dry_135 : decode cX7_dry 135 = .ok (.aload_n 0, 1) := by decide +kernel
theorem dX7_dry_136 : decode cX7_dry 136 = .ok (.getfield 16, 3) := by decide +kernel
theorem dX7_dry_139 : decode cX7_dry 139 = .ok (.getfield 183, 3) := by decide +kernel
theorem dX7_dry_142 : decode cX7_dry 142 = .ok (.ireturn, 1) := by decide +kernel
theorem dX7_dry_143 : decode cX7_dry 143 = .ok (.aload_n 0, 1) := by decide +kernel
theorem dX7_dry_144 : decode cX7_dry 144 = .ok (.getfield 16, 3) := by decide +kernel
theorem dX7_dry_147 : decode cX7_dry 147 = .ok (.getfield 118, 3) := by decide +kernel
theorem dX7_dry_150 : decode cX7_dry 150 = .ok (.ireturn, 1) := by decide +kernel
def k76_2 : List (Nat × XI) := [(111, x_aload 0 112), (112, x_getR 7 1 115), (115, x_getI 6 10 118), (118, x_iret), (119, x_aload 0 120), (120, x_getR 7 1 123), (123, x_inv 58 6 0 126), (126, x_iret), (127, x_aload 0 128), (128, x_getR 7 1 131), (131, x_getI 6 8 134), (134, x_iret), (135, x_aload 0 136), (136, x_getR 7 1 139), (139, x_getI 6 7 142), (142, x_iret), (143, x_aload 0 144), (144, x_getR 7 1 147), (147, x_getI 6 6 150), (150, x_iret)]
theorem o76_2 (scr : Nat × (Nat → Int32)) : ∀ q ∈ k76_2, XSnd xm scr Y76 q.1 q.2 := xcons (s_aload_n rfl dX7_dry_111) (xcons (s_getR (f := 1) xC7 (by decide) xw_338 rfl dX7_dry_112) (xcons (s_getI (f := 10) xC6 (by decide) xw_384 rfl dX7_dry_115) (xcons (s_iret dX7_dry_118 rfl) (xcons (s_aload_n rfl dX7_dry_119) (xcons (s_getR (f := 1) xC7 (by decide) xw_338 rfl dX7_dry_120) (xcons (s_inv (mid := 58) xC6 cal_58 xw_342 xw_343 xw_344 dX7_dry_123) (xcons (s_iret dX7_dry_126 rfl) (xcons (s_aload_n rfl dX7_dry_127) (xcons (s_getR (f := 1) xC7 (by decide) xw_338 rfl dX7_dry_128) (xcons (s_getI (f := 8) xC6 (by decide) xw_359 rfl dX7_dry_131) (xcons (s_iret dX7_dry_134 rfl) (xcons (s_aload_n rfl dX7_dry_135) (xcons (s_getR (f := 1) xC7 (by decide) xw_338 rfl dX7_dry_136) (xcons (s_getI (f := 7) xC6 (by decide) xw_360 rfl dX7_dry_139) (xcons (s_iret dX7_dry_142 rfl) (xcons (s_aload_n rfl dX7_dry_143) (xcons (s_getR (f := 1) xC7 (by decide) xw_338 rfl dX7_dry_144) (xcons (s_getI (f := 6) xC6 (by decide) xw_361 rfl dX7_dry_147) (xcons (s_iret dX7_dry_150 rfl) (xnil))))))))))))))))))))
theorem dX7_dry_151 : decode cX7_dry 151 = .ok (.aload_n 0, 1) := by decide +kernel
theorem dX7_dry_152 : decode cX7_dry 152 = .ok (.getfield 16, 3) := by decide +kernel
theorem dX7_dry_155 : decode cX7_dry 155 = .ok (.iload_n 2, 1) := by decide +kernel
theorem dX7_dry_156 : decode cX7_dry 156 = .ok (.bipush 10, 2) := by decide +kernel
theorem dX7_dry_158 : decode cX7_dry 158 = .ok (.isub, 1) := by decide +kernel
theorem dX7_dry_159 : decode cX7_dry 159 = .ok (.invokevirtual 43, 3) := by decide +kernel
theorem dX7_dry_162 : decode cX7_dry 162 = .ok (.ifCond .eq 21, 3) := by decide +kernel
theorem dX7_dry_165 : decode cX7_dry 165 = .ok (.aload_n 0, 1) := by decide +kernel
theorem dX7_dry_166 : decode cX7_dry 166 = .ok (.getfield 16, 3) := by decide +kernel
theorem dX7_dry_169 : decode cX7_dry 169 = .ok (.getfield 54, 3) := by decide +kernel
theorem dX7_dry_172 : decode cX7_dry 172 = .ok (.iload_n 2, 1) := by decide +kernel
theorem dX7_dry_173 : decode cX7_dry 173 = .ok (.bipush 10, 2) := by decide +kernel
theorem dX7_dry_175 : decode cX7_dry 175 = .ok (.isub, 1) := by decide +kernel
theorem dX7_dry_176 : decode cX7_dry 176 = .ok (.aaload, 1) := by decide +kernel
theorem dX7_dry_177 : decode cX7_dry 177 = .ok (.getfield 127, 3) := by decide +kernel
theorem dX7_dry_180 : decode cX7_dry 180 = .ok (.goto 5, 3) := by decide +kernel
theorem dX7_dry_183 : decode cX7_dry 183 = .ok (.ldc 130, 2) := by decide +kernel
theorem dX7_dry_185 : decode cX7_dry 185 = .ok (.ireturn, 1) := by decide +kernel
def k76_3 : List (Nat × XI) := [(151, x_aload 0 152), (152, x_getR 7 1 155), (155, x_iload 2 156), (156, x_push (10) 158), (158, x_isub 159), (159, x_inv 53 6 1 162), (162, x_ifeq 183 165), (165, x_aload 0 166), (166, x_getR 7 1 169), (169, x_getR 6 0 172), (172, x_iload 2 173), (173, x_push (10) 175), (175, x_isub 176), (176, x_aald 177), (177, x_getI 0 5 180), (180, x_goto 185), (183, x_push (-2000000000) 185), (185, x_iret)]
theorem o76_3 (scr : Nat × (Nat → Int32)) : ∀ q ∈ k76_3, XSnd xm scr Y76 q.1 q.2 := xcons (s_aload_n rfl dX7_dry_151) (xcons (s_getR (f := 1) xC7 (by decide) xw_338 rfl dX7_dry_152) (xcons (s_iload_n rfl dX7_dry_155) (xcons (s_bipush dX7_dry_156 rfl) (xcons (s_isub dX7_dry_158) (xcons (s_inv (mid := 53) xC6 cal_53 xw_334 xw_131 xw_132 dX7_dry_159) (xcons (s_ifeq dX7_dry_162 rfl) (xcons (s_aload_n rfl dX7_dry_165) (xcons (s_getR (f := 1) xC7 (by decide) xw_338 rfl dX7_dry_166) (xcons (s_getR (f := 0) xC6 (by decide) xw_366 rfl dX7_dry_169) (xcons (s_iload_n rfl dX7_dry_172) (xcons (s_bipush dX7_dry_173 rfl) (xcons (s_isub dX7_dry_175) (xcons (s_aald dX7_dry_176) (xcons (s_getI (f := 5) xC0 (by decide) xw_367 rfl dX7_dry_177) (xcons (s_goto dX7_dry_180 rfl) (xcons (s_ldc dX7_dry_183 xw_337) (xcons (s_iret dX7_dry_185 rfl) (xnil))))))))))))))))))
def k76 (pc : Nat) : XI := if pc < 111 then if pc < 36 then xlk k76_0 pc else xlk k76_1 pc else if pc < 151 then xlk k76_2 pc else xlk k76_3 pc
theorem o76 (scr : Nat × (Nat → Int32)) (pc : Nat) : XSnd xm scr Y76 pc (k76 pc) := by
  unfold k76
  exact xite (xite (xlk_ok (o76_0 scr) pc) (xlk_ok (o76_1 scr) pc)) (xite (xlk_ok (o76_2 scr) pc) (xlk_ok (o76_3 scr) pc))
theorem dX7_ended_0 : decode cX7_ended 0 = .ok (.aload_n 0, 1) := by decide +kernel
theorem dX7_ended_1 : decode cX7_ended 1 = .ok (.getfield 10, 3) := by decide +kernel
theorem dX7_ended_4 : decode cX7_ended 4 = .ok (.getfield 163, 3) := by decide +kernel
theorem dX7_ended_7 : decode cX7_ended 7 = .ok (.ireturn, 1) := by decide +kernel
def k77_0 : List (Nat × XI) := [(0, x_aload 0 1), (1, x_getR 7 0 4), (4, x_getI 6 10 7), (7, x_iret)]
theorem o77_0 (scr : Nat × (Nat → Int32)) : ∀ q ∈ k77_0, XSnd xm scr Y77 q.1 q.2 := xcons (s_aload_n rfl dX7_ended_0) (xcons (s_getR (f := 0) xC7 (by decide) xw_320 rfl dX7_ended_1) (xcons (s_getI (f := 10) xC6 (by decide) xw_384 rfl dX7_ended_4) (xcons (s_iret dX7_ended_7 rfl) (xnil))))
def k77 (pc : Nat) : XI := xlk k77_0 pc
theorem o77 (scr : Nat × (Nat → Int32)) (pc : Nat) : XSnd xm scr Y77 pc (k77 pc) := by
  unfold k77
  exact xlk_ok (o77_0 scr) pc
theorem dX7_image_0 : decode cX7_image 0 = .ok (.aload_n 0, 1) := by decide +kernel
theorem dX7_image_1 : decode cX7_image 1 = .ok (.getfield 19, 3) := by decide +kernel
theorem dX7_image_4 : decode cX7_image 4 = .ok (.aload_n 0, 1) := by decide +kernel
theorem dX7_image_5 : decode cX7_image 5 = .ok (.getfield 10, 3) := by decide +kernel
theorem dX7_image_8 : decode cX7_image 8 = .ok (.invokevirtual 172, 3) := by decide +kernel
theorem dX7_image_11 : decode cX7_image 11 = .ok (.aload_n 0, 1) := by decide +kernel
theorem dX7_image_12 : decode cX7_image 12 = .ok (.iconst 1, 1) := by decide +kernel
theorem dX7_image_13 : decode cX7_image 13 = .ok (.putfield 244, 3) := by decide +kernel
theorem dX7_image_16 : decode cX7_image 16 = .ok (.aload_n 0, 1) := by decide +kernel
theorem dX7_image_17 : decode cX7_image 17 = .ok (.getfield 19, 3) := by decide +kernel
theorem dX7_image_20 : decode cX7_image 20 = .ok (.getfield 225, 3) := by decide +kernel
theorem dX7_image_23 : decode cX7_image 23 = .ok (.ireturn, 1) := by decide +kernel
def k82_0 : List (Nat × XI) := [(0, x_aload 0 1), (1, x_getR 7 2 4), (4, x_aload 0 5), (5, x_getR 7 0 8), (8, x_inv 42 6 1 11), (11, x_aload 0 12), (12, x_push (1) 13), (13, x_putZ 7 6 16), (16, x_aload 0 17), (17, x_getR 7 2 20), (20, x_getI 6 4 23), (23, x_iret)]
theorem o82_0 (scr : Nat × (Nat → Int32)) : ∀ q ∈ k82_0, XSnd xm scr Y82 q.1 q.2 := xcons (s_aload_n rfl dX7_image_0) (xcons (s_getR (f := 2) xC7 (by decide) xw_326 rfl dX7_image_1) (xcons (s_aload_n rfl dX7_image_4) (xcons (s_getR (f := 0) xC7 (by decide) xw_320 rfl dX7_image_5) (xcons (s_inv (mid := 42) xC6 cal_42 xw_328 xw_329 xw_330 dX7_image_8) (xcons (s_aload_n rfl dX7_image_11) (xcons (s_iconst dX7_image_12 rfl) (xcons (s_putZ (f := 6) xC7 (by decide) xw_325 rfl (Or.inl rfl) dX7_image_13) (xcons (s_aload_n rfl dX7_image_16) (xcons (s_getR (f := 2) xC7 (by decide) xw_326 rfl dX7_image_17) (xcons (s_getI (f := 4) xC6 (by decide) xw_335 rfl dX7_image_20) (xcons (s_iret dX7_image_23 rfl) (xnil))))))))))))
def k82 (pc : Nat) : XI := xlk k82_0 pc
theorem o82 (scr : Nat × (Nat → Int32)) (pc : Nat) : XSnd xm scr Y82 pc (k82 pc) := by
  unfold k82
  exact xlk_ok (o82_0 scr) pc
theorem dX7_init_0 : decode cX7_init 0 = .ok (.aload_n 0, 1) := by decide +kernel
theorem dX7_init_1 : decode cX7_init 1 = .ok (.invokespecial 1, 3) := by decide +kernel
theorem dX7_init_4 : decode cX7_init 4 = .ok (.aload_n 0, 1) := by decide +kernel
theorem dX7_init_5 : decode cX7_init 5 = .ok (.new 7, 3) := by decide +kernel
theorem dX7_init_8 : decode cX7_init 8 = .ok (.dup, 1) := by decide +kernel
theorem dX7_init_9 : decode cX7_init 9 = .ok (.invokespecial 9, 3) := by decide +kernel
theorem dX7_init_12 : decode cX7_init 12 = .ok (.putfield 10, 3) := by decide +kernel
theorem dX7_init_15 : decode cX7_init 15 = .ok (.aload_n 0, 1) := by decide +kernel
theorem dX7_init_16 : decode cX7_init 16 = .ok (.new 7, 3) := by decide +kernel
theorem dX7_init_19 : decode cX7_init 19 = .ok (.dup, 1) := by decide +kernel
theorem dX7_init_20 : decode cX7_init 20 = .ok (.invokespecial 9, 3) := by decide +kernel
theorem dX7_init_23 : decode cX7_init 23 = .ok (.putfield 16, 3) := by decide +kernel
theorem dX7_init_26 : decode cX7_init 26 = .ok (.aload_n 0, 1) := by decide +kernel
theorem dX7_init_27 : decode cX7_init 27 = .ok (.new 7, 3) := by decide +kernel
theorem dX7_init_30 : decode cX7_init 30 = .ok (.dup, 1) := by decide +kernel
theorem dX7_init_31 : decode cX7_init 31 = .ok (.invokespecial 9, 3) := by decide +kernel
theorem dX7_init_34 : decode cX7_init 34 = .ok (.putfield 19, 3) := by decide +kernel
theorem dX7_init_37 : decode cX7_init 37 = .ok (.aload_n 0, 1) := by decide +kernel
theorem dX7_init_38 : decode cX7_init 38 = .ok (.new 7, 3) := by decide +kernel
theorem dX7_init_41 : decode cX7_init 41 = .ok (.dup, 1) := by decide +kernel
def k83_0 : List (Nat × XI) := [(0, x_aload 0 1), (1, x_obj 4), (4, x_aload 0 5), (5, x_new 6 8), (8, x_dup 9), (9, x_inv 52 6 0 12), (12, x_putR 7 0 15), (15, x_aload 0 16), (16, x_new 6 19), (19, x_dup 20), (20, x_inv 52 6 0 23), (23, x_putR 7 1 26), (26, x_aload 0 27), (27, x_new 6 30), (30, x_dup 31), (31, x_inv 52 6 0 34), (34, x_putR 7 2 37), (37, x_aload 0 38), (38, x_new 6 41), (41, x_dup 42)]
theorem o83_0 (scr : Nat × (Nat → Int32)) : ∀ q ∈ k83_0, XSnd xm scr Y83 q.1 q.2 := xcons (s_aload_n rfl dX7_init_0) (xcons (s_obj xw_391 xw_30 xw_31 dX7_init_1) (xcons (s_aload_n rfl dX7_init_4) (xcons (s_new xC6 xw_392 xw_393 xw_129 (by decide +kernel) dX7_init_5) (xcons (s_dup dX7_init_8) (xcons (s_init (mid := 52) xC6 cal_52 rfl rfl xw_395 xw_396 dX7_init_9) (xcons (s_putR (f := 0) xC7 (by decide) xw_320 rfl (Or.inr ⟨rfl, rfl, rfl⟩) dX7_init_12) (xcons (s_aload_n rfl dX7_init_15) (xcons (s_new xC6 xw_392 xw_393 xw_129 (by decide +kernel) dX7_init_16) (xcons (s_dup dX7_init_19) (xcons (s_init (mid := 52) xC6 cal_52 rfl rfl xw_395 xw_396 dX7_init_20) (xcons (s_putR (f := 1) xC7 (by decide) xw_338 rfl (Or.inr ⟨rfl, rfl, rfl⟩) dX7_init_23) (xcons (s_aload_n rfl dX7_init_26) (xcons (s_new xC6 xw_392 xw_393 xw_129 (by decide +kernel) dX7_init_27) (xcons (s_dup dX7_init_30) (xcons (s_init (mid := 52) xC6 cal_52 rfl rfl xw_395 xw_396 dX7_init_31) (xcons (s_putR (f := 2) xC7 (by decide) xw_326 rfl (Or.inr ⟨rfl, rfl, rfl⟩) dX7_init_34) (xcons (s_aload_n rfl dX7_init_37) (xcons (s_new xC6 xw_392 xw_393 xw_129 (by decide +kernel) dX7_init_38) (xcons (s_dup dX7_init_41) (xnil))))))))))))))))))))
theorem dX7_init_42 : decode cX7_init 42 = .ok (.invokespecial 9, 3) := by decide +kernel
theorem dX7_init_45 : decode cX7_init 45 = .ok (.putfield 22, 3) := by decide +kernel
theorem dX7_init_48 : decode cX7_init 48 = .ok (.aload_n 0, 1) := by decide +kernel
theorem dX7_init_49 : decode cX7_init 49 = .ok (.new 25, 3) := by decide +kernel
theorem dX7_init_52 : decode cX7_init 52 = .ok (.dup, 1) := by decide +kernel
theorem dX7_init_53 : decode cX7_init 53 = .ok (.invokespecial 27, 3) := by decide +kernel
theorem dX7_init_56 : decode cX7_init 56 = .ok (.putfield 28, 3) := by decide +kernel
theorem dX7_init_59 : decode cX7_init 59 = .ok (.aload_n 0, 1) := by decide +kernel
theorem dX7_init_60 : decode cX7_init 60 = .ok (.bipush 6, 2) := by decide +kernel
theorem dX7_init_62 : decode cX7_init 62 = .ok (.anewarray 32, 3) := by decide +kernel
theorem dX7_init_65 : decode cX7_init 65 = .ok (.putfield 34, 3) := by decide +kernel
theorem dX7_init_68 : decode cX7_init 68 = .ok (.iconst 0, 1) := by decide +kernel
theorem dX7_init_69 : decode cX7_init 69 = .ok (.istore_n 1, 1) := by decide +kernel
theorem dX7_init_70 : decode cX7_init 70 = .ok (.iload_n 1, 1) := by decide +kernel
theorem dX7_init_71 : decode cX7_init 71 = .ok (.aload_n 0, 1) := by decide +kernel
theorem dX7_init_72 : decode cX7_init 72 = .ok (.getfield 34, 3) := by decide +kernel
theorem dX7_init_75 : decode cX7_init 75 = .ok (.arraylength, 1) := by decide +kernel
theorem dX7_init_76 : decode cX7_init 76 = .ok (.if_icmp .ge 22, 3) := by decide +kernel
theorem dX7_init_79 : decode cX7_init 79 = .ok (.aload_n 0, 1) := by decide +kernel
theorem dX7_init_80 : decode cX7_init 80 = .ok (.getfield 34, 3) := by decide +kernel
def k83_1 : List (Nat × XI) := [(42, x_inv 52 6 0 45), (45, x_putR 7 3 48), (48, x_aload 0 49), (49, x_new 4 52), (52, x_dup 53), (53, x_inv 24 4 0 56), (56, x_putR 7 4 59), (59, x_aload 0 60), (60, x_push (6) 62), (62, x_newA 1 65), (65, x_putR 7 5 68), (68, x_push (0) 69), (69, x_istore 1 70), (70, x_iload 1 71), (71, x_aload 0 72), (72, x_getR 7 5 75), (75, x_len 76), (76, x_icge 98 79), (79, x_aload 0 80), (80, x_getR 7 5 83)]
theorem o83_1 (scr : Nat × (Nat → Int32)) : ∀ q ∈ k83_1, XSnd xm scr Y83 q.1 q.2 := xcons (s_init (mid := 52) xC6 cal_52 rfl rfl xw_395 xw_396 dX7_init_42) (xcons (s_putR (f := 3) xC7 (by decide) xw_397 rfl (Or.inr ⟨rfl, rfl, rfl⟩) dX7_init_45) (xcons (s_aload_n rfl dX7_init_48) (xcons (s_new xC4 xw_398 xw_399 xw_82 (by decide +kernel) dX7_init_49) (xcons (s_dup dX7_init_52) (xcons (s_initN (mid := 24) xC4 cal_24 rfl rfl (List.mem_of_getElem? (i := 2) rfl) xw_401 dX7_init_53) (xcons (s_putR (f := 4) xC7 (by decide) xw_363 rfl (Or.inr ⟨rfl, rfl, rfl⟩) dX7_init_56) (xcons (s_aload_n rfl dX7_init_59) (xcons (s_bipush dX7_init_60 rfl) (xcons (s_newA rfl (by decide) xw_402 dX7_init_62) (xcons (s_putR (f := 5) xC7 (by decide) xw_331 rfl (Or.inr ⟨rfl, rfl, rfl⟩) dX7_init_65) (xcons (s_iconst dX7_init_68 rfl) (xcons (s_istore_n rfl dX7_init_69 (by decide)) (xcons (s_iload_n rfl dX7_init_70) (xcons (s_aload_n rfl dX7_init_71) (xcons (s_getR (f := 5) xC7 (by decide) xw_331 rfl dX7_init_72) (xcons (s_len dX7_init_75) (xcons (s_icge dX7_init_76 rfl) (xcons (s_aload_n rfl dX7_init_79) (xcons (s_getR (f := 5) xC7 (by decide) xw_331 rfl dX7_init_80) (xnil))))))))))))))))))))
theorem dX7_init_83 : decode cX7_init 83 = .ok (.iload_n 1, 1) := by decide +kernel
theorem dX7_init_84 : decode cX7_init 84 = .ok (.new 32, 3) := by decide +kernel
theorem dX7_init_87 : decode cX7_init 87 = .ok (.dup, 1) := by decide +kernel
theorem dX7_init_88 : decode cX7_init 88 = .ok (.invokespecial 38, 3) := by decide +kernel
theorem dX7_init_91 : decode cX7_init 91 = .ok (.aastore, 1) := by decide +kernel
theorem dX7_init_92 : decode cX7_init 92 = .ok (.iinc 1 1, 3) := by decide +kernel
theorem dX7_init_95 : decode cX7_init 95 = .ok (.goto (-25), 3) := by decide +kernel
theorem dX7_init_98 : decode cX7_init 98 = .ok (.return_, 1) := by decide +kernel
def k83_2 : List (Nat × XI) := [(83, x_iload 1 84), (84, x_new 1 87), (87, x_dup 88), (88, x_inv 4 1 0 91), (91, x_aast 1 1 92), (92, x_iinc 1 (1) 95), (95, x_goto 70), (98, x_ret)]
theorem o83_2 (scr : Nat × (Nat → Int32)) : ∀ q ∈ k83_2, XSnd xm scr Y83 q.1 q.2 := xcons (s_iload_n rfl dX7_init_83) (xcons (s_new xC1 xw_402 xw_403 xw_404 (by decide +kernel) dX7_init_84) (xcons (s_dup dX7_init_87) (xcons (s_initN (mid := 4) xC1 cal_4 rfl rfl (List.mem_of_getElem? (i := 3) rfl) xw_406 dX7_init_88) (xcons (s_aast xC1 rfl (by decide) dX7_init_91) (xcons (s_iinc dX7_init_92 rfl (by decide)) (xcons (s_goto dX7_init_95 rfl) (xcons (s_ret dX7_init_98 rfl) (xnil))))))))
def k83 (pc : Nat) : XI := if pc < 42 then xlk k83_0 pc else if pc < 83 then xlk k83_1 pc else xlk k83_2 pc
theorem o83 (scr : Nat × (Nat → Int32)) (pc : Nat) : XSnd xm scr Y83 pc (k83 pc) := by
  unfold k83
  exact xite (xlk_ok (o83_0 scr) pc) (xite (xlk_ok (o83_1 scr) pc) (xlk_ok (o83_2 scr) pc))
theorem dX7_isNumber_0 : decode cX7_isNumber 0 = .ok (.iload_n 0, 1) := by decide +kernel
theorem dX7_isNumber_1 : decode cX7_isNumber 1 = .ok (.bipush (-99), 2) := by decide +kernel
theorem dX7_isNumber_3 : decode cX7_isNumber 3 = .ok (.if_icmp .lt 13, 3) := by decide +kernel
theorem dX7_isNumber_6 : decode cX7_isNumber 6 = .ok (.iload_n 0, 1) := by decide +kernel
theorem dX7_isNumber_7 : decode cX7_isNumber 7 = .ok (.bipush 99, 2) := by decide +kernel
theorem dX7_isNumber_9 : decode cX7_isNumber 9 = .ok (.if_icmp .gt 7, 3) := by decide +kernel
theorem dX7_isNumber_12 : decode cX7_isNumber 12 = .ok (.iconst 1, 1) := by decide +kernel
theorem dX7_isNumber_13 : decode cX7_isNumber 13 = .ok (.goto 4, 3) := by decide +kernel
theorem dX7_isNumber_16 : decode cX7_isNumber 16 = .ok (.iconst 0, 1) := by decide +kernel
theorem dX7_isNumber_17 : decode cX7_isNumber 17 = .ok (.ireturn, 1) := by decide +kernel
def k85_0 : List (Nat × XI) := [(0, x_iload 0 1), (1, x_push (-99) 3), (3, x_iclt 16 6), (6, x_iload 0 7), (7, x_push (99) 9), (9, x_icgt 16 12), (12, x_push (1) 13), (13, x_goto 17), (16, x_push (0) 17), (17, x_zret)]
theorem o85_0 (scr : Nat × (Nat → Int32)) : ∀ q ∈ k85_0, XSnd xm scr Y85 q.1 q.2 := xcons (s_iload_n rfl dX7_isNumber_0) (xcons (s_bipush dX7_isNumber_1 rfl) (xcons (s_iclt dX7_isNumber_3 rfl) (xcons (s_iload_n rfl dX7_isNumber_6) (xcons (s_bipush dX7_isNumber_7 rfl) (xcons (s_icgt dX7_isNumber_9 rfl) (xcons (s_iconst dX7_isNumber_12 rfl) (xcons (s_goto dX7_isNumber_13 rfl) (xcons (s_iconst dX7_isNumber_16 rfl) (xcons (s_zret dX7_isNumber_17 rfl) (xnil))))))))))
def k85 (pc : Nat) : XI := xlk k85_0 pc
theorem o85 (scr : Nat × (Nat → Int32)) (pc : Nat) : XSnd xm scr Y85 pc (k85 pc) := by
  unfold k85
  exact xlk_ok (o85_0 scr) pc
theorem dX7_isSteps_0 : decode cX7_isSteps 0 = .ok (.iload_n 0, 1) := by decide +kernel
theorem dX7_isSteps_1 : decode cX7_isSteps 1 = .ok (.iconst 1, 1) := by decide +kernel
theorem dX7_isSteps_2 : decode cX7_isSteps 2 = .ok (.if_icmp .lt 14, 3) := by decide +kernel
theorem dX7_isSteps_5 : decode cX7_isSteps 5 = .ok (.iload_n 0, 1) := by decide +kernel
theorem dX7_isSteps_6 : decode cX7_isSteps 6 = .ok (.sipush 200, 3) := by decide +kernel
theorem dX7_isSteps_9 : decode cX7_isSteps 9 = .ok (.if_icmp .gt 7, 3) := by decide +kernel
theorem dX7_isSteps_12 : decode cX7_isSteps 12 = .ok (.iconst 1, 1) := by decide +kernel
theorem dX7_isSteps_13 : decode cX7_isSteps 13 = .ok (.goto 4, 3) := by decide +kernel
theorem dX7_isSteps_16 : decode cX7_isSteps 16 = .ok (.iconst 0, 1) := by decide +kernel
theorem dX7_isSteps_17 : decode cX7_isSteps 17 = .ok (.ireturn, 1) := by decide +kernel
def k86_0 : List (Nat × XI) := [(0, x_iload 0 1), (1, x_push (1) 2), (2, x_iclt 16 5), (5, x_iload 0 6), (6, x_push (200) 9), (9, x_icgt 16 12), (12, x_push (1) 13), (13, x_goto 17), (16, x_push (0) 17), (17, x_zret)]
theorem o86_0 (scr : Nat × (Nat → Int32)) : ∀ q ∈ k86_0, XSnd xm scr Y86 q.1 q.2 := xcons (s_iload_n rfl dX7_isSteps_0) (xcons (s_iconst dX7_isSteps_1 rfl) (xcons (s_iclt dX7_isSteps_2 rfl) (xcons (s_iload_n rfl dX7_isSteps_5) (xcons (s_sipush dX7_isSteps_6 rfl) (xcons (s_icgt dX7_isSteps_9 rfl) (xcons (s_iconst dX7_isSteps_12 rfl) (xcons (s_goto dX7_isSteps_13 rfl) (xcons (s_iconst dX7_isSteps_16 rfl) (xcons (s_zret dX7_isSteps_17 rfl) (xnil))))))))))
def k86 (pc : Nat) : XI := xlk k86_0 pc
theorem o86 (scr : Nat × (Nat → Int32)) (pc : Nat) : XSnd xm scr Y86 pc (k86 pc) := by
  unfold k86
  exact xlk_ok (o86_0 scr) pc
theorem dX7_itemOf_0 : decode cX7_itemOf 0 = .ok (.iload_n 1, 1) := by decide +kernel
theorem dX7_itemOf_1 : decode cX7_itemOf 1 = .ok (.ifCond .ge 5, 3) := by decide +kernel
theorem dX7_itemOf_4 : decode cX7_itemOf 4 = .ok (.iconst (-1), 1) := by decide +kernel
theorem dX7_itemOf_5 : decode cX7_itemOf 5 = .ok (.ireturn, 1) := by decide +kernel
theorem dX7_itemOf_6 : decode cX7_itemOf 6 = .ok (.iload_n 1, 1) := by decide +kernel
theorem dX7_itemOf_7 : decode cX7_itemOf 7 = .ok (.aload_n 0, 1) := by decide +kernel
theorem dX7_itemOf_8 : decode cX7_itemOf 8 = .ok (.getfield 93, 3) := by decide +kernel
theorem dX7_itemOf_11 : decode cX7_itemOf 11 = .ok (.if_icmp .ge 11, 3) := by decide +kernel
theorem dX7_itemOf_14 : decode cX7_itemOf 14 = .ok (.aload_n 0, 1) := by decide +kernel
theorem dX7_itemOf_15 : decode cX7_itemOf 15 = .ok (.iload_n 1, 1) := by decide +kernel
theorem dX7_itemOf_16 : decode cX7_itemOf 16 = .ok (.invokevirtual 96, 3) := by decide +kernel
theorem dX7_itemOf_19 : decode cX7_itemOf 19 = .ok (.goto 5, 3) := by decide +kernel
theorem dX7_itemOf_22 : decode cX7_itemOf 22 = .ok (.bipush (-2), 2) := by decide +kernel
theorem dX7_itemOf_24 : decode cX7_itemOf 24 = .ok (.ireturn, 1) := by decide +kernel
def k87_0 : List (Nat × XI) := [(0, x_iload 1 1), (1, x_ifge 6 4), (4, x_push (-1) 5), (5, x_iret), (6, x_iload 1 7), (7, x_aload 0 8), (8, x_getI 2 1 11), (11, x_icge 22 14), (14, x_aload 0 15), (15, x_iload 1 16), (16, x_inv 6 2 1 19), (19, x_goto 24), (22, x_push (-2) 24), (24, x_iret)]
theorem o87_0 (scr : Nat × (Nat → Int32)) : ∀ q ∈ k87_0, XSnd xm scr Y87 q.1 q.2 := xcons (s_iload_n rfl dX7_itemOf_0) (xcons (s_ifge dX7_itemOf_1 rfl) (xcons (s_iconst dX7_itemOf_4 rfl) (xcons (s_iret dX7_itemOf_5 rfl) (xcons (s_iload_n rfl dX7_itemOf_6) (xcons (s_aload_n rfl dX7_itemOf_7) (xcons (s_getI (f := 1) xC2 (by decide) xw_365 rfl dX7_itemOf_8) (xcons (s_icge dX7_itemOf_11 rfl) (xcons (s_aload_n rfl dX7_itemOf_14) (xcons (s_iload_n rfl dX7_itemOf_15) (xcons (s_inv (mid := 6) xC2 cal_6 xw_371 xw_93 xw_94 dX7_itemOf_16) (xcons (s_goto dX7_itemOf_19 rfl) (xcons (s_bipush dX7_itemOf_22 rfl) (xcons (s_iret dX7_itemOf_24 rfl) (xnil))))))))))))))
def k87 (pc : Nat) : XI := xlk k87_0 pc
theorem o87 (scr : Nat × (Nat → Int32)) (pc : Nat) : XSnd xm scr Y87 pc (k87 pc) := by
  unfold k87
  exact xlk_ok (o87_0 scr) pc
theorem dX7_of_0 : decode cX7_of 0 = .ok (.aload_n 0, 1) := by decide +kernel
theorem dX7_of_1 : decode cX7_of 1 = .ok (.getfield 10, 3) := by decide +kernel
theorem dX7_of_4 : decode cX7_of 4 = .ok (.iload_n 1, 1) := by decide +kernel
theorem dX7_of_5 : decode cX7_of 5 = .ok (.invokevirtual 43, 3) := by decide +kernel
theorem dX7_of_8 : decode cX7_of 8 = .ok (.ifCond .ne 5, 3) := by decide +kernel
theorem dX7_of_11 : decode cX7_of 11 = .ok (.iconst (-1), 1) := by decide +kernel
theorem dX7_of_12 : decode cX7_of 12 = .ok (.ireturn, 1) := by decide +kernel
theorem dX7_of_13 : decode cX7_of 13 = .ok (.aload_n 0, 1) := by decide +kernel
theorem dX7_of_14 : decode cX7_of 14 = .ok (.getfield 10, 3) := by decide +kernel
theorem dX7_of_17 : decode cX7_of 17 = .ok (.getfield 54, 3) := by decide +kernel
theorem dX7_of_20 : decode cX7_of 20 = .ok (.iload_n 1, 1) := by decide +kernel
theorem dX7_of_21 : decode cX7_of 21 = .ok (.aaload, 1) := by decide +kernel
theorem dX7_of_22 : decode cX7_of 22 = .ok (.astore_n 3, 1) := by decide +kernel
theorem dX7_of_23 : decode cX7_of 23 = .ok (.iload_n 2, 1) := by decide +kernel
theorem dX7_of_24 : decode cX7_of 24 = .ok (.tableswitch 213 0 13 #[72, 90, 95, 100, 105, 110, 123, 140, 148, 156, 164, 172, 184, 204], 72) := by decide +kernel
theorem dX7_of_96 : decode cX7_of 96 = .ok (.aload_n 3, 1) := by decide +kernel
theorem dX7_of_97 : decode cX7_of 97 = .ok (.getfield 70, 3) := by decide +kernel
theorem dX7_of_100 : decode cX7_of 100 = .ok (.iconst (-1), 1) := by decide +kernel
theorem dX7_of_101 : decode cX7_of 101 = .ok (.if_icmp .ne 8, 3) := by decide +kernel
theorem dX7_of_104 : decode cX7_of 104 = .ok (.bipush (-2), 2) := by decide +kernel
def k90_0 : List (Nat × XI) := [(0, x_aload 0 1), (1, x_getR 7 0 4), (4, x_iload 1 5), (5, x_inv 53 6 1 8), (8, x_ifne 13 11), (11, x_push (-1) 12), (12, x_iret), (13, x_aload 0 14), (14, x_getR 7 0 17), (17, x_getR 6 0 20), (20, x_iload 1 21), (21, x_aald 22), (22, x_astore 3 23), (23, x_iload 2 24), (24, x_tsw (0) (13) [96, 114, 119, 124, 129, 134, 147, 164, 172, 180, 188, 196, 208, 228] 237), (96, x_aload 3 97), (97, x_getI 0 0 100), (100, x_push (-1) 101), (101, x_icne 109 104), (104, x_push (-2) 106)]
theorem o90_0 (scr : Nat × (Nat → Int32)) : ∀ q ∈ k90_0, XSnd xm scr Y90 q.1 q.2 := xcons (s_aload_n rfl dX7_of_0) (xcons (s_getR (f := 0) xC7 (by decide) xw_320 rfl dX7_of_1) (xcons (s_iload_n rfl dX7_of_4) (xcons (s_inv (mid := 53) xC6 cal_53 xw_334 xw_131 xw_132 dX7_of_5) (xcons (s_ifne dX7_of_8 rfl) (xcons (s_iconst dX7_of_11 rfl) (xcons (s_iret dX7_of_12 rfl) (xcons (s_aload_n rfl dX7_of_13) (xcons (s_getR (f := 0) xC7 (by decide) xw_320 rfl dX7_of_14) (xcons (s_getR (f := 0) xC6 (by decide) xw_366 rfl dX7_of_17) (xcons (s_iload_n rfl dX7_of_20) (xcons (s_aald dX7_of_21) (xcons (s_astore_n rfl dX7_of_22 (by decide)) (xcons (s_iload_n rfl dX7_of_23) (xcons (s_tsw dX7_of_24 rfl rfl) (xcons (s_aload_n rfl dX7_of_96) (xcons (s_getI (f := 0) xC0 (by decide) xw_409 rfl dX7_of_97) (xcons (s_iconst dX7_of_100 rfl) (xcons (s_icne dX7_of_101 rfl) (xcons (s_bipush dX7_of_104 rfl) (xnil))))))))))))))))))))
theorem dX7_of_106 : decode cX7_of 106 = .ok (.goto 7, 3) := by decide +kernel
theorem dX7_of_109 : decode cX7_of 109 = .ok (.aload_n 3, 1) := by decide +kernel
theorem dX7_of_110 : decode cX7_of 110 = .ok (.getfield 70, 3) := by decide +kernel
theorem dX7_of_113 : decode cX7_of 113 = .ok (.ireturn, 1) := by decide +kernel
theorem dX7_of_114 : decode cX7_of 114 = .ok (.aload_n 3, 1) := by decide +kernel
theorem dX7_of_115 : decode cX7_of 115 = .ok (.getfield 73, 3) := by decide +kernel
theorem dX7_of_118 : decode cX7_of 118 = .ok (.ireturn, 1) := by decide +kernel
theorem dX7_of_119 : decode cX7_of 119 = .ok (.aload_n 3, 1) := by decide +kernel
theorem dX7_of_120 : decode cX7_of 120 = .ok (.getfield 76, 3) := by decide +kernel
theorem dX7_of_123 : decode cX7_of 123 = .ok (.ireturn, 1) := by decide +kernel
theorem dX7_of_124 : decode cX7_of 124 = .ok (.aload_n 3, 1) := by decide +kernel
theorem dX7_of_125 : decode cX7_of 125 = .ok (.getfield 79, 3) := by decide +kernel
theorem dX7_of_128 : decode cX7_of 128 = .ok (.ireturn, 1) := by decide +kernel
theorem dX7_of_129 : decode cX7_of 129 = .ok (.aload_n 3, 1) := by decide +kernel
theorem dX7_of_130 : decode cX7_of 130 = .ok (.getfield 82, 3) := by decide +kernel
theorem dX7_of_133 : decode cX7_of 133 = .ok (.ireturn, 1) := by decide +kernel
theorem dX7_of_134 : decode cX7_of 134 = .ok (.aload_n 3, 1) := by decide +kernel
theorem dX7_of_135 : decode cX7_of 135 = .ok (.getfield 85, 3) := by decide +kernel
theorem dX7_of_138 : decode cX7_of 138 = .ok (.ifCond .eq 7, 3) := by decide +kernel
theorem dX7_of_141 : decode cX7_of 141 = .ok (.iconst 1, 1) := by decide +kernel
def k90_1 : List (Nat × XI) := [(106, x_goto 113), (109, x_aload 3 110), (110, x_getI 0 0 113), (113, x_iret), (114, x_aload 3 115), (115, x_getI 0 1 118), (118, x_iret), (119, x_aload 3 120), (120, x_getI 0 2 123), (123, x_iret), (124, x_aload 3 125), (125, x_getI 0 3 128), (128, x_iret), (129, x_aload 3 130), (130, x_getI 0 4 133), (133, x_iret), (134, x_aload 3 135), (135, x_getI 0 6 138), (138, x_ifeq 145 141), (141, x_push (1) 142)]
theorem o90_1 (scr : Nat × (Nat → Int32)) : ∀ q ∈ k90_1, XSnd xm scr Y90 q.1 q.2 := xcons (s_goto dX7_of_106 rfl) (xcons (s_aload_n rfl dX7_of_109) (xcons (s_getI (f := 0) xC0 (by decide) xw_409 rfl dX7_of_110) (xcons (s_iret dX7_of_113 rfl) (xcons (s_aload_n rfl dX7_of_114) (xcons (s_getI (f := 1) xC0 (by decide) xw_410 rfl dX7_of_115) (xcons (s_iret dX7_of_118 rfl) (xcons (s_aload_n rfl dX7_of_119) (xcons (s_getI (f := 2) xC0 (by decide) xw_411 rfl dX7_of_120) (xcons (s_iret dX7_of_123 rfl) (xcons (s_aload_n rfl dX7_of_124) (xcons (s_getI (f := 3) xC0 (by decide) xw_412 rfl dX7_of_125) (xcons (s_iret dX7_of_128 rfl) (xcons (s_aload_n rfl dX7_of_129) (xcons (s_getI (f := 4) xC0 (by decide) xw_413 rfl dX7_of_130) (xcons (s_iret dX7_of_133 rfl) (xcons (s_aload_n rfl dX7_of_134) (xcons (s_getI (f := 6) xC0 (by decide) xw_414 rfl dX7_of_135) (xcons (s_ifeq dX7_of_138 rfl) (xcons (s_iconst dX7_of_141 rfl) (xnil))))))))))))))))))))
theorem dX7_of_142 : decode cX7_of 142 = .ok (.goto 4, 3) := by decide +kernel
theorem dX7_of_145 : decode cX7_of 145 = .ok (.iconst 0, 1) := by decide +kernel
theorem dX7_of_146 : decode cX7_of 146 = .ok (.ireturn, 1) := by decide +kernel
theorem dX7_of_147 : decode cX7_of 147 = .ok (.aload_n 3, 1) := by decide +kernel
theorem dX7_of_148 : decode cX7_of 148 = .ok (.getfield 89, 3) := by decide +kernel
theorem dX7_of_151 : decode cX7_of 151 = .ok (.aload_n 3, 1) := by decide +kernel
theorem dX7_of_152 : decode cX7_of 152 = .ok (.getfield 89, 3) := by decide +kernel
theorem dX7_of_155 : decode cX7_of 155 = .ok (.getfield 93, 3) := by decide +kernel
theorem dX7_of_158 : decode cX7_of 158 = .ok (.iconst 1, 1) := by decide +kernel
theorem dX7_of_159 : decode cX7_of 159 = .ok (.isub, 1) := by decide +kernel
theorem dX7_of_160 : decode cX7_of 160 = .ok (.invokevirtual 96, 3) := by decide +kernel
theorem dX7_of_163 : decode cX7_of 163 = .ok (.ireturn, 1) := by decide +kernel
theorem dX7_of_164 : decode cX7_of 164 = .ok (.aload_n 3, 1) := by decide +kernel
theorem dX7_of_165 : decode cX7_of 165 = .ok (.getfield 89, 3) := by decide +kernel
theorem dX7_of_168 : decode cX7_of 168 = .ok (.getfield 93, 3) := by decide +kernel
theorem dX7_of_171 : decode cX7_of 171 = .ok (.ireturn, 1) := by decide +kernel
theorem dX7_of_172 : decode cX7_of 172 = .ok (.aload_n 3, 1) := by decide +kernel
theorem dX7_of_173 : decode cX7_of 173 = .ok (.getfield 58, 3) := by decide +kernel
theorem dX7_of_176 : decode cX7_of 176 = .ok (.getfield 64, 3) := by decide +kernel
theorem dX7_of_179 : decode cX7_of 179 = .ok (.ireturn, 1) := by decide +kernel
def k90_2 : List (Nat × XI) := [(142, x_goto 146), (145, x_push (0) 146), (146, x_iret), (147, x_aload 3 148), (148, x_getR 0 7 151), (151, x_aload 3 152), (152, x_getR 0 7 155), (155, x_getI 2 1 158), (158, x_push (1) 159), (159, x_isub 160), (160, x_inv 6 2 1 163), (163, x_iret), (164, x_aload 3 165), (165, x_getR 0 7 168), (168, x_getI 2 1 171), (171, x_iret), (172, x_aload 3 173), (173, x_getR 0 8 176), (176, x_getI 3 2 179), (179, x_iret)]
theorem o90_2 (scr : Nat × (Nat → Int32)) : ∀ q ∈ k90_2, XSnd xm scr Y90 q.1 q.2 := xcons (s_goto dX7_of_142 rfl) (xcons (s_iconst dX7_of_145 rfl) (xcons (s_iret dX7_of_146 rfl) (xcons (s_aload_n rfl dX7_of_147) (xcons (s_getR (f := 7) xC0 (by decide) xw_415 rfl dX7_of_148) (xcons (s_aload_n rfl dX7_of_151) (xcons (s_getR (f := 7) xC0 (by decide) xw_415 rfl dX7_of_152) (xcons (s_getI (f := 1) xC2 (by decide) xw_365 rfl dX7_of_155) (xcons (s_iconst dX7_of_158 rfl) (xcons (s_isub dX7_of_159) (xcons (s_inv (mid := 6) xC2 cal_6 xw_371 xw_93 xw_94 dX7_of_160) (xcons (s_iret dX7_of_163 rfl) (xcons (s_aload_n rfl dX7_of_164) (xcons (s_getR (f := 7) xC0 (by decide) xw_415 rfl dX7_of_165) (xcons (s_getI (f := 1) xC2 (by decide) xw_365 rfl dX7_of_168) (xcons (s_iret dX7_of_171 rfl) (xcons (s_aload_n rfl dX7_of_172) (xcons (s_getR (f := 8) xC0 (by decide) xw_408 rfl dX7_of_173) (xcons (s_getI (f := 2) xC3 (by decide) xw_346 rfl dX7_of_176) (xcons (s_iret dX7_of_179 rfl) (xnil))))))))))))))))))))
theorem dX7_of_180 : decode cX7_of 180 = .ok (.aload_n 3, 1) := by decide +kernel
theorem dX7_of_181 : decode cX7_of 181 = .ok (.getfield 100, 3) := by decide +kernel
theorem dX7_of_184 : decode cX7_of 184 = .ok (.getfield 64, 3) := by decide +kernel
theorem dX7_of_187 : decode cX7_of 187 = .ok (.ireturn, 1) := by decide +kernel
theorem dX7_of_188 : decode cX7_of 188 = .ok (.aload_n 3, 1) := by decide +kernel
theorem dX7_of_189 : decode cX7_of 189 = .ok (.getfield 103, 3) := by decide +kernel
theorem dX7_of_192 : decode cX7_of 192 = .ok (.getfield 93, 3) := by decide +kernel
theorem dX7_of_195 : decode cX7_of 195 = .ok (.ireturn, 1) := by decide +kernel
theorem dX7_of_196 : decode cX7_of 196 = .ok (.aload_n 0, 1) := by decide +kernel
theorem dX7_of_197 : decode cX7_of 197 = .ok (.getfield 10, 3) := by decide +kernel
theorem dX7_of_200 : decode cX7_of 200 = .ok (.getfield 106, 3) := by decide +kernel
theorem dX7_of_203 : decode cX7_of 203 = .ok (.iload_n 1, 1) := by decide +kernel
theorem dX7_of_204 : decode cX7_of 204 = .ok (.invokevirtual 110, 3) := by decide +kernel
theorem dX7_of_207 : decode cX7_of 207 = .ok (.ireturn, 1) := by decide +kernel
theorem dX7_of_208 : decode cX7_of 208 = .ok (.aload_n 3, 1) := by decide +kernel
theorem dX7_of_209 : decode cX7_of 209 = .ok (.getfield 115, 3) := by decide +kernel
theorem dX7_of_212 : decode cX7_of 212 = .ok (.aload_n 0, 1) := by decide +kernel
theorem dX7_of_213 : decode cX7_of 213 = .ok (.getfield 10, 3) := by decide +kernel
theorem dX7_of_216 : decode cX7_of 216 = .ok (.getfield 118, 3) := by decide +kernel
theorem dX7_of_219 : decode cX7_of 219 = .ok (.aload_n 3, 1) := by decide +kernel
def k90_3 : List (Nat × XI) := [(180, x_aload 3 181), (181, x_getR 0 9 184), (184, x_getI 3 2 187), (187, x_iret), (188, x_aload 3 189), (189, x_getR 0 10 192), (192, x_getI 2 1 195), (195, x_iret), (196, x_aload 0 197), (197, x_getR 7 0 200), (200, x_getR 6 1 203), (203, x_iload 1 204), (204, x_inv 31 5 1 207), (207, x_iret), (208, x_aload 3 209), (209, x_getR 0 11 212), (212, x_aload 0 213), (213, x_getR 7 0 216), (216, x_getI 6 6 219), (219, x_aload 3 220)]
theorem o90_3 (scr : Nat × (Nat → Int32)) : ∀ q ∈ k90_3, XSnd xm scr Y90 q.1 q.2 := xcons (s_aload_n rfl dX7_of_180) (xcons (s_getR (f := 9) xC0 (by decide) xw_407 rfl dX7_of_181) (xcons (s_getI (f := 2) xC3 (by decide) xw_346 rfl dX7_of_184) (xcons (s_iret dX7_of_187 rfl) (xcons (s_aload_n rfl dX7_of_188) (xcons (s_getR (f := 10) xC0 (by decide) xw_416 rfl dX7_of_189) (xcons (s_getI (f := 1) xC2 (by decide) xw_365 rfl dX7_of_192) (xcons (s_iret dX7_of_195 rfl) (xcons (s_aload_n rfl dX7_of_196) (xcons (s_getR (f := 0) xC7 (by decide) xw_320 rfl dX7_of_197) (xcons (s_getR (f := 1) xC6 (by decide) xw_357 rfl dX7_of_200) (xcons (s_iload_n rfl dX7_of_203) (xcons (s_inv (mid := 31) xC5 cal_31 xw_418 xw_419 xw_420 dX7_of_204) (xcons (s_iret dX7_of_207 rfl) (xcons (s_aload_n rfl dX7_of_208) (xcons (s_getR (f := 11) xC0 (by decide) xw_421 rfl dX7_of_209) (xcons (s_aload_n rfl dX7_of_212) (xcons (s_getR (f := 0) xC7 (by decide) xw_320 rfl dX7_of_213) (xcons (s_getI (f := 6) xC6 (by decide) xw_361 rfl dX7_of_216) (xcons (s_aload_n rfl dX7_of_219) (xnil))))))))))))))))))))
theorem dX7_of_220 : decode cX7_of 220 = .ok (.getfield 82, 3) := by decide +kernel
theorem dX7_of_223 : decode cX7_of 223 = .ok (.isub, 1) := by decide +kernel
theorem dX7_of_224 : decode cX7_of 224 = .ok (.invokevirtual 121, 3) := by decide +kernel
theorem dX7_of_227 : decode cX7_of 227 = .ok (.ireturn, 1) := by decide +kernel
theorem dX7_of_228 : decode cX7_of 228 = .ok (.aload_n 0, 1) := by decide +kernel
theorem dX7_of_229 : decode cX7_of 229 = .ok (.getfield 10, 3) := by decide +kernel
theorem dX7_of_232 : decode cX7_of 232 = .ok (.iload_n 1, 1) := by decide +kernel
theorem dX7_of_233 : decode cX7_of 233 = .ok (.invokevirtual 124, 3) := by decide +kernel
theorem dX7_of_236 : decode cX7_of 236 = .ok (.ireturn, 1) := by decide +kernel
theorem dX7_of_237 : decode cX7_of 237 = .ok (.iconst (-1), 1) := by decide +kernel
theorem dX7_of_238 : decode cX7_of 238 = .ok (.ireturn, 1) := by decide +kernel
def k90_4 : List (Nat × XI) := [(220, x_getI 0 4 223), (223, x_isub 224), (224, x_inv 9 2 1 227), (227, x_iret), (228, x_aload 0 229), (229, x_getR 7 0 232), (232, x_iload 1 233), (233, x_inv 41 6 1 236), (236, x_iret), (237, x_push (-1) 238), (238, x_iret)]
theorem o90_4 (scr : Nat × (Nat → Int32)) : ∀ q ∈ k90_4, XSnd xm scr Y90 q.1 q.2 := xcons (s_getI (f := 4) xC0 (by decide) xw_413 rfl dX7_of_220) (xcons (s_isub dX7_of_223) (xcons (s_inv (mid := 9) xC2 cal_9 xw_423 xw_424 xw_425 dX7_of_224) (xcons (s_iret dX7_of_227 rfl) (xcons (s_aload_n rfl dX7_of_228) (xcons (s_getR (f := 0) xC7 (by decide) xw_320 rfl dX7_of_229) (xcons (s_iload_n rfl dX7_of_232) (xcons (s_inv (mid := 41) xC6 cal_41 xw_427 xw_428 xw_429 dX7_of_233) (xcons (s_iret dX7_of_236 rfl) (xcons (s_iconst dX7_of_237 rfl) (xcons (s_iret dX7_of_238 rfl) (xnil)))))))))))
def k90 (pc : Nat) : XI := if pc < 142 then if pc < 106 then xlk k90_0 pc else xlk k90_1 pc else if pc < 180 then xlk k90_2 pc else if pc < 220 then xlk k90_3 pc else xlk k90_4 pc
theorem o90 (scr : Nat × (Nat → Int32)) (pc : Nat) : XSnd xm scr Y90 pc (k90 pc) := by
  unfold k90
  exact xite (xite (xlk_ok (o90_0 scr) pc) (xlk_ok (o90_1 scr) pc)) (xite (xlk_ok (o90_2 scr) pc) (xite (xlk_ok (o90_3 scr) pc) (xlk_ok (o90_4 scr) pc)))
theorem dX7_quiet_0 : decode cX7_quiet 0 = .ok (.aload_n 0, 1) := by decide +kernel
theorem dX7_quiet_1 : decode cX7_quiet 1 = .ok (.getfield 16, 3) := by decide +kernel
theorem dX7_quiet_4 : decode cX7_quiet 4 = .ok (.aload_n 0, 1) := by decide +kernel
theorem dX7_quiet_5 : decode cX7_quiet 5 = .ok (.getfield 10, 3) := by decide +kernel
theorem dX7_quiet_8 : decode cX7_quiet 8 = .ok (.invokevirtual 172, 3) := by decide +kernel
theorem dX7_quiet_11 : decode cX7_quiet 11 = .ok (.iconst 0, 1) := by decide +kernel
theorem dX7_quiet_12 : decode cX7_quiet 12 = .ok (.istore_n 1, 1) := by decide +kernel
theorem dX7_quiet_13 : decode cX7_quiet 13 = .ok (.iload_n 1, 1) := by decide +kernel
theorem dX7_quiet_14 : decode cX7_quiet 14 = .ok (.sipush 200, 3) := by decide +kernel
theorem dX7_quiet_17 : decode cX7_quiet 17 = .ok (.if_icmp .ge 21, 3) := by decide +kernel
theorem dX7_quiet_20 : decode cX7_quiet 20 = .ok (.aload_n 0, 1) := by decide +kernel
theorem dX7_quiet_21 : decode cX7_quiet 21 = .ok (.getfield 16, 3) := by decide +kernel
theorem dX7_quiet_24 : decode cX7_quiet 24 = .ok (.invokevirtual 189, 3) := by decide +kernel
theorem dX7_quiet_27 : decode cX7_quiet 27 = .ok (.ifCond .ne 5, 3) := by decide +kernel
theorem dX7_quiet_30 : decode cX7_quiet 30 = .ok (.iload_n 1, 1) := by decide +kernel
theorem dX7_quiet_31 : decode cX7_quiet 31 = .ok (.ireturn, 1) := by decide +kernel
theorem dX7_quiet_32 : decode cX7_quiet 32 = .ok (.iinc 1 1, 3) := by decide +kernel
theorem dX7_quiet_35 : decode cX7_quiet 35 = .ok (.goto (-22), 3) := by decide +kernel
theorem dX7_quiet_38 : decode cX7_quiet 38 = .ok (.aload_n 0, 1) := by decide +kernel
theorem dX7_quiet_39 : decode cX7_quiet 39 = .ok (.getfield 16, 3) := by decide +kernel
def k93_0 : List (Nat × XI) := [(0, x_aload 0 1), (1, x_getR 7 1 4), (4, x_aload 0 5), (5, x_getR 7 0 8), (8, x_inv 42 6 1 11), (11, x_push (0) 12), (12, x_istore 1 13), (13, x_iload 1 14), (14, x_push (200) 17), (17, x_icge 38 20), (20, x_aload 0 21), (21, x_getR 7 1 24), (24, x_inv 65 6 0 27), (27, x_ifne 32 30), (30, x_iload 1 31), (31, x_iret), (32, x_iinc 1 (1) 35), (35, x_goto 13), (38, x_aload 0 39), (39, x_getR 7 1 42)]
theorem o93_0 (scr : Nat × (Nat → Int32)) : ∀ q ∈ k93_0, XSnd xm scr Y93 q.1 q.2 := xcons (s_aload_n rfl dX7_quiet_0) (xcons (s_getR (f := 1) xC7 (by decide) xw_338 rfl dX7_quiet_1) (xcons (s_aload_n rfl dX7_quiet_4) (xcons (s_getR (f := 0) xC7 (by decide) xw_320 rfl dX7_quiet_5) (xcons (s_inv (mid := 42) xC6 cal_42 xw_328 xw_329 xw_330 dX7_quiet_8) (xcons (s_iconst dX7_quiet_11 rfl) (xcons (s_istore_n rfl dX7_quiet_12 (by decide)) (xcons (s_iload_n rfl dX7_quiet_13) (xcons (s_sipush dX7_quiet_14 rfl) (xcons (s_icge dX7_quiet_17 rfl) (xcons (s_aload_n rfl dX7_quiet_20) (xcons (s_getR (f := 1) xC7 (by decide) xw_338 rfl dX7_quiet_21) (xcons (s_inv (mid := 65) xC6 cal_65 xw_387 xw_284 xw_285 dX7_quiet_24) (xcons (s_ifne dX7_quiet_27 rfl) (xcons (s_iload_n rfl dX7_quiet_30) (xcons (s_iret dX7_quiet_31 rfl) (xcons (s_iinc dX7_quiet_32 rfl (by decide)) (xcons (s_goto dX7_quiet_35 rfl) (xcons (s_aload_n rfl dX7_quiet_38) (xcons (s_getR (f := 1) xC7 (by decide) xw_338 rfl dX7_quiet_39) (xnil))))))))))))))))))))
theorem dX7_quiet_42 : decode cX7_quiet 42 = .ok (.invokevirtual 193, 3) := by decide +kernel
theorem dX7_quiet_45 : decode cX7_quiet 45 = .ok (.ifCond .eq 8, 3) := by decide +kernel
theorem dX7_quiet_48 : decode cX7_quiet 48 = .ok (.bipush (-2), 2) := by decide +kernel
theorem dX7_quiet_50 : decode cX7_quiet 50 = .ok (.goto 6, 3) := by decide +kernel
theorem dX7_quiet_53 : decode cX7_quiet 53 = .ok (.sipush 200, 3) := by decide +kernel
theorem dX7_quiet_56 : decode cX7_quiet 56 = .ok (.ireturn, 1) := by decide +kernel
def k93_1 : List (Nat × XI) := [(42, x_inv 50 6 0 45), (45, x_ifeq 53 48), (48, x_push (-2) 50), (50, x_goto 56), (53, x_push (200) 56), (56, x_iret)]
theorem o93_1 (scr : Nat × (Nat → Int32)) : ∀ q ∈ k93_1, XSnd xm scr Y93 q.1 q.2 := xcons (s_inv (mid := 50) xC6 cal_50 xw_439 xw_260 xw_261 dX7_quiet_42) (xcons (s_ifeq dX7_quiet_45 rfl) (xcons (s_bipush dX7_quiet_48 rfl) (xcons (s_goto dX7_quiet_50 rfl) (xcons (s_sipush dX7_quiet_53 rfl) (xcons (s_iret dX7_quiet_56 rfl) (xnil))))))
def k93 (pc : Nat) : XI := if pc < 42 then xlk k93_0 pc else xlk k93_1 pc
theorem o93 (scr : Nat × (Nat → Int32)) (pc : Nat) : XSnd xm scr Y93 pc (k93 pc) := by
  unfold k93
  exact xite (xlk_ok (o93_0 scr) pc) (xlk_ok (o93_1 scr) pc)
theorem dX7_run_0 : decode cX7_run 0 = .ok (.iload_n 1, 1) := by decide +kernel
theorem dX7_run_1 : decode cX7_run 1 = .ok (.invokestatic 157, 3) := by decide +kernel
theorem dX7_run_4 : decode cX7_run 4 = .ok (.ifCond .eq 14, 3) := by decide +kernel
theorem dX7_run_7 : decode cX7_run 7 = .ok (.aload_n 0, 1) := by decide +kernel
theorem dX7_run_8 : decode cX7_run 8 = .ok (.getfield 10, 3) := by decide +kernel
theorem dX7_run_11 : decode cX7_run 11 = .ok (.iload_n 1, 1) := by decide +kernel
theorem dX7_run_12 : decode cX7_run 12 = .ok (.invokevirtual 160, 3) := by decide +kernel
theorem dX7_run_15 : decode cX7_run 15 = .ok (.goto 4, 3) := by decide +kernel
theorem dX7_run_18 : decode cX7_run 18 = .ok (.iconst (-1), 1) := by decide +kernel
theorem dX7_run_19 : decode cX7_run 19 = .ok (.ireturn, 1) := by decide +kernel
def k96_0 : List (Nat × XI) := [(0, x_iload 1 1), (1, x_invS 86 1 4), (4, x_ifeq 18 7), (7, x_aload 0 8), (8, x_getR 7 0 11), (11, x_iload 1 12), (12, x_inv 60 6 1 15), (15, x_goto 19), (18, x_push (-1) 19), (19, x_iret)]
theorem o96_0 (scr : Nat × (Nat → Int32)) : ∀ q ∈ k96_0, XSnd xm scr Y96 q.1 q.2 := xcons (s_iload_n rfl dX7_run_0) (xcons (s_invS (mid := 86) cal_86 xw_378 xw_379 dX7_run_1) (xcons (s_ifeq dX7_run_4 rfl) (xcons (s_aload_n rfl dX7_run_7) (xcons (s_getR (f := 0) xC7 (by decide) xw_320 rfl dX7_run_8) (xcons (s_iload_n rfl dX7_run_11) (xcons (s_inv (mid := 60) xC6 cal_60 xw_381 xw_382 xw_383 dX7_run_12) (xcons (s_goto dX7_run_15 rfl) (xcons (s_iconst dX7_run_18 rfl) (xcons (s_iret dX7_run_19 rfl) (xnil))))))))))
def k96 (pc : Nat) : XI := xlk k96_0 pc
theorem o96 (scr : Nat × (Nat → Int32)) (pc : Nat) : XSnd xm scr Y96 pc (k96 pc) := by
  unfold k96
  exact xlk_ok (o96_0 scr) pc
theorem dX7_seed_0 : decode cX7_seed 0 = .ok (.aload_n 0, 1) := by decide +kernel
theorem dX7_seed_1 : decode cX7_seed 1 = .ok (.getfield 10, 3) := by decide +kernel
theorem dX7_seed_4 : decode cX7_seed 4 = .ok (.getfield 228, 3) := by decide +kernel
theorem dX7_seed_7 : decode cX7_seed 7 = .ok (.istore_n 2, 1) := by decide +kernel
theorem dX7_seed_8 : decode cX7_seed 8 = .ok (.aload_n 0, 1) := by decide +kernel
theorem dX7_seed_9 : decode cX7_seed 9 = .ok (.getfield 10, 3) := by decide +kernel
theorem dX7_seed_12 : decode cX7_seed 12 = .ok (.iload_n 1, 1) := by decide +kernel
theorem dX7_seed_13 : decode cX7_seed 13 = .ok (.putfield 228, 3) := by decide +kernel
theorem dX7_seed_16 : decode cX7_seed 16 = .ok (.iload_n 2, 1) := by decide +kernel
theorem dX7_seed_17 : decode cX7_seed 17 = .ok (.ireturn, 1) := by decide +kernel
def k98_0 : List (Nat × XI) := [(0, x_aload 0 1), (1, x_getR 7 0 4), (4, x_getI 6 9 7), (7, x_istore 2 8), (8, x_aload 0 9), (9, x_getR 7 0 12), (12, x_iload 1 13), (13, x_putI 6 9 16), (16, x_iload 2 17), (17, x_iret)]
theorem o98_0 (scr : Nat × (Nat → Int32)) : ∀ q ∈ k98_0, XSnd xm scr Y98 q.1 q.2 := xcons (s_aload_n rfl dX7_seed_0) (xcons (s_getR (f := 0) xC7 (by decide) xw_320 rfl dX7_seed_1) (xcons (s_getI (f := 9) xC6 (by decide) xw_374 rfl dX7_seed_4) (xcons (s_istore_n rfl dX7_seed_7 (by decide)) (xcons (s_aload_n rfl dX7_seed_8) (xcons (s_getR (f := 0) xC7 (by decide) xw_320 rfl dX7_seed_9) (xcons (s_iload_n rfl dX7_seed_12) (xcons (s_putI (f := 9) xC6 (by decide) xw_374 rfl (Or.inl rfl) dX7_seed_13) (xcons (s_iload_n rfl dX7_seed_16) (xcons (s_iret dX7_seed_17 rfl) (xnil))))))))))
def k98 (pc : Nat) : XI := xlk k98_0 pc
theorem o98 (scr : Nat × (Nat → Int32)) (pc : Nat) : XSnd xm scr Y98 pc (k98 pc) := by
  unfold k98
  exact xlk_ok (o98_0 scr) pc
theorem dX7_stop_0 : decode cX7_stop 0 = .ok (.aload_n 0, 1) := by decide +kernel
theorem dX7_stop_1 : decode cX7_stop 1 = .ok (.getfield 10, 3) := by decide +kernel
theorem dX7_stop_4 : decode cX7_stop 4 = .ok (.iload_n 1, 1) := by decide +kernel
theorem dX7_stop_5 : decode cX7_stop 5 = .ok (.invokevirtual 43, 3) := by decide +kernel
theorem dX7_stop_8 : decode cX7_stop 8 = .ok (.ifCond .ne 5, 3) := by decide +kernel
theorem dX7_stop_11 : decode cX7_stop 11 = .ok (.iconst (-1), 1) := by decide +kernel
theorem dX7_stop_12 : decode cX7_stop 12 = .ok (.ireturn, 1) := by decide +kernel
theorem dX7_stop_13 : decode cX7_stop 13 = .ok (.aload_n 0, 1) := by decide +kernel
theorem dX7_stop_14 : decode cX7_stop 14 = .ok (.getfield 10, 3) := by decide +kernel
theorem dX7_stop_17 : decode cX7_stop 17 = .ok (.iload_n 1, 1) := by decide +kernel
theorem dX7_stop_18 : decode cX7_stop 18 = .ok (.invokevirtual 151, 3) := by decide +kernel
theorem dX7_stop_21 : decode cX7_stop 21 = .ok (.ifCond .eq 14, 3) := by decide +kernel
theorem dX7_stop_24 : decode cX7_stop 24 = .ok (.aload_n 0, 1) := by decide +kernel
theorem dX7_stop_25 : decode cX7_stop 25 = .ok (.getfield 10, 3) := by decide +kernel
theorem dX7_stop_28 : decode cX7_stop 28 = .ok (.iload_n 1, 1) := by decide +kernel
theorem dX7_stop_29 : decode cX7_stop 29 = .ok (.invokevirtual 154, 3) := by decide +kernel
theorem dX7_stop_32 : decode cX7_stop 32 = .ok (.goto 5, 3) := by decide +kernel
theorem dX7_stop_35 : decode cX7_stop 35 = .ok (.bipush (-5), 2) := by decide +kernel
theorem dX7_stop_37 : decode cX7_stop 37 = .ok (.ireturn, 1) := by decide +kernel
def k101_0 : List (Nat × XI) := [(0, x_aload 0 1), (1, x_getR 7 0 4), (4, x_iload 1 5), (5, x_inv 53 6 1 8), (8, x_ifne 13 11), (11, x_push (-1) 12), (12, x_iret), (13, x_aload 0 14), (14, x_getR 7 0 17), (17, x_iload 1 18), (18, x_inv 54 6 1 21), (21, x_ifeq 35 24), (24, x_aload 0 25), (25, x_getR 7 0 28), (28, x_iload 1 29), (29, x_inv 49 6 1 32), (32, x_goto 37), (35, x_push (-5) 37), (37, x_iret)]
theorem o101_0 (scr : Nat × (Nat → Int32)) : ∀ q ∈ k101_0, XSnd xm scr Y101 q.1 q.2 := xcons (s_aload_n rfl dX7_stop_0) (xcons (s_getR (f := 0) xC7 (by decide) xw_320 rfl dX7_stop_1) (xcons (s_iload_n rfl dX7_stop_4) (xcons (s_inv (mid := 53) xC6 cal_53 xw_334 xw_131 xw_132 dX7_stop_5) (xcons (s_ifne dX7_stop_8 rfl) (xcons (s_iconst dX7_stop_11 rfl) (xcons (s_iret dX7_stop_12 rfl) (xcons (s_aload_n rfl dX7_stop_13) (xcons (s_getR (f := 0) xC7 (by decide) xw_320 rfl dX7_stop_14) (xcons (s_iload_n rfl dX7_stop_17) (xcons (s_inv (mid := 54) xC6 cal_54 xw_336 xw_135 xw_136 dX7_stop_18) (xcons (s_ifeq dX7_stop_21 rfl) (xcons (s_aload_n rfl dX7_stop_24) (xcons (s_getR (f := 0) xC7 (by decide) xw_320 rfl dX7_stop_25) (xcons (s_iload_n rfl dX7_stop_28) (xcons (s_inv (mid := 49) xC6 cal_49 xw_456 xw_201 xw_202 dX7_stop_29) (xcons (s_goto dX7_stop_32 rfl) (xcons (s_bipush dX7_stop_35 rfl) (xcons (s_iret dX7_stop_37 rfl) (xnil)))))))))))))))))))
def k101 (pc : Nat) : XI := xlk k101_0 pc
theorem o101 (scr : Nat × (Nat → Int32)) (pc : Nat) : XSnd xm scr Y101 pc (k101 pc) := by
  unfold k101
  exact xlk_ok (o101_0 scr) pc
theorem dX7_tell_0 : decode cX7_tell 0 = .ok (.aload_n 0, 1) := by decide +kernel
theorem dX7_tell_1 : decode cX7_tell 1 = .ok (.getfield 10, 3) := by decide +kernel
theorem dX7_tell_4 : decode cX7_tell 4 = .ok (.iload_n 1, 1) := by decide +kernel
theorem dX7_tell_5 : decode cX7_tell 5 = .ok (.invokevirtual 43, 3) := by decide +kernel
theorem dX7_tell_8 : decode cX7_tell 8 = .ok (.ifCond .eq 26, 3) := by decide +kernel
theorem dX7_tell_11 : decode cX7_tell 11 = .ok (.iload_n 2, 1) := by decide +kernel
theorem dX7_tell_12 : decode cX7_tell 12 = .ok (.iconst (-1), 1) := by decide +kernel
theorem dX7_tell_13 : decode cX7_tell 13 = .ok (.if_icmp .eq 14, 3) := by decide +kernel
theorem dX7_tell_16 : decode cX7_tell 16 = .ok (.aload_n 0, 1) := by decide +kernel
theorem dX7_tell_17 : decode cX7_tell 17 = .ok (.getfield 10, 3) := by decide +kernel
theorem dX7_tell_20 : decode cX7_tell 20 = .ok (.iload_n 2, 1) := by decide +kernel
theorem dX7_tell_21 : decode cX7_tell 21 = .ok (.invokevirtual 43, 3) := by decide +kernel
theorem dX7_tell_24 : decode cX7_tell 24 = .ok (.ifCond .eq 10, 3) := by decide +kernel
theorem dX7_tell_27 : decode cX7_tell 27 = .ok (.iload_n 3, 1) := by decide +kernel
theorem dX7_tell_28 : decode cX7_tell 28 = .ok (.invokestatic 47, 3) := by decide +kernel
theorem dX7_tell_31 : decode cX7_tell 31 = .ok (.ifCond .ne 5, 3) := by decide +kernel
theorem dX7_tell_34 : decode cX7_tell 34 = .ok (.iconst (-1), 1) := by decide +kernel
theorem dX7_tell_35 : decode cX7_tell 35 = .ok (.ireturn, 1) := by decide +kernel
theorem dX7_tell_36 : decode cX7_tell 36 = .ok (.aload_n 0, 1) := by decide +kernel
theorem dX7_tell_37 : decode cX7_tell 37 = .ok (.getfield 10, 3) := by decide +kernel
def k102_0 : List (Nat × XI) := [(0, x_aload 0 1), (1, x_getR 7 0 4), (4, x_iload 1 5), (5, x_inv 53 6 1 8), (8, x_ifeq 34 11), (11, x_iload 2 12), (12, x_push (-1) 13), (13, x_iceq 27 16), (16, x_aload 0 17), (17, x_getR 7 0 20), (20, x_iload 2 21), (21, x_inv 53 6 1 24), (24, x_ifeq 34 27), (27, x_iload 3 28), (28, x_invS 85 1 31), (31, x_ifne 36 34), (34, x_push (-1) 35), (35, x_iret), (36, x_aload 0 37), (37, x_getR 7 0 40)]
theorem o102_0 (scr : Nat × (Nat → Int32)) : ∀ q ∈ k102_0, XSnd xm scr Y102 q.1 q.2 := xcons (s_aload_n rfl dX7_tell_0) (xcons (s_getR (f := 0) xC7 (by decide) xw_320 rfl dX7_tell_1) (xcons (s_iload_n rfl dX7_tell_4) (xcons (s_inv (mid := 53) xC6 cal_53 xw_334 xw_131 xw_132 dX7_tell_5) (xcons (s_ifeq dX7_tell_8 rfl) (xcons (s_iload_n rfl dX7_tell_11) (xcons (s_iconst dX7_tell_12 rfl) (xcons (s_iceq dX7_tell_13 rfl) (xcons (s_aload_n rfl dX7_tell_16) (xcons (s_getR (f := 0) xC7 (by decide) xw_320 rfl dX7_tell_17) (xcons (s_iload_n rfl dX7_tell_20) (xcons (s_inv (mid := 53) xC6 cal_53 xw_334 xw_131 xw_132 dX7_tell_21) (xcons (s_ifeq dX7_tell_24 rfl) (xcons (s_iload_n rfl dX7_tell_27) (xcons (s_invS (mid := 85) cal_85 xw_458 xw_459 dX7_tell_28) (xcons (s_ifne dX7_tell_31 rfl) (xcons (s_iconst dX7_tell_34 rfl) (xcons (s_iret dX7_tell_35 rfl) (xcons (s_aload_n rfl dX7_tell_36) (xcons (s_getR (f := 0) xC7 (by decide) xw_320 rfl dX7_tell_37) (xnil))))))))))))))))))))
theorem dX7_tell_40 : decode cX7_tell 40 = .ok (.iload_n 1, 1) := by decide +kernel
theorem dX7_tell_41 : decode cX7_tell 41 = .ok (.iload_n 2, 1) := by decide +kernel
theorem dX7_tell_42 : decode cX7_tell 42 = .ok (.iload_n 3, 1) := by decide +kernel
theorem dX7_tell_43 : decode cX7_tell 43 = .ok (.invokevirtual 50, 3) := by decide +kernel
theorem dX7_tell_46 : decode cX7_tell 46 = .ok (.ifCond .eq 21, 3) := by decide +kernel
theorem dX7_tell_49 : decode cX7_tell 49 = .ok (.aload_n 0, 1) := by decide +kernel
theorem dX7_tell_50 : decode cX7_tell 50 = .ok (.getfield 10, 3) := by decide +kernel
theorem dX7_tell_53 : decode cX7_tell 53 = .ok (.getfield 54, 3) := by decide +kernel
theorem dX7_tell_56 : decode cX7_tell 56 = .ok (.iload_n 1, 1) := by decide +kernel
theorem dX7_tell_57 : decode cX7_tell 57 = .ok (.aaload, 1) := by decide +kernel
theorem dX7_tell_58 : decode cX7_tell 58 = .ok (.getfield 58, 3) := by decide +kernel
theorem dX7_tell_61 : decode cX7_tell 61 = .ok (.getfield 64, 3) := by decide +kernel
theorem dX7_tell_64 : decode cX7_tell 64 = .ok (.goto 5, 3) := by decide +kernel
theorem dX7_tell_67 : decode cX7_tell 67 = .ok (.bipush (-5), 2) := by decide +kernel
theorem dX7_tell_69 : decode cX7_tell 69 = .ok (.ireturn, 1) := by decide +kernel
def k102_1 : List (Nat × XI) := [(40, x_iload 1 41), (41, x_iload 2 42), (42, x_iload 3 43), (43, x_inv 63 6 3 46), (46, x_ifeq 67 49), (49, x_aload 0 50), (50, x_getR 7 0 53), (53, x_getR 6 0 56), (56, x_iload 1 57), (57, x_aald 58), (58, x_getR 0 8 61), (61, x_getI 3 2 64), (64, x_goto 69), (67, x_push (-5) 69), (69, x_iret)]
theorem o102_1 (scr : Nat × (Nat → Int32)) : ∀ q ∈ k102_1, XSnd xm scr Y102 q.1 q.2 := xcons (s_iload_n rfl dX7_tell_40) (xcons (s_iload_n rfl dX7_tell_41) (xcons (s_iload_n rfl dX7_tell_42) (xcons (s_inv (mid := 63) xC6 cal_63 xw_373 xw_182 xw_183 dX7_tell_43) (xcons (s_ifeq dX7_tell_46 rfl) (xcons (s_aload_n rfl dX7_tell_49) (xcons (s_getR (f := 0) xC7 (by decide) xw_320 rfl dX7_tell_50) (xcons (s_getR (f := 0) xC6 (by decide) xw_366 rfl dX7_tell_53) (xcons (s_iload_n rfl dX7_tell_56) (xcons (s_aald dX7_tell_57) (xcons (s_getR (f := 8) xC0 (by decide) xw_408 rfl dX7_tell_58) (xcons (s_getI (f := 2) xC3 (by decide) xw_346 rfl dX7_tell_61) (xcons (s_goto dX7_tell_64 rfl) (xcons (s_bipush dX7_tell_67 rfl) (xcons (s_iret dX7_tell_69 rfl) (xnil)))))))))))))))
def k102 (pc : Nat) : XI := if pc < 40 then xlk k102_0 pc else xlk k102_1 pc
theorem o102 (scr : Nat × (Nat → Int32)) (pc : Nat) : XSnd xm scr Y102 pc (k102 pc) := by
  unfold k102
  exact xite (xlk_ok (o102_0 scr) pc) (xlk_ok (o102_1 scr) pc)
theorem dX7_timer_0 : decode cX7_timer 0 = .ok (.iload_n 1, 1) := by decide +kernel
theorem dX7_timer_1 : decode cX7_timer 1 = .ok (.ifCond .lt 12, 3) := by decide +kernel
theorem dX7_timer_4 : decode cX7_timer 4 = .ok (.iload_n 2, 1) := by decide +kernel
theorem dX7_timer_5 : decode cX7_timer 5 = .ok (.ifCond .lt 8, 3) := by decide +kernel
theorem dX7_timer_8 : decode cX7_timer 8 = .ok (.iload_n 2, 1) := by decide +kernel
theorem dX7_timer_9 : decode cX7_timer 9 = .ok (.iconst 2, 1) := by decide +kernel
theorem dX7_timer_10 : decode cX7_timer 10 = .ok (.if_icmp .le 5, 3) := by decide +kernel
theorem dX7_timer_13 : decode cX7_timer 13 = .ok (.iconst (-1), 1) := by decide +kernel
theorem dX7_timer_14 : decode cX7_timer 14 = .ok (.ireturn, 1) := by decide +kernel
theorem dX7_timer_15 : decode cX7_timer 15 = .ok (.aload_n 0, 1) := by decide +kernel
theorem dX7_timer_16 : decode cX7_timer 16 = .ok (.getfield 10, 3) := by decide +kernel
theorem dX7_timer_19 : decode cX7_timer 19 = .ok (.getfield 106, 3) := by decide +kernel
theorem dX7_timer_22 : decode cX7_timer 22 = .ok (.astore_n 3, 1) := by decide +kernel
theorem dX7_timer_23 : decode cX7_timer 23 = .ok (.iload_n 1, 1) := by decide +kernel
theorem dX7_timer_24 : decode cX7_timer 24 = .ok (.aload_n 3, 1) := by decide +kernel
theorem dX7_timer_25 : decode cX7_timer 25 = .ok (.getfield 141, 3) := by decide +kernel
theorem dX7_timer_28 : decode cX7_timer 28 = .ok (.if_icmp .lt 6, 3) := by decide +kernel
theorem dX7_timer_31 : decode cX7_timer 31 = .ok (.bipush (-2), 2) := by decide +kernel
theorem dX7_timer_33 : decode cX7_timer 33 = .ok (.ireturn, 1) := by decide +kernel
theorem dX7_timer_34 : decode cX7_timer 34 = .ok (.iload_n 2, 1) := by decide +kernel
def k104_0 : List (Nat × XI) := [(0, x_iload 1 1), (1, x_iflt 13 4), (4, x_iload 2 5), (5, x_iflt 13 8), (8, x_iload 2 9), (9, x_push (2) 10), (10, x_icle 15 13), (13, x_push (-1) 14), (14, x_iret), (15, x_aload 0 16), (16, x_getR 7 0 19), (19, x_getR 6 1 22), (22, x_astore 3 23), (23, x_iload 1 24), (24, x_aload 3 25), (25, x_getI 5 3 28), (28, x_iclt 34 31), (31, x_push (-2) 33), (33, x_iret), (34, x_iload 2 35)]
theorem o104_0 (scr : Nat × (Nat → Int32)) : ∀ q ∈ k104_0, XSnd xm scr Y104 q.1 q.2 := xcons (s_iload_n rfl dX7_timer_0) (xcons (s_iflt dX7_timer_1 rfl) (xcons (s_iload_n rfl dX7_timer_4) (xcons (s_iflt dX7_timer_5 rfl) (xcons (s_iload_n rfl dX7_timer_8) (xcons (s_iconst dX7_timer_9 rfl) (xcons (s_icle dX7_timer_10 rfl) (xcons (s_iconst dX7_timer_13 rfl) (xcons (s_iret dX7_timer_14 rfl) (xcons (s_aload_n rfl dX7_timer_15) (xcons (s_getR (f := 0) xC7 (by decide) xw_320 rfl dX7_timer_16) (xcons (s_getR (f := 1) xC6 (by decide) xw_357 rfl dX7_timer_19) (xcons (s_astore_n rfl dX7_timer_22 (by decide)) (xcons (s_iload_n rfl dX7_timer_23) (xcons (s_aload_n rfl dX7_timer_24) (xcons (s_getI (f := 3) xC5 (by decide) xw_358 rfl dX7_timer_25) (xcons (s_iclt dX7_timer_28 rfl) (xcons (s_bipush dX7_timer_31 rfl) (xcons (s_iret dX7_timer_33 rfl) (xcons (s_iload_n rfl dX7_timer_34) (xnil))))))))))))))))))))
theorem dX7_timer_35 : decode cX7_timer 35 = .ok (.ifCond .ne 11, 3) := by decide +kernel
theorem dX7_timer_38 : decode cX7_timer 38 = .ok (.aload_n 3, 1) := by decide +kernel
theorem dX7_timer_39 : decode cX7_timer 39 = .ok (.iload_n 1, 1) := by decide +kernel
theorem dX7_timer_40 : decode cX7_timer 40 = .ok (.invokevirtual 142, 3) := by decide +kernel
theorem dX7_timer_43 : decode cX7_timer 43 = .ok (.goto 24, 3) := by decide +kernel
theorem dX7_timer_46 : decode cX7_timer 46 = .ok (.iload_n 2, 1) := by decide +kernel
theorem dX7_timer_47 : decode cX7_timer 47 = .ok (.iconst 1, 1) := by decide +kernel
theorem dX7_timer_48 : decode cX7_timer 48 = .ok (.if_icmp .ne 11, 3) := by decide +kernel
theorem dX7_timer_51 : decode cX7_timer 51 = .ok (.aload_n 3, 1) := by decide +kernel
theorem dX7_timer_52 : decode cX7_timer 52 = .ok (.iload_n 1, 1) := by decide +kernel
theorem dX7_timer_53 : decode cX7_timer 53 = .ok (.invokevirtual 145, 3) := by decide +kernel
theorem dX7_timer_56 : decode cX7_timer 56 = .ok (.goto 11, 3) := by decide +kernel
theorem dX7_timer_59 : decode cX7_timer 59 = .ok (.bipush 100, 2) := by decide +kernel
theorem dX7_timer_61 : decode cX7_timer 61 = .ok (.aload_n 3, 1) := by decide +kernel
theorem dX7_timer_62 : decode cX7_timer 62 = .ok (.iload_n 1, 1) := by decide +kernel
theorem dX7_timer_63 : decode cX7_timer 63 = .ok (.invokevirtual 148, 3) := by decide +kernel
theorem dX7_timer_66 : decode cX7_timer 66 = .ok (.iadd, 1) := by decide +kernel
theorem dX7_timer_67 : decode cX7_timer 67 = .ok (.ireturn, 1) := by decide +kernel
def k104_1 : List (Nat × XI) := [(35, x_ifne 46 38), (38, x_aload 3 39), (39, x_iload 1 40), (40, x_inv 36 5 1 43), (43, x_goto 67), (46, x_iload 2 47), (47, x_push (1) 48), (48, x_icne 59 51), (51, x_aload 3 52), (52, x_iload 1 53), (53, x_inv 32 5 1 56), (56, x_goto 67), (59, x_push (100) 61), (61, x_aload 3 62), (62, x_iload 1 63), (63, x_inv 35 5 1 66), (66, x_iadd 67), (67, x_iret)]
theorem o104_1 (scr : Nat × (Nat → Int32)) : ∀ q ∈ k104_1, XSnd xm scr Y104 q.1 q.2 := xcons (s_ifne dX7_timer_35 rfl) (xcons (s_aload_n rfl dX7_timer_38) (xcons (s_iload_n rfl dX7_timer_39) (xcons (s_inv (mid := 36) xC5 cal_36 xw_461 xw_220 xw_221 dX7_timer_40) (xcons (s_goto dX7_timer_43 rfl) (xcons (s_iload_n rfl dX7_timer_46) (xcons (s_iconst dX7_timer_47 rfl) (xcons (s_icne dX7_timer_48 rfl) (xcons (s_aload_n rfl dX7_timer_51) (xcons (s_iload_n rfl dX7_timer_52) (xcons (s_inv (mid := 32) xC5 cal_32 xw_462 xw_228 xw_229 dX7_timer_53) (xcons (s_goto dX7_timer_56 rfl) (xcons (s_bipush dX7_timer_59 rfl) (xcons (s_aload_n rfl dX7_timer_61) (xcons (s_iload_n rfl dX7_timer_62) (xcons (s_inv (mid := 35) xC5 cal_35 xw_463 xw_224 xw_225 dX7_timer_63) (xcons (s_iadd dX7_timer_66) (xcons (s_iret dX7_timer_67 rfl) (xnil))))))))))))))))))
def k104 (pc : Nat) : XI := if pc < 35 then xlk k104_0 pc else xlk k104_1 pc
theorem o104 (scr : Nat × (Nat → Int32)) (pc : Nat) : XSnd xm scr Y104 pc (k104 pc) := by
  unfold k104
  exact xite (xlk_ok (o104_0 scr) pc) (xlk_ok (o104_1 scr) pc)
theorem dX7_watcher_0 : decode cX7_watcher 0 = .ok (.aload_n 0, 1) := by decide +kernel
theorem dX7_watcher_1 : decode cX7_watcher 1 = .ok (.getfield 10, 3) := by decide +kernel
theorem dX7_watcher_4 : decode cX7_watcher 4 = .ok (.iload_n 1, 1) := by decide +kernel
theorem dX7_watcher_5 : decode cX7_watcher 5 = .ok (.invokevirtual 43, 3) := by decide +kernel
theorem dX7_watcher_8 : decode cX7_watcher 8 = .ok (.ifCond .eq 22, 3) := by decide +kernel
theorem dX7_watcher_11 : decode cX7_watcher 11 = .ok (.aload_n 0, 1) := by decide +kernel
theorem dX7_watcher_12 : decode cX7_watcher 12 = .ok (.getfield 10, 3) := by decide +kernel
theorem dX7_watcher_15 : decode cX7_watcher 15 = .ok (.getfield 54, 3) := by decide +kernel
theorem dX7_watcher_18 : decode cX7_watcher 18 = .ok (.iload_n 1, 1) := by decide +kernel
theorem dX7_watcher_19 : decode cX7_watcher 19 = .ok (.aaload, 1) := by decide +kernel
theorem dX7_watcher_20 : decode cX7_watcher 20 = .ok (.getfield 103, 3) := by decide +kernel
theorem dX7_watcher_23 : decode cX7_watcher 23 = .ok (.iload_n 2, 1) := by decide +kernel
theorem dX7_watcher_24 : decode cX7_watcher 24 = .ok (.invokestatic 137, 3) := by decide +kernel
theorem dX7_watcher_27 : decode cX7_watcher 27 = .ok (.goto 4, 3) := by decide +kernel
theorem dX7_watcher_30 : decode cX7_watcher 30 = .ok (.iconst (-1), 1) := by decide +kernel
theorem dX7_watcher_31 : decode cX7_watcher 31 = .ok (.ireturn, 1) := by decide +kernel
def k105_0 : List (Nat × XI) := [(0, x_aload 0 1), (1, x_getR 7 0 4), (4, x_iload 1 5), (5, x_inv 53 6 1 8), (8, x_ifeq 30 11), (11, x_aload 0 12), (12, x_getR 7 0 15), (15, x_getR 6 0 18), (18, x_iload 1 19), (19, x_aald 20), (20, x_getR 0 10 23), (23, x_iload 2 24), (24, x_invS 87 2 27), (27, x_goto 31), (30, x_push (-1) 31), (31, x_iret)]
theorem o105_0 (scr : Nat × (Nat → Int32)) : ∀ q ∈ k105_0, XSnd xm scr Y105 q.1 q.2 := xcons (s_aload_n rfl dX7_watcher_0) (xcons (s_getR (f := 0) xC7 (by decide) xw_320 rfl dX7_watcher_1) (xcons (s_iload_n rfl dX7_watcher_4) (xcons (s_inv (mid := 53) xC6 cal_53 xw_334 xw_131 xw_132 dX7_watcher_5) (xcons (s_ifeq dX7_watcher_8 rfl) (xcons (s_aload_n rfl dX7_watcher_11) (xcons (s_getR (f := 0) xC7 (by decide) xw_320 rfl dX7_watcher_12) (xcons (s_getR (f := 0) xC6 (by decide) xw_366 rfl dX7_watcher_15) (xcons (s_iload_n rfl dX7_watcher_18) (xcons (s_aald dX7_watcher_19) (xcons (s_getR (f := 10) xC0 (by decide) xw_416 rfl dX7_watcher_20) (xcons (s_iload_n rfl dX7_watcher_23) (xcons (s_invS (mid := 87) cal_87 xw_454 xw_455 dX7_watcher_24) (xcons (s_goto dX7_watcher_27 rfl) (xcons (s_iconst dX7_watcher_30 rfl) (xcons (s_iret dX7_watcher_31 rfl) (xnil))))))))))))))))
def k105 (pc : Nat) : XI := xlk k105_0 pc
theorem o105 (scr : Nat × (Nat → Int32)) (pc : Nat) : XSnd xm scr Y105 pc (k105 pc) := by
  unfold k105
  exact xlk_ok (o105_0 scr) pc
theorem dJ6_bitCount_0f7a4_0 : decode cJ6_bitCount_0f7a4 0 = .ok (.iload_n 0, 1) := by decide +kernel
theorem dJ6_bitCount_0f7a4_1 : decode cJ6_bitCount_0f7a4 1 = .ok (.iload_n 0, 1) := by decide +kernel
theorem dJ6_bitCount_0f7a4_2 : decode cJ6_bitCount_0f7a4 2 = .ok (.iconst 1, 1) := by decide +kernel
theorem dJ6_bitCount_0f7a4_3 : decode cJ6_bitCount_0f7a4 3 = .ok (.iushr, 1) := by decide +kernel
theorem dJ6_bitCount_0f7a4_4 : decode cJ6_bitCount_0f7a4 4 = .ok (.ldc_w 265, 3) := by decide +kernel
theorem dJ6_bitCount_0f7a4_7 : decode cJ6_bitCount_0f7a4 7 = .ok (.iand, 1) := by decide +kernel
theorem dJ6_bitCount_0f7a4_8 : decode cJ6_bitCount_0f7a4 8 = .ok (.isub, 1) := by decide +kernel
theorem dJ6_bitCount_0f7a4_9 : decode cJ6_bitCount_0f7a4 9 = .ok (.istore_n 0, 1) := by decide +kernel
theorem dJ6_bitCount_0f7a4_10 : decode cJ6_bitCount_0f7a4 10 = .ok (.iload_n 0, 1) := by decide +kernel
theorem dJ6_bitCount_0f7a4_11 : decode cJ6_bitCount_0f7a4 11 = .ok (.ldc_w 266, 3) := by decide +kernel
theorem dJ6_bitCount_0f7a4_14 : decode cJ6_bitCount_0f7a4 14 = .ok (.iand, 1) := by decide +kernel
theorem dJ6_bitCount_0f7a4_15 : decode cJ6_bitCount_0f7a4 15 = .ok (.iload_n 0, 1) := by decide +kernel
theorem dJ6_bitCount_0f7a4_16 : decode cJ6_bitCount_0f7a4 16 = .ok (.iconst 2, 1) := by decide +kernel
theorem dJ6_bitCount_0f7a4_17 : decode cJ6_bitCount_0f7a4 17 = .ok (.iushr, 1) := by decide +kernel
theorem dJ6_bitCount_0f7a4_18 : decode cJ6_bitCount_0f7a4 18 = .ok (.ldc_w 266, 3) := by decide +kernel
theorem dJ6_bitCount_0f7a4_21 : decode cJ6_bitCount_0f7a4 21 = .ok (.iand, 1) := by decide +kernel
theorem dJ6_bitCount_0f7a4_22 : decode cJ6_bitCount_0f7a4 22 = .ok (.iadd, 1) := by decide +kernel
theorem dJ6_bitCount_0f7a4_23 : decode cJ6_bitCount_0f7a4 23 = .ok (.istore_n 0, 1) := by decide +kernel
theorem dJ6_bitCount_0f7a4_24 : decode cJ6_bitCount_0f7a4 24 = .ok (.iload_n 0, 1) := by decide +kernel
theorem dJ6_bitCount_0f7a4_25 : decode cJ6_bitCount_0f7a4 25 = .ok (.iload_n 0, 1) := by decide +kernel
def k189_0 : List (Nat × XI) := [(0, x_iload 0 1), (1, x_iload 0 2), (2, x_push (1) 3), (3, x_iushr 4), (4, x_push (1431655765) 7), (7, x_iand 8), (8, x_isub 9), (9, x_istore 0 10), (10, x_iload 0 11), (11, x_push (858993459) 14), (14, x_iand 15), (15, x_iload 0 16), (16, x_push (2) 17), (17, x_iushr 18), (18, x_push (858993459) 21), (21, x_iand 22), (22, x_iadd 23), (23, x_istore 0 24), (24, x_iload 0 25), (25, x_iload 0 26)]
theorem o189_0 (scr : Nat × (Nat → Int32)) : ∀ q ∈ k189_0, XSnd xm scr Y189 q.1 q.2 := xcons (s_iload_n rfl dJ6_bitCount_0f7a4_0) (xcons (s_iload_n rfl dJ6_bitCount_0f7a4_1) (xcons (s_iconst dJ6_bitCount_0f7a4_2 rfl) (xcons (s_iushr dJ6_bitCount_0f7a4_3) (xcons (s_ldcw dJ6_bitCount_0f7a4_4 xw_691) (xcons (s_iand dJ6_bitCount_0f7a4_7) (xcons (s_isub dJ6_bitCount_0f7a4_8) (xcons (s_istore_n rfl dJ6_bitCount_0f7a4_9 (by decide)) (xcons (s_iload_n rfl dJ6_bitCount_0f7a4_10) (xcons (s_ldcw dJ6_bitCount_0f7a4_11 xw_692) (xcons (s_iand dJ6_bitCount_0f7a4_14) (xcons (s_iload_n rfl dJ6_bitCount_0f7a4_15) (xcons (s_iconst dJ6_bitCount_0f7a4_16 rfl) (xcons (s_iushr dJ6_bitCount_0f7a4_17) (xcons (s_ldcw dJ6_bitCount_0f7a4_18 xw_692) (xcons (s_iand dJ6_bitCount_0f7a4_21) (xcons (s_iadd dJ6_bitCount_0f7a4_22) (xcons (s_istore_n rfl dJ6_bitCount_0f7a4_23 (by decide)) (xcons (s_iload_n rfl dJ6_bitCount_0f7a4_24) (xcons (s_iload_n rfl dJ6_bitCount_0f7a4_25) (xnil))))))))))))))))))))
theorem dJ6_bitCount_0f7a4_26 : decode cJ6_bitCount_0f7a4 26 = .ok (.iconst 4, 1) := by decide +kernel
theorem dJ6_bitCount_0f7a4_27 : decode cJ6_bitCount_0f7a4 27 = .ok (.iushr, 1) := by decide +kernel
theorem dJ6_bitCount_0f7a4_28 : decode cJ6_bitCount_0f7a4 28 = .ok (.iadd, 1) := by decide +kernel
theorem dJ6_bitCount_0f7a4_29 : decode cJ6_bitCount_0f7a4 29 = .ok (.ldc_w 267, 3) := by decide +kernel
theorem dJ6_bitCount_0f7a4_32 : decode cJ6_bitCount_0f7a4 32 = .ok (.iand, 1) := by decide +kernel
theorem dJ6_bitCount_0f7a4_33 : decode cJ6_bitCount_0f7a4 33 = .ok (.istore_n 0, 1) := by decide +kernel
theorem dJ6_bitCount_0f7a4_34 : decode cJ6_bitCount_0f7a4 34 = .ok (.iload_n 0, 1) := by decide +kernel
theorem dJ6_bitCount_0f7a4_35 : decode cJ6_bitCount_0f7a4 35 = .ok (.iload_n 0, 1) := by decide +kernel
theorem dJ6_bitCount_0f7a4_36 : decode cJ6_bitCount_0f7a4 36 = .ok (.bipush 8, 2) := by decide +kernel
theorem dJ6_bitCount_0f7a4_38 : decode cJ6_bitCount_0f7a4 38 = .ok (.iushr, 1) := by decide +kernel
theorem dJ6_bitCount_0f7a4_39 : decode cJ6_bitCount_0f7a4 39 = .ok (.iadd, 1) := by decide +kernel
theorem dJ6_bitCount_0f7a4_40 : decode cJ6_bitCount_0f7a4 40 = .ok (.istore_n 0, 1) := by decide +kernel
theorem dJ6_bitCount_0f7a4_41 : decode cJ6_bitCount_0f7a4 41 = .ok (.iload_n 0, 1) := by decide +kernel
theorem dJ6_bitCount_0f7a4_42 : decode cJ6_bitCount_0f7a4 42 = .ok (.iload_n 0, 1) := by decide +kernel
theorem dJ6_bitCount_0f7a4_43 : decode cJ6_bitCount_0f7a4 43 = .ok (.bipush 16, 2) := by decide +kernel
theorem dJ6_bitCount_0f7a4_45 : decode cJ6_bitCount_0f7a4 45 = .ok (.iushr, 1) := by decide +kernel
theorem dJ6_bitCount_0f7a4_46 : decode cJ6_bitCount_0f7a4 46 = .ok (.iadd, 1) := by decide +kernel
theorem dJ6_bitCount_0f7a4_47 : decode cJ6_bitCount_0f7a4 47 = .ok (.istore_n 0, 1) := by decide +kernel
theorem dJ6_bitCount_0f7a4_48 : decode cJ6_bitCount_0f7a4 48 = .ok (.iload_n 0, 1) := by decide +kernel
theorem dJ6_bitCount_0f7a4_49 : decode cJ6_bitCount_0f7a4 49 = .ok (.bipush 63, 2) := by decide +kernel
def k189_1 : List (Nat × XI) := [(26, x_push (4) 27), (27, x_iushr 28), (28, x_iadd 29), (29, x_push (252645135) 32), (32, x_iand 33), (33, x_istore 0 34), (34, x_iload 0 35), (35, x_iload 0 36), (36, x_push (8) 38), (38, x_iushr 39), (39, x_iadd 40), (40, x_istore 0 41), (41, x_iload 0 42), (42, x_iload 0 43), (43, x_push (16) 45), (45, x_iushr 46), (46, x_iadd 47), (47, x_istore 0 48), (48, x_iload 0 49), (49, x_push (63) 51)]
theorem o189_1 (scr : Nat × (Nat → Int32)) : ∀ q ∈ k189_1, XSnd xm scr Y189 q.1 q.2 := xcons (s_iconst dJ6_bitCount_0f7a4_26 rfl) (xcons (s_iushr dJ6_bitCount_0f7a4_27) (xcons (s_iadd dJ6_bitCount_0f7a4_28) (xcons (s_ldcw dJ6_bitCount_0f7a4_29 xw_693) (xcons (s_iand dJ6_bitCount_0f7a4_32) (xcons (s_istore_n rfl dJ6_bitCount_0f7a4_33 (by decide)) (xcons (s_iload_n rfl dJ6_bitCount_0f7a4_34) (xcons (s_iload_n rfl dJ6_bitCount_0f7a4_35) (xcons (s_bipush dJ6_bitCount_0f7a4_36 rfl) (xcons (s_iushr dJ6_bitCount_0f7a4_38) (xcons (s_iadd dJ6_bitCount_0f7a4_39) (xcons (s_istore_n rfl dJ6_bitCount_0f7a4_40 (by decide)) (xcons (s_iload_n rfl dJ6_bitCount_0f7a4_41) (xcons (s_iload_n rfl dJ6_bitCount_0f7a4_42) (xcons (s_bipush dJ6_bitCount_0f7a4_43 rfl) (xcons (s_iushr dJ6_bitCount_0f7a4_45) (xcons (s_iadd dJ6_bitCount_0f7a4_46) (xcons (s_istore_n rfl dJ6_bitCount_0f7a4_47 (by decide)) (xcons (s_iload_n rfl dJ6_bitCount_0f7a4_48) (xcons (s_bipush dJ6_bitCount_0f7a4_49 rfl) (xnil))))))))))))))))))))
theorem dJ6_bitCount_0f7a4_51 : decode cJ6_bitCount_0f7a4 51 = .ok (.iand, 1) := by decide +kernel
theorem dJ6_bitCount_0f7a4_52 : decode cJ6_bitCount_0f7a4 52 = .ok (.ireturn, 1) := by decide +kernel
def k189_2 : List (Nat × XI) := [(51, x_iand 52), (52, x_iret)]
theorem o189_2 (scr : Nat × (Nat → Int32)) : ∀ q ∈ k189_2, XSnd xm scr Y189 q.1 q.2 := xcons (s_iand dJ6_bitCount_0f7a4_51) (xcons (s_iret dJ6_bitCount_0f7a4_52 rfl) (xnil))
def k189 (pc : Nat) : XI := if pc < 26 then xlk k189_0 pc else if pc < 51 then xlk k189_1 pc else xlk k189_2 pc
theorem o189 (scr : Nat × (Nat → Int32)) (pc : Nat) : XSnd xm scr Y189 pc (k189 pc) := by
  unfold k189
  exact xite (xlk_ok (o189_0 scr) pc) (xite (xlk_ok (o189_1 scr) pc) (xlk_ok (o189_2 scr) pc))
theorem dL_cell_0 : decode cL_cell 0 = .ok (.aload_n 0, 1) := by decide +kernel
theorem dL_cell_1 : decode cL_cell 1 = .ok (.arraylength, 1) := by decide +kernel
theorem dL_cell_2 : decode cL_cell 2 = .ok (.ifCond .ne 11, 3) := by decide +kernel
theorem dL_cell_5 : decode cL_cell 5 = .ok (.sipush 367, 3) := by decide +kernel
theorem dL_cell_8 : decode cL_cell 8 = .ok (.iload_n 1, 1) := by decide +kernel
theorem dL_cell_9 : decode cL_cell 9 = .ok (.imul, 1) := by decide +kernel
theorem dL_cell_10 : decode cL_cell 10 = .ok (.goto 12, 3) := by decide +kernel
theorem dL_cell_13 : decode cL_cell 13 = .ok (.aload_n 0, 1) := by decide +kernel
theorem dL_cell_14 : decode cL_cell 14 = .ok (.iload_n 1, 1) := by decide +kernel
theorem dL_cell_15 : decode cL_cell 15 = .ok (.ldc 7, 2) := by decide +kernel
theorem dL_cell_17 : decode cL_cell 17 = .ok (.iand, 1) := by decide +kernel
theorem dL_cell_18 : decode cL_cell 18 = .ok (.aload_n 0, 1) := by decide +kernel
theorem dL_cell_19 : decode cL_cell 19 = .ok (.arraylength, 1) := by decide +kernel
theorem dL_cell_20 : decode cL_cell 20 = .ok (.irem, 1) := by decide +kernel
theorem dL_cell_21 : decode cL_cell 21 = .ok (.iaload, 1) := by decide +kernel
theorem dL_cell_22 : decode cL_cell 22 = .ok (.ireturn, 1) := by decide +kernel
def k191_0 (scr : Nat × (Nat → Int32)) : List (Nat × XI) := [(0, x_aload 0 1), (1, x_slen scr 2), (2, x_ifne 13 5), (5, x_push (367) 8), (8, x_iload 1 9), (9, x_imul 10), (10, x_goto 22), (13, x_aload 0 14), (14, x_iload 1 15), (15, x_push (65535) 17), (17, x_iand 18), (18, x_aload 0 19), (19, x_slen scr 20), (20, x_irem 21), (21, x_sld scr 22), (22, x_iret)]
theorem o191_0 (scr : Nat × (Nat → Int32)) : ∀ q ∈ k191_0 scr, XSnd xm scr Y191 q.1 q.2 := xcons (s_aload_n rfl dL_cell_0) (xcons (s_slen dL_cell_1) (xcons (s_ifne dL_cell_2 rfl) (xcons (s_sipush dL_cell_5 rfl) (xcons (s_iload_n rfl dL_cell_8) (xcons (s_imul dL_cell_9) (xcons (s_goto dL_cell_10 rfl) (xcons (s_aload_n rfl dL_cell_13) (xcons (s_iload_n rfl dL_cell_14) (xcons (s_ldc dL_cell_15 xw_2000) (xcons (s_iand dL_cell_17) (xcons (s_aload_n rfl dL_cell_18) (xcons (s_slen dL_cell_19) (xcons (s_irem dL_cell_20) (xcons (s_sld dL_cell_21) (xcons (s_iret dL_cell_22 rfl) (xnil))))))))))))))))
def k191 (scr : Nat × (Nat → Int32)) (pc : Nat) : XI := xlk (k191_0 scr) pc
theorem o191 (scr : Nat × (Nat → Int32)) (pc : Nat) : XSnd xm scr Y191 pc (k191 scr pc) := by
  unfold k191
  exact xlk_ok (o191_0 scr) pc
theorem dL_act_0 : decode cL_act 0 = .ok (.aload_n 1, 1) := by decide +kernel
theorem dL_act_1 : decode cL_act 1 = .ok (.iload_n 2, 1) := by decide +kernel
theorem dL_act_2 : decode cL_act 2 = .ok (.invokestatic 8, 3) := by decide +kernel
theorem dL_act_5 : decode cL_act 5 = .ok (.istore_n 3, 1) := by decide +kernel
theorem dL_act_6 : decode cL_act 6 = .ok (.iload_n 3, 1) := by decide +kernel
theorem dL_act_7 : decode cL_act 7 = .ok (.iconst 4, 1) := by decide +kernel
theorem dL_act_8 : decode cL_act 8 = .ok (.ishr, 1) := by decide +kernel
theorem dL_act_9 : decode cL_act 9 = .ok (.ldc 7, 2) := by decide +kernel
theorem dL_act_11 : decode cL_act 11 = .ok (.iand, 1) := by decide +kernel
theorem dL_act_12 : decode cL_act 12 = .ok (.istore 4, 2) := by decide +kernel
theorem dL_act_14 : decode cL_act 14 = .ok (.iload_n 3, 1) := by decide +kernel
theorem dL_act_15 : decode cL_act 15 = .ok (.bipush 15, 2) := by decide +kernel
theorem dL_act_17 : decode cL_act 17 = .ok (.iand, 1) := by decide +kernel
theorem dL_act_18 : decode cL_act 18 = .ok (.tableswitch 279 0 14 #[74, 74, 74, 150, 150, 150, 150, 186, 209, 232, 232, 232, 247, 256, 264], 74) := by decide +kernel
theorem dL_act_92 : decode cL_act 92 = .ok (.aload_n 0, 1) := by decide +kernel
theorem dL_act_93 : decode cL_act 93 = .ok (.aload_n 0, 1) := by decide +kernel
theorem dL_act_94 : decode cL_act 94 = .ok (.iconst 0, 1) := by decide +kernel
theorem dL_act_95 : decode cL_act 95 = .ok (.invokevirtual 14, 3) := by decide +kernel
theorem dL_act_98 : decode cL_act 98 = .ok (.ifCond .ne 7, 3) := by decide +kernel
theorem dL_act_101 : decode cL_act 101 = .ok (.iconst (-1), 1) := by decide +kernel
def k192_0 (scr : Nat × (Nat → Int32)) : List (Nat × XI) := [(0, x_aload 1 1), (1, x_iload 2 2), (2, x_invS 191 2 5), (5, x_istore 3 6), (6, x_iload 3 7), (7, x_push (4) 8), (8, x_ishr 9), (9, x_push (65535) 11), (11, x_iand 12), (12, x_istore 4 14), (14, x_iload 3 15), (15, x_push (15) 17), (17, x_iand 18), (18, x_tsw (0) (14) [92, 92, 92, 168, 168, 168, 168, 204, 227, 250, 250, 250, 265, 274, 282] 297), (92, x_aload 0 93), (93, x_aload 0 94), (94, x_push (0) 95), (95, x_inv 72 7 1 98), (98, x_ifne 105 101), (101, x_push (-1) 102)]
theorem o192_0 (scr : Nat × (Nat → Int32)) : ∀ q ∈ k192_0 scr, XSnd xm scr Y192 q.1 q.2 := xcons (s_aload_n rfl dL_act_0) (xcons (s_iload_n rfl dL_act_1) (xcons (s_invS (mid := 191) cal_191 xw_2001 xw_2002 dL_act_2) (xcons (s_istore_n rfl dL_act_5 (by decide)) (xcons (s_iload_n rfl dL_act_6) (xcons (s_iconst dL_act_7 rfl) (xcons (s_ishr dL_act_8) (xcons (s_ldc dL_act_9 xw_2000) (xcons (s_iand dL_act_11) (xcons (s_istore dL_act_12 (by decide)) (xcons (s_iload_n rfl dL_act_14) (xcons (s_bipush dL_act_15 rfl) (xcons (s_iand dL_act_17) (xcons (s_tsw dL_act_18 rfl rfl) (xcons (s_aload_n rfl dL_act_92) (xcons (s_aload_n rfl dL_act_93) (xcons (s_iconst dL_act_94 rfl) (xcons (s_inv (mid := 72) xC7 cal_72 xw_2003 xw_948 xw_949 dL_act_95) (xcons (s_ifne dL_act_98 rfl) (xcons (s_iconst dL_act_101 rfl) (xnil))))))))))))))))))))
theorem dL_act_102 : decode cL_act 102 = .ok (.goto 14, 3) := by decide +kernel
theorem dL_act_105 : decode cL_act 105 = .ok (.iload 4, 2) := by decide +kernel
theorem dL_act_107 : decode cL_act 107 = .ok (.bipush 15, 2) := by decide +kernel
theorem dL_act_109 : decode cL_act 109 = .ok (.iand, 1) := by decide +kernel
theorem dL_act_110 : decode cL_act 110 = .ok (.aload_n 0, 1) := by decide +kernel
theorem dL_act_111 : decode cL_act 111 = .ok (.iconst 0, 1) := by decide +kernel
theorem dL_act_112 : decode cL_act 112 = .ok (.invokevirtual 14, 3) := by decide +kernel
theorem dL_act_115 : decode cL_act 115 = .ok (.irem, 1) := by decide +kernel
theorem dL_act_116 : decode cL_act 116 = .ok (.iload 4, 2) := by decide +kernel
theorem dL_act_118 : decode cL_act 118 = .ok (.iconst 4, 1) := by decide +kernel
theorem dL_act_119 : decode cL_act 119 = .ok (.ishr, 1) := by decide +kernel
theorem dL_act_120 : decode cL_act 120 = .ok (.bipush 15, 2) := by decide +kernel
theorem dL_act_122 : decode cL_act 122 = .ok (.iand, 1) := by decide +kernel
theorem dL_act_123 : decode cL_act 123 = .ok (.bipush 10, 2) := by decide +kernel
theorem dL_act_125 : decode cL_act 125 = .ok (.irem, 1) := by decide +kernel
theorem dL_act_126 : decode cL_act 126 = .ok (.sipush 1000, 3) := by decide +kernel
theorem dL_act_129 : decode cL_act 129 = .ok (.iload 4, 2) := by decide +kernel
theorem dL_act_131 : decode cL_act 131 = .ok (.bipush 8, 2) := by decide +kernel
theorem dL_act_133 : decode cL_act 133 = .ok (.ishr, 1) := by decide +kernel
theorem dL_act_134 : decode cL_act 134 = .ok (.iconst 3, 1) := by decide +kernel
def k192_1 (scr : Nat × (Nat → Int32)) : List (Nat × XI) := [(102, x_goto 116), (105, x_iload 4 107), (107, x_push (15) 109), (109, x_iand 110), (110, x_aload 0 111), (111, x_push (0) 112), (112, x_inv 72 7 1 115), (115, x_irem 116), (116, x_iload 4 118), (118, x_push (4) 119), (119, x_ishr 120), (120, x_push (15) 122), (122, x_iand 123), (123, x_push (10) 125), (125, x_irem 126), (126, x_push (1000) 129), (129, x_iload 4 131), (131, x_push (8) 133), (133, x_ishr 134), (134, x_push (3) 135)]
theorem o192_1 (scr : Nat × (Nat → Int32)) : ∀ q ∈ k192_1 scr, XSnd xm scr Y192 q.1 q.2 := xcons (s_goto dL_act_102 rfl) (xcons (s_iload dL_act_105) (xcons (s_bipush dL_act_107 rfl) (xcons (s_iand dL_act_109) (xcons (s_aload_n rfl dL_act_110) (xcons (s_iconst dL_act_111 rfl) (xcons (s_inv (mid := 72) xC7 cal_72 xw_2003 xw_948 xw_949 dL_act_112) (xcons (s_irem dL_act_115) (xcons (s_iload dL_act_116) (xcons (s_iconst dL_act_118 rfl) (xcons (s_ishr dL_act_119) (xcons (s_bipush dL_act_120 rfl) (xcons (s_iand dL_act_122) (xcons (s_bipush dL_act_123 rfl) (xcons (s_irem dL_act_125) (xcons (s_sipush dL_act_126 rfl) (xcons (s_iload dL_act_129) (xcons (s_bipush dL_act_131 rfl) (xcons (s_ishr dL_act_133) (xcons (s_iconst dL_act_134 rfl) (xnil))))))))))))))))))))
theorem dL_act_135 : decode cL_act 135 = .ok (.iand, 1) := by decide +kernel
theorem dL_act_136 : decode cL_act 136 = .ok (.iconst 3, 1) := by decide +kernel
theorem dL_act_137 : decode cL_act 137 = .ok (.irem, 1) := by decide +kernel
theorem dL_act_138 : decode cL_act 138 = .ok (.imul, 1) := by decide +kernel
theorem dL_act_139 : decode cL_act 139 = .ok (.bipush 100, 2) := by decide +kernel
theorem dL_act_141 : decode cL_act 141 = .ok (.iload 4, 2) := by decide +kernel
theorem dL_act_143 : decode cL_act 143 = .ok (.bipush 10, 2) := by decide +kernel
theorem dL_act_145 : decode cL_act 145 = .ok (.ishr, 1) := by decide +kernel
theorem dL_act_146 : decode cL_act 146 = .ok (.iconst 3, 1) := by decide +kernel
theorem dL_act_147 : decode cL_act 147 = .ok (.iand, 1) := by decide +kernel
theorem dL_act_148 : decode cL_act 148 = .ok (.imul, 1) := by decide +kernel
theorem dL_act_149 : decode cL_act 149 = .ok (.iadd, 1) := by decide +kernel
theorem dL_act_150 : decode cL_act 150 = .ok (.iconst 1, 1) := by decide +kernel
theorem dL_act_151 : decode cL_act 151 = .ok (.iadd, 1) := by decide +kernel
theorem dL_act_152 : decode cL_act 152 = .ok (.iload 4, 2) := by decide +kernel
theorem dL_act_154 : decode cL_act 154 = .ok (.bipush 12, 2) := by decide +kernel
theorem dL_act_156 : decode cL_act 156 = .ok (.ishr, 1) := by decide +kernel
theorem dL_act_157 : decode cL_act 157 = .ok (.bipush 15, 2) := by decide +kernel
theorem dL_act_159 : decode cL_act 159 = .ok (.iand, 1) := by decide +kernel
theorem dL_act_160 : decode cL_act 160 = .ok (.iadd, 1) := by decide +kernel
def k192_2 (scr : Nat × (Nat → Int32)) : List (Nat × XI) := [(135, x_iand 136), (136, x_push (3) 137), (137, x_irem 138), (138, x_imul 139), (139, x_push (100) 141), (141, x_iload 4 143), (143, x_push (10) 145), (145, x_ishr 146), (146, x_push (3) 147), (147, x_iand 148), (148, x_imul 149), (149, x_iadd 150), (150, x_push (1) 151), (151, x_iadd 152), (152, x_iload 4 154), (154, x_push (12) 156), (156, x_ishr 157), (157, x_push (15) 159), (159, x_iand 160), (160, x_iadd 161)]
theorem o192_2 (scr : Nat × (Nat → Int32)) : ∀ q ∈ k192_2 scr, XSnd xm scr Y192 q.1 q.2 := xcons (s_iand dL_act_135) (xcons (s_iconst dL_act_136 rfl) (xcons (s_irem dL_act_137) (xcons (s_imul dL_act_138) (xcons (s_bipush dL_act_139 rfl) (xcons (s_iload dL_act_141) (xcons (s_bipush dL_act_143 rfl) (xcons (s_ishr dL_act_145) (xcons (s_iconst dL_act_146 rfl) (xcons (s_iand dL_act_147) (xcons (s_imul dL_act_148) (xcons (s_iadd dL_act_149) (xcons (s_iconst dL_act_150 rfl) (xcons (s_iadd dL_act_151) (xcons (s_iload dL_act_152) (xcons (s_bipush dL_act_154 rfl) (xcons (s_ishr dL_act_156) (xcons (s_bipush dL_act_157 rfl) (xcons (s_iand dL_act_159) (xcons (s_iadd dL_act_160) (xnil))))))))))))))))))))
theorem dL_act_161 : decode cL_act 161 = .ok (.invokevirtual 20, 3) := by decide +kernel
theorem dL_act_164 : decode cL_act 164 = .ok (.pop, 1) := by decide +kernel
theorem dL_act_165 : decode cL_act 165 = .ok (.goto 139, 3) := by decide +kernel
theorem dL_act_168 : decode cL_act 168 = .ok (.aload_n 0, 1) := by decide +kernel
theorem dL_act_169 : decode cL_act 169 = .ok (.iload 4, 2) := by decide +kernel
theorem dL_act_171 : decode cL_act 171 = .ok (.bipush 15, 2) := by decide +kernel
theorem dL_act_173 : decode cL_act 173 = .ok (.iand, 1) := by decide +kernel
theorem dL_act_174 : decode cL_act 174 = .ok (.bipush 12, 2) := by decide +kernel
theorem dL_act_176 : decode cL_act 176 = .ok (.irem, 1) := by decide +kernel
theorem dL_act_177 : decode cL_act 177 = .ok (.iload 4, 2) := by decide +kernel
theorem dL_act_179 : decode cL_act 179 = .ok (.iconst 4, 1) := by decide +kernel
theorem dL_act_180 : decode cL_act 180 = .ok (.ishr, 1) := by decide +kernel
theorem dL_act_181 : decode cL_act 181 = .ok (.bipush 15, 2) := by decide +kernel
theorem dL_act_183 : decode cL_act 183 = .ok (.iand, 1) := by decide +kernel
theorem dL_act_184 : decode cL_act 184 = .ok (.iconst 1, 1) := by decide +kernel
theorem dL_act_185 : decode cL_act 185 = .ok (.isub, 1) := by decide +kernel
theorem dL_act_186 : decode cL_act 186 = .ok (.iload 4, 2) := by decide +kernel
theorem dL_act_188 : decode cL_act 188 = .ok (.bipush 8, 2) := by decide +kernel
theorem dL_act_190 : decode cL_act 190 = .ok (.ishr, 1) := by decide +kernel
theorem dL_act_191 : decode cL_act 191 = .ok (.bipush 127, 2) := by decide +kernel
def k192_3 (scr : Nat × (Nat → Int32)) : List (Nat × XI) := [(161, x_inv 68 7 3 164), (164, x_pop 165), (165, x_goto 304), (168, x_aload 0 169), (169, x_iload 4 171), (171, x_push (15) 173), (173, x_iand 174), (174, x_push (12) 176), (176, x_irem 177), (177, x_iload 4 179), (179, x_push (4) 180), (180, x_ishr 181), (181, x_push (15) 183), (183, x_iand 184), (184, x_push (1) 185), (185, x_isub 186), (186, x_iload 4 188), (188, x_push (8) 190), (190, x_ishr 191), (191, x_push (127) 193)]
theorem o192_3 (scr : Nat × (Nat → Int32)) : ∀ q ∈ k192_3 scr, XSnd xm scr Y192 q.1 q.2 := xcons (s_inv (mid := 68) xC7 cal_68 xw_2004 xw_706 xw_707 dL_act_161) (xcons (s_pop dL_act_164) (xcons (s_goto dL_act_165 rfl) (xcons (s_aload_n rfl dL_act_168) (xcons (s_iload dL_act_169) (xcons (s_bipush dL_act_171 rfl) (xcons (s_iand dL_act_173) (xcons (s_bipush dL_act_174 rfl) (xcons (s_irem dL_act_176) (xcons (s_iload dL_act_177) (xcons (s_iconst dL_act_179 rfl) (xcons (s_ishr dL_act_180) (xcons (s_bipush dL_act_181 rfl) (xcons (s_iand dL_act_183) (xcons (s_iconst dL_act_184 rfl) (xcons (s_isub dL_act_185) (xcons (s_iload dL_act_186) (xcons (s_bipush dL_act_188 rfl) (xcons (s_ishr dL_act_190) (xcons (s_bipush dL_act_191 rfl) (xnil))))))))))))))))))))
theorem dL_act_193 : decode cL_act 193 = .ok (.iand, 1) := by decide +kernel
theorem dL_act_194 : decode cL_act 194 = .ok (.bipush 60, 2) := by decide +kernel
theorem dL_act_196 : decode cL_act 196 = .ok (.isub, 1) := by decide +kernel
theorem dL_act_197 : decode cL_act 197 = .ok (.invokevirtual 24, 3) := by decide +kernel
theorem dL_act_200 : decode cL_act 200 = .ok (.pop, 1) := by decide +kernel
theorem dL_act_201 : decode cL_act 201 = .ok (.goto 103, 3) := by decide +kernel
theorem dL_act_204 : decode cL_act 204 = .ok (.aload_n 0, 1) := by decide +kernel
theorem dL_act_205 : decode cL_act 205 = .ok (.iconst 0, 1) := by decide +kernel
theorem dL_act_206 : decode cL_act 206 = .ok (.invokevirtual 14, 3) := by decide +kernel
theorem dL_act_209 : decode cL_act 209 = .ok (.ifCond .le 95, 3) := by decide +kernel
theorem dL_act_212 : decode cL_act 212 = .ok (.aload_n 0, 1) := by decide +kernel
theorem dL_act_213 : decode cL_act 213 = .ok (.iconst 1, 1) := by decide +kernel
theorem dL_act_214 : decode cL_act 214 = .ok (.iload 4, 2) := by decide +kernel
theorem dL_act_216 : decode cL_act 216 = .ok (.bipush 15, 2) := by decide +kernel
theorem dL_act_218 : decode cL_act 218 = .ok (.iand, 1) := by decide +kernel
theorem dL_act_219 : decode cL_act 219 = .ok (.iadd, 1) := by decide +kernel
theorem dL_act_220 : decode cL_act 220 = .ok (.invokevirtual 27, 3) := by decide +kernel
theorem dL_act_223 : decode cL_act 223 = .ok (.pop, 1) := by decide +kernel
theorem dL_act_224 : decode cL_act 224 = .ok (.goto 80, 3) := by decide +kernel
theorem dL_act_227 : decode cL_act 227 = .ok (.iload 4, 2) := by decide +kernel
def k192_4 (scr : Nat × (Nat → Int32)) : List (Nat × XI) := [(193, x_iand 194), (194, x_push (60) 196), (196, x_isub 197), (197, x_inv 102 7 3 200), (200, x_pop 201), (201, x_goto 304), (204, x_aload 0 205), (205, x_push (0) 206), (206, x_inv 72 7 1 209), (209, x_ifle 304 212), (212, x_aload 0 213), (213, x_push (1) 214), (214, x_iload 4 216), (216, x_push (15) 218), (218, x_iand 219), (219, x_iadd 220), (220, x_inv 75 7 1 223), (223, x_pop 224), (224, x_goto 304), (227, x_iload 4 229)]
theorem o192_4 (scr : Nat × (Nat → Int32)) : ∀ q ∈ k192_4 scr, XSnd xm scr Y192 q.1 q.2 := xcons (s_iand dL_act_193) (xcons (s_bipush dL_act_194 rfl) (xcons (s_isub dL_act_196) (xcons (s_inv (mid := 102) xC7 cal_102 xw_2005 xw_711 xw_712 dL_act_197) (xcons (s_pop dL_act_200) (xcons (s_goto dL_act_201 rfl) (xcons (s_aload_n rfl dL_act_204) (xcons (s_iconst dL_act_205 rfl) (xcons (s_inv (mid := 72) xC7 cal_72 xw_2003 xw_948 xw_949 dL_act_206) (xcons (s_ifle dL_act_209 rfl) (xcons (s_aload_n rfl dL_act_212) (xcons (s_iconst dL_act_213 rfl) (xcons (s_iload dL_act_214) (xcons (s_bipush dL_act_216 rfl) (xcons (s_iand dL_act_218) (xcons (s_iadd dL_act_219) (xcons (s_inv (mid := 75) xC7 cal_75 xw_2006 xw_876 xw_877 dL_act_220) (xcons (s_pop dL_act_223) (xcons (s_goto dL_act_224 rfl) (xcons (s_iload dL_act_227) (xnil))))))))))))))))))))
theorem dL_act_229 : decode cL_act 229 = .ok (.bipush 7, 2) := by decide +kernel
theorem dL_act_231 : decode cL_act 231 = .ok (.iand, 1) := by decide +kernel
theorem dL_act_232 : decode cL_act 232 = .ok (.ifCond .ne 72, 3) := by decide +kernel
theorem dL_act_235 : decode cL_act 235 = .ok (.aload_n 0, 1) := by decide +kernel
theorem dL_act_236 : decode cL_act 236 = .ok (.iload 4, 2) := by decide +kernel
theorem dL_act_238 : decode cL_act 238 = .ok (.iconst 3, 1) := by decide +kernel
theorem dL_act_239 : decode cL_act 239 = .ok (.ishr, 1) := by decide +kernel
theorem dL_act_240 : decode cL_act 240 = .ok (.bipush 15, 2) := by decide +kernel
theorem dL_act_242 : decode cL_act 242 = .ok (.iand, 1) := by decide +kernel
theorem dL_act_243 : decode cL_act 243 = .ok (.invokevirtual 30, 3) := by decide +kernel
theorem dL_act_246 : decode cL_act 246 = .ok (.pop, 1) := by decide +kernel
theorem dL_act_247 : decode cL_act 247 = .ok (.goto 57, 3) := by decide +kernel
theorem dL_act_250 : decode cL_act 250 = .ok (.aload_n 0, 1) := by decide +kernel
theorem dL_act_251 : decode cL_act 251 = .ok (.iconst 1, 1) := by decide +kernel
theorem dL_act_252 : decode cL_act 252 = .ok (.iload 4, 2) := by decide +kernel
theorem dL_act_254 : decode cL_act 254 = .ok (.bipush 15, 2) := by decide +kernel
theorem dL_act_256 : decode cL_act 256 = .ok (.iand, 1) := by decide +kernel
theorem dL_act_257 : decode cL_act 257 = .ok (.iadd, 1) := by decide +kernel
theorem dL_act_258 : decode cL_act 258 = .ok (.invokevirtual 33, 3) := by decide +kernel
theorem dL_act_261 : decode cL_act 261 = .ok (.pop, 1) := by decide +kernel
def k192_5 (scr : Nat × (Nat → Int32)) : List (Nat × XI) := [(229, x_push (7) 231), (231, x_iand 232), (232, x_ifne 304 235), (235, x_aload 0 236), (236, x_iload 4 238), (238, x_push (3) 239), (239, x_ishr 240), (240, x_push (15) 242), (242, x_iand 243), (243, x_inv 101 7 1 246), (246, x_pop 247), (247, x_goto 304), (250, x_aload 0 251), (251, x_push (1) 252), (252, x_iload 4 254), (254, x_push (15) 256), (256, x_iand 257), (257, x_iadd 258), (258, x_inv 96 7 1 261), (261, x_pop 262)]
theorem o192_5 (scr : Nat × (Nat → Int32)) : ∀ q ∈ k192_5 scr, XSnd xm scr Y192 q.1 q.2 := xcons (s_bipush dL_act_229 rfl) (xcons (s_iand dL_act_231) (xcons (s_ifne dL_act_232 rfl) (xcons (s_aload_n rfl dL_act_235) (xcons (s_iload dL_act_236) (xcons (s_iconst dL_act_238 rfl) (xcons (s_ishr dL_act_239) (xcons (s_bipush dL_act_240 rfl) (xcons (s_iand dL_act_242) (xcons (s_inv (mid := 101) xC7 cal_101 xw_2007 xw_775 xw_776 dL_act_243) (xcons (s_pop dL_act_246) (xcons (s_goto dL_act_247 rfl) (xcons (s_aload_n rfl dL_act_250) (xcons (s_iconst dL_act_251 rfl) (xcons (s_iload dL_act_252) (xcons (s_bipush dL_act_254 rfl) (xcons (s_iand dL_act_256) (xcons (s_iadd dL_act_257) (xcons (s_inv (mid := 96) xC7 cal_96 xw_2008 xw_783 xw_784 dL_act_258) (xcons (s_pop dL_act_261) (xnil))))))))))))))))))))
theorem dL_act_262 : decode cL_act 262 = .ok (.goto 42, 3) := by decide +kernel
theorem dL_act_265 : decode cL_act 265 = .ok (.aload_n 0, 1) := by decide +kernel
theorem dL_act_266 : decode cL_act 266 = .ok (.iconst 1, 1) := by decide +kernel
theorem dL_act_267 : decode cL_act 267 = .ok (.invokevirtual 33, 3) := by decide +kernel
theorem dL_act_270 : decode cL_act 270 = .ok (.pop, 1) := by decide +kernel
theorem dL_act_271 : decode cL_act 271 = .ok (.goto 33, 3) := by decide +kernel
theorem dL_act_274 : decode cL_act 274 = .ok (.aload_n 0, 1) := by decide +kernel
theorem dL_act_275 : decode cL_act 275 = .ok (.invokevirtual 36, 3) := by decide +kernel
theorem dL_act_278 : decode cL_act 278 = .ok (.pop, 1) := by decide +kernel
theorem dL_act_279 : decode cL_act 279 = .ok (.goto 25, 3) := by decide +kernel
theorem dL_act_282 : decode cL_act 282 = .ok (.iload 4, 2) := by decide +kernel
theorem dL_act_284 : decode cL_act 284 = .ok (.iconst 3, 1) := by decide +kernel
theorem dL_act_285 : decode cL_act 285 = .ok (.iand, 1) := by decide +kernel
theorem dL_act_286 : decode cL_act 286 = .ok (.ifCond .ne 18, 3) := by decide +kernel
theorem dL_act_289 : decode cL_act 289 = .ok (.aload_n 0, 1) := by decide +kernel
theorem dL_act_290 : decode cL_act 290 = .ok (.invokevirtual 40, 3) := by decide +kernel
theorem dL_act_293 : decode cL_act 293 = .ok (.pop, 1) := by decide +kernel
theorem dL_act_294 : decode cL_act 294 = .ok (.goto 10, 3) := by decide +kernel
theorem dL_act_297 : decode cL_act 297 = .ok (.aload_n 0, 1) := by decide +kernel
theorem dL_act_298 : decode cL_act 298 = .ok (.iload 4, 2) := by decide +kernel
def k192_6 (scr : Nat × (Nat → Int32)) : List (Nat × XI) := [(262, x_goto 304), (265, x_aload 0 266), (266, x_push (1) 267), (267, x_inv 96 7 1 270), (270, x_pop 271), (271, x_goto 304), (274, x_aload 0 275), (275, x_inv 82 7 0 278), (278, x_pop 279), (279, x_goto 304), (282, x_iload 4 284), (284, x_push (3) 285), (285, x_iand 286), (286, x_ifne 304 289), (289, x_aload 0 290), (290, x_inv 69 7 0 293), (293, x_pop 294), (294, x_goto 304), (297, x_aload 0 298), (298, x_iload 4 300)]
theorem o192_6 (scr : Nat × (Nat → Int32)) : ∀ q ∈ k192_6 scr, XSnd xm scr Y192 q.1 q.2 := xcons (s_goto dL_act_262 rfl) (xcons (s_aload_n rfl dL_act_265) (xcons (s_iconst dL_act_266 rfl) (xcons (s_inv (mid := 96) xC7 cal_96 xw_2008 xw_783 xw_784 dL_act_267) (xcons (s_pop dL_act_270) (xcons (s_goto dL_act_271 rfl) (xcons (s_aload_n rfl dL_act_274) (xcons (s_inv (mid := 82) xC7 cal_82 xw_2009 xw_900 xw_901 dL_act_275) (xcons (s_pop dL_act_278) (xcons (s_goto dL_act_279 rfl) (xcons (s_iload dL_act_282) (xcons (s_iconst dL_act_284 rfl) (xcons (s_iand dL_act_285) (xcons (s_ifne dL_act_286 rfl) (xcons (s_aload_n rfl dL_act_289) (xcons (s_inv (mid := 69) xC7 cal_69 xw_2010 xw_908 xw_909 dL_act_290) (xcons (s_pop dL_act_293) (xcons (s_goto dL_act_294 rfl) (xcons (s_aload_n rfl dL_act_297) (xcons (s_iload dL_act_298) (xnil))))))))))))))))))))
theorem dL_act_300 : decode cL_act 300 = .ok (.invokevirtual 43, 3) := by decide +kernel
theorem dL_act_303 : decode cL_act 303 = .ok (.pop, 1) := by decide +kernel
theorem dL_act_304 : decode cL_act 304 = .ok (.return_, 1) := by decide +kernel
def k192_7 (scr : Nat × (Nat → Int32)) : List (Nat × XI) := [(300, x_inv 98 7 1 303), (303, x_pop 304), (304, x_ret)]
theorem o192_7 (scr : Nat × (Nat → Int32)) : ∀ q ∈ k192_7 scr, XSnd xm scr Y192 q.1 q.2 := xcons (s_inv (mid := 98) xC7 cal_98 xw_2011 xw_884 xw_885 dL_act_300) (xcons (s_pop dL_act_303) (xcons (s_ret dL_act_304 rfl) (xnil)))
def k192 (scr : Nat × (Nat → Int32)) (pc : Nat) : XI := if pc < 193 then if pc < 135 then if pc < 102 then xlk (k192_0 scr) pc else xlk (k192_1 scr) pc else if pc < 161 then xlk (k192_2 scr) pc else xlk (k192_3 scr) pc else if pc < 262 then if pc < 229 then xlk (k192_4 scr) pc else xlk (k192_5 scr) pc else if pc < 300 then xlk (k192_6 scr) pc else xlk (k192_7 scr) pc
theorem o192 (scr : Nat × (Nat → Int32)) (pc : Nat) : XSnd xm scr Y192 pc (k192 scr pc) := by
  unfold k192
  exact xite (xite (xite (xlk_ok (o192_0 scr) pc) (xlk_ok (o192_1 scr) pc)) (xite (xlk_ok (o192_2 scr) pc) (xlk_ok (o192_3 scr) pc))) (xite (xite (xlk_ok (o192_4 scr) pc) (xlk_ok (o192_5 scr) pc)) (xite (xlk_ok (o192_6 scr) pc) (xlk_ok (o192_7 scr) pc)))
theorem dL_isFair_0 : decode cL_isFair 0 = .ok (.iconst 0, 1) := by decide +kernel
theorem dL_isFair_1 : decode cL_isFair 1 = .ok (.istore_n 1, 1) := by decide +kernel
theorem dL_isFair_2 : decode cL_isFair 2 = .ok (.iconst 0, 1) := by decide +kernel
theorem dL_isFair_3 : decode cL_isFair 3 = .ok (.istore_n 2, 1) := by decide +kernel
theorem dL_isFair_4 : decode cL_isFair 4 = .ok (.iconst 0, 1) := by decide +kernel
theorem dL_isFair_5 : decode cL_isFair 5 = .ok (.istore_n 3, 1) := by decide +kernel
theorem dL_isFair_6 : decode cL_isFair 6 = .ok (.iconst 0, 1) := by decide +kernel
theorem dL_isFair_7 : decode cL_isFair 7 = .ok (.istore 4, 2) := by decide +kernel
theorem dL_isFair_9 : decode cL_isFair 9 = .ok (.iload 4, 2) := by decide +kernel
theorem dL_isFair_11 : decode cL_isFair 11 = .ok (.aload_n 0, 1) := by decide +kernel
theorem dL_isFair_12 : decode cL_isFair 12 = .ok (.iconst 0, 1) := by decide +kernel
theorem dL_isFair_13 : decode cL_isFair 13 = .ok (.invokevirtual 14, 3) := by decide +kernel
theorem dL_isFair_16 : decode cL_isFair 16 = .ok (.if_icmp .ge 298, 3) := by decide +kernel
theorem dL_isFair_19 : decode cL_isFair 19 = .ok (.aload_n 0, 1) := by decide +kernel
theorem dL_isFair_20 : decode cL_isFair 20 = .ok (.iload 4, 2) := by decide +kernel
theorem dL_isFair_22 : decode cL_isFair 22 = .ok (.iconst 5, 1) := by decide +kernel
theorem dL_isFair_23 : decode cL_isFair 23 = .ok (.invokevirtual 46, 3) := by decide +kernel
theorem dL_isFair_26 : decode cL_isFair 26 = .ok (.iconst 1, 1) := by decide +kernel
theorem dL_isFair_27 : decode cL_isFair 27 = .ok (.if_icmp .ne 7, 3) := by decide +kernel
theorem dL_isFair_30 : decode cL_isFair 30 = .ok (.iconst 1, 1) := by decide +kernel
def k193_0 (scr : Nat × (Nat → Int32)) : List (Nat × XI) := [(0, x_push (0) 1), (1, x_istore 1 2), (2, x_push (0) 3), (3, x_istore 2 4), (4, x_push (0) 5), (5, x_istore 3 6), (6, x_push (0) 7), (7, x_istore 4 9), (9, x_iload 4 11), (11, x_aload 0 12), (12, x_push (0) 13), (13, x_inv 72 7 1 16), (16, x_icge 314 19), (19, x_aload 0 20), (20, x_iload 4 22), (22, x_push (5) 23), (23, x_inv 90 7 2 26), (26, x_push (1) 27), (27, x_icne 34 30), (30, x_push (1) 31)]
theorem o193_0 (scr : Nat × (Nat → Int32)) : ∀ q ∈ k193_0 scr, XSnd xm scr Y193 q.1 q.2 := xcons (s_iconst dL_isFair_0 rfl) (xcons (s_istore_n rfl dL_isFair_1 (by decide)) (xcons (s_iconst dL_isFair_2 rfl) (xcons (s_istore_n rfl dL_isFair_3 (by decide)) (xcons (s_iconst dL_isFair_4 rfl) (xcons (s_istore_n rfl dL_isFair_5 (by decide)) (xcons (s_iconst dL_isFair_6 rfl) (xcons (s_istore dL_isFair_7 (by decide)) (xcons (s_iload dL_isFair_9) (xcons (s_aload_n rfl dL_isFair_11) (xcons (s_iconst dL_isFair_12 rfl) (xcons (s_inv (mid := 72) xC7 cal_72 xw_2003 xw_948 xw_949 dL_isFair_13) (xcons (s_icge dL_isFair_16 rfl) (xcons (s_aload_n rfl dL_isFair_19) (xcons (s_iload dL_isFair_20) (xcons (s_iconst dL_isFair_22 rfl) (xcons (s_inv (mid := 90) xC7 cal_90 xw_2012 xw_719 xw_720 dL_isFair_23) (xcons (s_iconst dL_isFair_26 rfl) (xcons (s_icne dL_isFair_27 rfl) (xcons (s_iconst dL_isFair_30 rfl) (xnil))))))))))))))))))))
theorem dL_isFair_31 : decode cL_isFair 31 = .ok (.goto 4, 3) := by decide +kernel
theorem dL_isFair_34 : decode cL_isFair 34 = .ok (.iconst 0, 1) := by decide +kernel
theorem dL_isFair_35 : decode cL_isFair 35 = .ok (.istore 5, 2) := by decide +kernel
theorem dL_isFair_37 : decode cL_isFair 37 = .ok (.iload_n 1, 1) := by decide +kernel
theorem dL_isFair_38 : decode cL_isFair 38 = .ok (.iload 5, 2) := by decide +kernel
theorem dL_isFair_40 : decode cL_isFair 40 = .ok (.ifCond .eq 7, 3) := by decide +kernel
theorem dL_isFair_43 : decode cL_isFair 43 = .ok (.iconst 1, 1) := by decide +kernel
theorem dL_isFair_44 : decode cL_isFair 44 = .ok (.goto 4, 3) := by decide +kernel
theorem dL_isFair_47 : decode cL_isFair 47 = .ok (.iconst 0, 1) := by decide +kernel
theorem dL_isFair_48 : decode cL_isFair 48 = .ok (.iadd, 1) := by decide +kernel
theorem dL_isFair_49 : decode cL_isFair 49 = .ok (.istore_n 1, 1) := by decide +kernel
theorem dL_isFair_50 : decode cL_isFair 50 = .ok (.iload_n 2, 1) := by decide +kernel
theorem dL_isFair_51 : decode cL_isFair 51 = .ok (.aload_n 0, 1) := by decide +kernel
theorem dL_isFair_52 : decode cL_isFair 52 = .ok (.iload 4, 2) := by decide +kernel
theorem dL_isFair_54 : decode cL_isFair 54 = .ok (.bipush 8, 2) := by decide +kernel
theorem dL_isFair_56 : decode cL_isFair 56 = .ok (.invokevirtual 46, 3) := by decide +kernel
theorem dL_isFair_59 : decode cL_isFair 59 = .ok (.iadd, 1) := by decide +kernel
theorem dL_isFair_60 : decode cL_isFair 60 = .ok (.istore_n 2, 1) := by decide +kernel
theorem dL_isFair_61 : decode cL_isFair 61 = .ok (.iload_n 3, 1) := by decide +kernel
theorem dL_isFair_62 : decode cL_isFair 62 = .ok (.aload_n 0, 1) := by decide +kernel
def k193_1 (scr : Nat × (Nat → Int32)) : List (Nat × XI) := [(31, x_goto 35), (34, x_push (0) 35), (35, x_istore 5 37), (37, x_iload 1 38), (38, x_iload 5 40), (40, x_ifeq 47 43), (43, x_push (1) 44), (44, x_goto 48), (47, x_push (0) 48), (48, x_iadd 49), (49, x_istore 1 50), (50, x_iload 2 51), (51, x_aload 0 52), (52, x_iload 4 54), (54, x_push (8) 56), (56, x_inv 90 7 2 59), (59, x_iadd 60), (60, x_istore 2 61), (61, x_iload 3 62), (62, x_aload 0 63)]
theorem o193_1 (scr : Nat × (Nat → Int32)) : ∀ q ∈ k193_1 scr, XSnd xm scr Y193 q.1 q.2 := xcons (s_goto dL_isFair_31 rfl) (xcons (s_iconst dL_isFair_34 rfl) (xcons (s_istore dL_isFair_35 (by decide)) (xcons (s_iload_n rfl dL_isFair_37) (xcons (s_iload dL_isFair_38) (xcons (s_ifeq dL_isFair_40 rfl) (xcons (s_iconst dL_isFair_43 rfl) (xcons (s_goto dL_isFair_44 rfl) (xcons (s_iconst dL_isFair_47 rfl) (xcons (s_iadd dL_isFair_48) (xcons (s_istore_n rfl dL_isFair_49 (by decide)) (xcons (s_iload_n rfl dL_isFair_50) (xcons (s_aload_n rfl dL_isFair_51) (xcons (s_iload dL_isFair_52) (xcons (s_bipush dL_isFair_54 rfl) (xcons (s_inv (mid := 90) xC7 cal_90 xw_2012 xw_719 xw_720 dL_isFair_56) (xcons (s_iadd dL_isFair_59) (xcons (s_istore_n rfl dL_isFair_60 (by decide)) (xcons (s_iload_n rfl dL_isFair_61) (xcons (s_aload_n rfl dL_isFair_62) (xnil))))))))))))))))))))
theorem dL_isFair_63 : decode cL_isFair 63 = .ok (.iload 4, 2) := by decide +kernel
theorem dL_isFair_65 : decode cL_isFair 65 = .ok (.bipush 11, 2) := by decide +kernel
theorem dL_isFair_67 : decode cL_isFair 67 = .ok (.invokevirtual 46, 3) := by decide +kernel
theorem dL_isFair_70 : decode cL_isFair 70 = .ok (.iadd, 1) := by decide +kernel
theorem dL_isFair_71 : decode cL_isFair 71 = .ok (.istore_n 3, 1) := by decide +kernel
theorem dL_isFair_72 : decode cL_isFair 72 = .ok (.aload_n 0, 1) := by decide +kernel
theorem dL_isFair_73 : decode cL_isFair 73 = .ok (.iload 4, 2) := by decide +kernel
theorem dL_isFair_75 : decode cL_isFair 75 = .ok (.iconst 0, 1) := by decide +kernel
theorem dL_isFair_76 : decode cL_isFair 76 = .ok (.invokevirtual 46, 3) := by decide +kernel
theorem dL_isFair_79 : decode cL_isFair 79 = .ok (.istore 6, 2) := by decide +kernel
theorem dL_isFair_81 : decode cL_isFair 81 = .ok (.aload_n 0, 1) := by decide +kernel
theorem dL_isFair_82 : decode cL_isFair 82 = .ok (.iload 4, 2) := by decide +kernel
theorem dL_isFair_84 : decode cL_isFair 84 = .ok (.bipush 8, 2) := by decide +kernel
theorem dL_isFair_86 : decode cL_isFair 86 = .ok (.invokevirtual 46, 3) := by decide +kernel
theorem dL_isFair_89 : decode cL_isFair 89 = .ok (.bipush 12, 2) := by decide +kernel
theorem dL_isFair_91 : decode cL_isFair 91 = .ok (.if_icmp .gt 83, 3) := by decide +kernel
theorem dL_isFair_94 : decode cL_isFair 94 = .ok (.aload_n 0, 1) := by decide +kernel
theorem dL_isFair_95 : decode cL_isFair 95 = .ok (.iload 4, 2) := by decide +kernel
theorem dL_isFair_97 : decode cL_isFair 97 = .ok (.bipush 9, 2) := by decide +kernel
theorem dL_isFair_99 : decode cL_isFair 99 = .ok (.invokevirtual 46, 3) := by decide +kernel
def k193_2 (scr : Nat × (Nat → Int32)) : List (Nat × XI) := [(63, x_iload 4 65), (65, x_push (11) 67), (67, x_inv 90 7 2 70), (70, x_iadd 71), (71, x_istore 3 72), (72, x_aload 0 73), (73, x_iload 4 75), (75, x_push (0) 76), (76, x_inv 90 7 2 79), (79, x_istore 6 81), (81, x_aload 0 82), (82, x_iload 4 84), (84, x_push (8) 86), (86, x_inv 90 7 2 89), (89, x_push (12) 91), (91, x_icgt 174 94), (94, x_aload 0 95), (95, x_iload 4 97), (97, x_push (9) 99), (99, x_inv 90 7 2 102)]
theorem o193_2 (scr : Nat × (Nat → Int32)) : ∀ q ∈ k193_2 scr, XSnd xm scr Y193 q.1 q.2 := xcons (s_iload dL_isFair_63) (xcons (s_bipush dL_isFair_65 rfl) (xcons (s_inv (mid := 90) xC7 cal_90 xw_2012 xw_719 xw_720 dL_isFair_67) (xcons (s_iadd dL_isFair_70) (xcons (s_istore_n rfl dL_isFair_71 (by decide)) (xcons (s_aload_n rfl dL_isFair_72) (xcons (s_iload dL_isFair_73) (xcons (s_iconst dL_isFair_75 rfl) (xcons (s_inv (mid := 90) xC7 cal_90 xw_2012 xw_719 xw_720 dL_isFair_76) (xcons (s_istore dL_isFair_79 (by decide)) (xcons (s_aload_n rfl dL_isFair_81) (xcons (s_iload dL_isFair_82) (xcons (s_bipush dL_isFair_84 rfl) (xcons (s_inv (mid := 90) xC7 cal_90 xw_2012 xw_719 xw_720 dL_isFair_86) (xcons (s_bipush dL_isFair_89 rfl) (xcons (s_icgt dL_isFair_91 rfl) (xcons (s_aload_n rfl dL_isFair_94) (xcons (s_iload dL_isFair_95) (xcons (s_bipush dL_isFair_97 rfl) (xcons (s_inv (mid := 90) xC7 cal_90 xw_2012 xw_719 xw_720 dL_isFair_99) (xnil))))))))))))))))))))
theorem dL_isFair_102 : decode cL_isFair 102 = .ok (.bipush 6, 2) := by decide +kernel
theorem dL_isFair_104 : decode cL_isFair 104 = .ok (.if_icmp .gt 70, 3) := by decide +kernel
theorem dL_isFair_107 : decode cL_isFair 107 = .ok (.aload_n 0, 1) := by decide +kernel
theorem dL_isFair_108 : decode cL_isFair 108 = .ok (.iload 4, 2) := by decide +kernel
theorem dL_isFair_110 : decode cL_isFair 110 = .ok (.bipush 7, 2) := by decide +kernel
theorem dL_isFair_112 : decode cL_isFair 112 = .ok (.invokevirtual 46, 3) := by decide +kernel
theorem dL_isFair_115 : decode cL_isFair 115 = .ok (.iconst 1, 1) := by decide +kernel
theorem dL_isFair_116 : decode cL_isFair 116 = .ok (.if_icmp .lt 58, 3) := by decide +kernel
theorem dL_isFair_119 : decode cL_isFair 119 = .ok (.aload_n 0, 1) := by decide +kernel
theorem dL_isFair_120 : decode cL_isFair 120 = .ok (.iload 4, 2) := by decide +kernel
theorem dL_isFair_122 : decode cL_isFair 122 = .ok (.bipush 7, 2) := by decide +kernel
theorem dL_isFair_124 : decode cL_isFair 124 = .ok (.invokevirtual 46, 3) := by decide +kernel
theorem dL_isFair_127 : decode cL_isFair 127 = .ok (.iconst 5, 1) := by decide +kernel
theorem dL_isFair_128 : decode cL_isFair 128 = .ok (.if_icmp .gt 46, 3) := by decide +kernel
theorem dL_isFair_131 : decode cL_isFair 131 = .ok (.iload 5, 2) := by decide +kernel
theorem dL_isFair_133 : decode cL_isFair 133 = .ok (.ifCond .eq 18, 3) := by decide +kernel
theorem dL_isFair_136 : decode cL_isFair 136 = .ok (.iload 6, 2) := by decide +kernel
theorem dL_isFair_138 : decode cL_isFair 138 = .ok (.ifCond .lt 13, 3) := by decide +kernel
theorem dL_isFair_141 : decode cL_isFair 141 = .ok (.aload_n 0, 1) := by decide +kernel
theorem dL_isFair_142 : decode cL_isFair 142 = .ok (.iload 6, 2) := by decide +kernel
def k193_3 (scr : Nat × (Nat → Int32)) : List (Nat × XI) := [(102, x_push (6) 104), (104, x_icgt 174 107), (107, x_aload 0 108), (108, x_iload 4 110), (110, x_push (7) 112), (112, x_inv 90 7 2 115), (115, x_push (1) 116), (116, x_iclt 174 119), (119, x_aload 0 120), (120, x_iload 4 122), (122, x_push (7) 124), (124, x_inv 90 7 2 127), (127, x_push (5) 128), (128, x_icgt 174 131), (131, x_iload 5 133), (133, x_ifeq 151 136), (136, x_iload 6 138), (138, x_iflt 151 141), (141, x_aload 0 142), (142, x_iload 6 144)]
theorem o193_3 (scr : Nat × (Nat → Int32)) : ∀ q ∈ k193_3 scr, XSnd xm scr Y193 q.1 q.2 := xcons (s_bipush dL_isFair_102 rfl) (xcons (s_icgt dL_isFair_104 rfl) (xcons (s_aload_n rfl dL_isFair_107) (xcons (s_iload dL_isFair_108) (xcons (s_bipush dL_isFair_110 rfl) (xcons (s_inv (mid := 90) xC7 cal_90 xw_2012 xw_719 xw_720 dL_isFair_112) (xcons (s_iconst dL_isFair_115 rfl) (xcons (s_iclt dL_isFair_116 rfl) (xcons (s_aload_n rfl dL_isFair_119) (xcons (s_iload dL_isFair_120) (xcons (s_bipush dL_isFair_122 rfl) (xcons (s_inv (mid := 90) xC7 cal_90 xw_2012 xw_719 xw_720 dL_isFair_124) (xcons (s_iconst dL_isFair_127 rfl) (xcons (s_icgt dL_isFair_128 rfl) (xcons (s_iload dL_isFair_131) (xcons (s_ifeq dL_isFair_133 rfl) (xcons (s_iload dL_isFair_136) (xcons (s_iflt dL_isFair_138 rfl) (xcons (s_aload_n rfl dL_isFair_141) (xcons (s_iload dL_isFair_142) (xnil))))))))))))))))))))
theorem dL_isFair_144 : decode cL_isFair 144 = .ok (.iconst 5, 1) := by decide +kernel
theorem dL_isFair_145 : decode cL_isFair 145 = .ok (.invokevirtual 46, 3) := by decide +kernel
theorem dL_isFair_148 : decode cL_isFair 148 = .ok (.ifCond .eq 26, 3) := by decide +kernel
theorem dL_isFair_151 : decode cL_isFair 151 = .ok (.iload 6, 2) := by decide +kernel
theorem dL_isFair_153 : decode cL_isFair 153 = .ok (.ifCond .ge 7, 3) := by decide +kernel
theorem dL_isFair_156 : decode cL_isFair 156 = .ok (.iconst 1, 1) := by decide +kernel
theorem dL_isFair_157 : decode cL_isFair 157 = .ok (.goto 4, 3) := by decide +kernel
theorem dL_isFair_160 : decode cL_isFair 160 = .ok (.iconst 0, 1) := by decide +kernel
theorem dL_isFair_161 : decode cL_isFair 161 = .ok (.iload 4, 2) := by decide +kernel
theorem dL_isFair_163 : decode cL_isFair 163 = .ok (.ifCond .ne 7, 3) := by decide +kernel
theorem dL_isFair_166 : decode cL_isFair 166 = .ok (.iconst 1, 1) := by decide +kernel
theorem dL_isFair_167 : decode cL_isFair 167 = .ok (.goto 4, 3) := by decide +kernel
theorem dL_isFair_170 : decode cL_isFair 170 = .ok (.iconst 0, 1) := by decide +kernel
theorem dL_isFair_171 : decode cL_isFair 171 = .ok (.if_icmp .eq 5, 3) := by decide +kernel
theorem dL_isFair_174 : decode cL_isFair 174 = .ok (.iconst 0, 1) := by decide +kernel
theorem dL_isFair_175 : decode cL_isFair 175 = .ok (.ireturn, 1) := by decide +kernel
theorem dL_isFair_176 : decode cL_isFair 176 = .ok (.iload 5, 2) := by decide +kernel
theorem dL_isFair_178 : decode cL_isFair 178 = .ok (.ifCond .ne 64, 3) := by decide +kernel
theorem dL_isFair_181 : decode cL_isFair 181 = .ok (.aload_n 0, 1) := by decide +kernel
theorem dL_isFair_182 : decode cL_isFair 182 = .ok (.iload 4, 2) := by decide +kernel
def k193_4 (scr : Nat × (Nat → Int32)) : List (Nat × XI) := [(144, x_push (5) 145), (145, x_inv 90 7 2 148), (148, x_ifeq 174 151), (151, x_iload 6 153), (153, x_ifge 160 156), (156, x_push (1) 157), (157, x_goto 161), (160, x_push (0) 161), (161, x_iload 4 163), (163, x_ifne 170 166), (166, x_push (1) 167), (167, x_goto 171), (170, x_push (0) 171), (171, x_iceq 176 174), (174, x_push (0) 175), (175, x_zret), (176, x_iload 5 178), (178, x_ifne 242 181), (181, x_aload 0 182), (182, x_iload 4 184)]
theorem o193_4 (scr : Nat × (Nat → Int32)) : ∀ q ∈ k193_4 scr, XSnd xm scr Y193 q.1 q.2 := xcons (s_iconst dL_isFair_144 rfl) (xcons (s_inv (mid := 90) xC7 cal_90 xw_2012 xw_719 xw_720 dL_isFair_145) (xcons (s_ifeq dL_isFair_148 rfl) (xcons (s_iload dL_isFair_151) (xcons (s_ifge dL_isFair_153 rfl) (xcons (s_iconst dL_isFair_156 rfl) (xcons (s_goto dL_isFair_157 rfl) (xcons (s_iconst dL_isFair_160 rfl) (xcons (s_iload dL_isFair_161) (xcons (s_ifne dL_isFair_163 rfl) (xcons (s_iconst dL_isFair_166 rfl) (xcons (s_goto dL_isFair_167 rfl) (xcons (s_iconst dL_isFair_170 rfl) (xcons (s_iceq dL_isFair_171 rfl) (xcons (s_iconst dL_isFair_174 rfl) (xcons (s_zret dL_isFair_175 rfl) (xcons (s_iload dL_isFair_176) (xcons (s_ifne dL_isFair_178 rfl) (xcons (s_aload_n rfl dL_isFair_181) (xcons (s_iload dL_isFair_182) (xnil))))))))))))))))))))
theorem dL_isFair_184 : decode cL_isFair 184 = .ok (.bipush 8, 2) := by decide +kernel
theorem dL_isFair_186 : decode cL_isFair 186 = .ok (.invokevirtual 46, 3) := by decide +kernel
theorem dL_isFair_189 : decode cL_isFair 189 = .ok (.aload_n 0, 1) := by decide +kernel
theorem dL_isFair_190 : decode cL_isFair 190 = .ok (.iload 4, 2) := by decide +kernel
theorem dL_isFair_192 : decode cL_isFair 192 = .ok (.bipush 9, 2) := by decide +kernel
theorem dL_isFair_194 : decode cL_isFair 194 = .ok (.invokevirtual 46, 3) := by decide +kernel
theorem dL_isFair_197 : decode cL_isFair 197 = .ok (.iadd, 1) := by decide +kernel
theorem dL_isFair_198 : decode cL_isFair 198 = .ok (.aload_n 0, 1) := by decide +kernel
theorem dL_isFair_199 : decode cL_isFair 199 = .ok (.iload 4, 2) := by decide +kernel
theorem dL_isFair_201 : decode cL_isFair 201 = .ok (.bipush 10, 2) := by decide +kernel
theorem dL_isFair_203 : decode cL_isFair 203 = .ok (.invokevirtual 46, 3) := by decide +kernel
theorem dL_isFair_206 : decode cL_isFair 206 = .ok (.iadd, 1) := by decide +kernel
theorem dL_isFair_207 : decode cL_isFair 207 = .ok (.aload_n 0, 1) := by decide +kernel
theorem dL_isFair_208 : decode cL_isFair 208 = .ok (.iload 4, 2) := by decide +kernel
theorem dL_isFair_210 : decode cL_isFair 210 = .ok (.bipush 11, 2) := by decide +kernel
theorem dL_isFair_212 : decode cL_isFair 212 = .ok (.invokevirtual 46, 3) := by decide +kernel
theorem dL_isFair_215 : decode cL_isFair 215 = .ok (.iadd, 1) := by decide +kernel
theorem dL_isFair_216 : decode cL_isFair 216 = .ok (.aload_n 0, 1) := by decide +kernel
theorem dL_isFair_217 : decode cL_isFair 217 = .ok (.iload 4, 2) := by decide +kernel
theorem dL_isFair_219 : decode cL_isFair 219 = .ok (.bipush 12, 2) := by decide +kernel
def k193_5 (scr : Nat × (Nat → Int32)) : List (Nat × XI) := [(184, x_push (8) 186), (186, x_inv 90 7 2 189), (189, x_aload 0 190), (190, x_iload 4 192), (192, x_push (9) 194), (194, x_inv 90 7 2 197), (197, x_iadd 198), (198, x_aload 0 199), (199, x_iload 4 201), (201, x_push (10) 203), (203, x_inv 90 7 2 206), (206, x_iadd 207), (207, x_aload 0 208), (208, x_iload 4 210), (210, x_push (11) 212), (212, x_inv 90 7 2 215), (215, x_iadd 216), (216, x_aload 0 217), (217, x_iload 4 219), (219, x_push (12) 221)]
theorem o193_5 (scr : Nat × (Nat → Int32)) : ∀ q ∈ k193_5 scr, XSnd xm scr Y193 q.1 q.2 := xcons (s_bipush dL_isFair_184 rfl) (xcons (s_inv (mid := 90) xC7 cal_90 xw_2012 xw_719 xw_720 dL_isFair_186) (xcons (s_aload_n rfl dL_isFair_189) (xcons (s_iload dL_isFair_190) (xcons (s_bipush dL_isFair_192 rfl) (xcons (s_inv (mid := 90) xC7 cal_90 xw_2012 xw_719 xw_720 dL_isFair_194) (xcons (s_iadd dL_isFair_197) (xcons (s_aload_n rfl dL_isFair_198) (xcons (s_iload dL_isFair_199) (xcons (s_bipush dL_isFair_201 rfl) (xcons (s_inv (mid := 90) xC7 cal_90 xw_2012 xw_719 xw_720 dL_isFair_203) (xcons (s_iadd dL_isFair_206) (xcons (s_aload_n rfl dL_isFair_207) (xcons (s_iload dL_isFair_208) (xcons (s_bipush dL_isFair_210 rfl) (xcons (s_inv (mid := 90) xC7 cal_90 xw_2012 xw_719 xw_720 dL_isFair_212) (xcons (s_iadd dL_isFair_215) (xcons (s_aload_n rfl dL_isFair_216) (xcons (s_iload dL_isFair_217) (xcons (s_bipush dL_isFair_219 rfl) (xnil))))))))))))))))))))
theorem dL_isFair_221 : decode cL_isFair 221 = .ok (.invokevirtual 46, 3) := by decide +kernel
theorem dL_isFair_224 : decode cL_isFair 224 = .ok (.iadd, 1) := by decide +kernel
theorem dL_isFair_225 : decode cL_isFair 225 = .ok (.ifCond .ne 15, 3) := by decide +kernel
theorem dL_isFair_228 : decode cL_isFair 228 = .ok (.aload_n 0, 1) := by decide +kernel
theorem dL_isFair_229 : decode cL_isFair 229 = .ok (.iload 4, 2) := by decide +kernel
theorem dL_isFair_231 : decode cL_isFair 231 = .ok (.bipush 7, 2) := by decide +kernel
theorem dL_isFair_233 : decode cL_isFair 233 = .ok (.invokevirtual 46, 3) := by decide +kernel
theorem dL_isFair_236 : decode cL_isFair 236 = .ok (.iconst 1, 1) := by decide +kernel
theorem dL_isFair_237 : decode cL_isFair 237 = .ok (.if_icmp .eq 5, 3) := by decide +kernel
theorem dL_isFair_240 : decode cL_isFair 240 = .ok (.iconst 0, 1) := by decide +kernel
theorem dL_isFair_241 : decode cL_isFair 241 = .ok (.ireturn, 1) := by decide +kernel
theorem dL_isFair_242 : decode cL_isFair 242 = .ok (.iload 5, 2) := by decide +kernel
theorem dL_isFair_244 : decode cL_isFair 244 = .ok (.ifCond .eq 23, 3) := by decide +kernel
theorem dL_isFair_247 : decode cL_isFair 247 = .ok (.aload_n 0, 1) := by decide +kernel
theorem dL_isFair_248 : decode cL_isFair 248 = .ok (.iload 4, 2) := by decide +kernel
theorem dL_isFair_250 : decode cL_isFair 250 = .ok (.bipush 12, 2) := by decide +kernel
theorem dL_isFair_252 : decode cL_isFair 252 = .ok (.invokevirtual 46, 3) := by decide +kernel
theorem dL_isFair_255 : decode cL_isFair 255 = .ok (.aload_n 0, 1) := by decide +kernel
theorem dL_isFair_256 : decode cL_isFair 256 = .ok (.iload 4, 2) := by decide +kernel
theorem dL_isFair_258 : decode cL_isFair 258 = .ok (.iconst 3, 1) := by decide +kernel
def k193_6 (scr : Nat × (Nat → Int32)) : List (Nat × XI) := [(221, x_inv 90 7 2 224), (224, x_iadd 225), (225, x_ifne 240 228), (228, x_aload 0 229), (229, x_iload 4 231), (231, x_push (7) 233), (233, x_inv 90 7 2 236), (236, x_push (1) 237), (237, x_iceq 242 240), (240, x_push (0) 241), (241, x_zret), (242, x_iload 5 244), (244, x_ifeq 267 247), (247, x_aload 0 248), (248, x_iload 4 250), (250, x_push (12) 252), (252, x_inv 90 7 2 255), (255, x_aload 0 256), (256, x_iload 4 258), (258, x_push (3) 259)]
theorem o193_6 (scr : Nat × (Nat → Int32)) : ∀ q ∈ k193_6 scr, XSnd xm scr Y193 q.1 q.2 := xcons (s_inv (mid := 90) xC7 cal_90 xw_2012 xw_719 xw_720 dL_isFair_221) (xcons (s_iadd dL_isFair_224) (xcons (s_ifne dL_isFair_225 rfl) (xcons (s_aload_n rfl dL_isFair_228) (xcons (s_iload dL_isFair_229) (xcons (s_bipush dL_isFair_231 rfl) (xcons (s_inv (mid := 90) xC7 cal_90 xw_2012 xw_719 xw_720 dL_isFair_233) (xcons (s_iconst dL_isFair_236 rfl) (xcons (s_iceq dL_isFair_237 rfl) (xcons (s_iconst dL_isFair_240 rfl) (xcons (s_zret dL_isFair_241 rfl) (xcons (s_iload dL_isFair_242) (xcons (s_ifeq dL_isFair_244 rfl) (xcons (s_aload_n rfl dL_isFair_247) (xcons (s_iload dL_isFair_248) (xcons (s_bipush dL_isFair_250 rfl) (xcons (s_inv (mid := 90) xC7 cal_90 xw_2012 xw_719 xw_720 dL_isFair_252) (xcons (s_aload_n rfl dL_isFair_255) (xcons (s_iload dL_isFair_256) (xcons (s_iconst dL_isFair_258 rfl) (xnil))))))))))))))))))))
theorem dL_isFair_259 : decode cL_isFair 259 = .ok (.invokevirtual 46, 3) := by decide +kernel
theorem dL_isFair_262 : decode cL_isFair 262 = .ok (.if_icmp .le 5, 3) := by decide +kernel
theorem dL_isFair_265 : decode cL_isFair 265 = .ok (.iconst 0, 1) := by decide +kernel
theorem dL_isFair_266 : decode cL_isFair 266 = .ok (.ireturn, 1) := by decide +kernel
theorem dL_isFair_267 : decode cL_isFair 267 = .ok (.iconst 0, 1) := by decide +kernel
theorem dL_isFair_268 : decode cL_isFair 268 = .ok (.istore 7, 2) := by decide +kernel
theorem dL_isFair_270 : decode cL_isFair 270 = .ok (.iload 7, 2) := by decide +kernel
theorem dL_isFair_272 : decode cL_isFair 272 = .ok (.aload_n 0, 1) := by decide +kernel
theorem dL_isFair_273 : decode cL_isFair 273 = .ok (.iload 4, 2) := by decide +kernel
theorem dL_isFair_275 : decode cL_isFair 275 = .ok (.bipush 10, 2) := by decide +kernel
theorem dL_isFair_277 : decode cL_isFair 277 = .ok (.invokevirtual 46, 3) := by decide +kernel
theorem dL_isFair_280 : decode cL_isFair 280 = .ok (.if_icmp .ge 28, 3) := by decide +kernel
theorem dL_isFair_283 : decode cL_isFair 283 = .ok (.aload_n 0, 1) := by decide +kernel
theorem dL_isFair_284 : decode cL_isFair 284 = .ok (.aload_n 0, 1) := by decide +kernel
theorem dL_isFair_285 : decode cL_isFair 285 = .ok (.iload 4, 2) := by decide +kernel
theorem dL_isFair_287 : decode cL_isFair 287 = .ok (.iload 7, 2) := by decide +kernel
theorem dL_isFair_289 : decode cL_isFair 289 = .ok (.invokevirtual 50, 3) := by decide +kernel
theorem dL_isFair_292 : decode cL_isFair 292 = .ok (.iconst 5, 1) := by decide +kernel
theorem dL_isFair_293 : decode cL_isFair 293 = .ok (.invokevirtual 46, 3) := by decide +kernel
theorem dL_isFair_296 : decode cL_isFair 296 = .ok (.iconst 1, 1) := by decide +kernel
def k193_7 (scr : Nat × (Nat → Int32)) : List (Nat × XI) := [(259, x_inv 90 7 2 262), (262, x_icle 267 265), (265, x_push (0) 266), (266, x_zret), (267, x_push (0) 268), (268, x_istore 7 270), (270, x_iload 7 272), (272, x_aload 0 273), (273, x_iload 4 275), (275, x_push (10) 277), (277, x_inv 90 7 2 280), (280, x_icge 308 283), (283, x_aload 0 284), (284, x_aload 0 285), (285, x_iload 4 287), (287, x_iload 7 289), (289, x_inv 105 7 2 292), (292, x_push (5) 293), (293, x_inv 90 7 2 296), (296, x_push (1) 297)]
theorem o193_7 (scr : Nat × (Nat → Int32)) : ∀ q ∈ k193_7 scr, XSnd xm scr Y193 q.1 q.2 := xcons (s_inv (mid := 90) xC7 cal_90 xw_2012 xw_719 xw_720 dL_isFair_259) (xcons (s_icle dL_isFair_262 rfl) (xcons (s_iconst dL_isFair_265 rfl) (xcons (s_zret dL_isFair_266 rfl) (xcons (s_iconst dL_isFair_267 rfl) (xcons (s_istore dL_isFair_268 (by decide)) (xcons (s_iload dL_isFair_270) (xcons (s_aload_n rfl dL_isFair_272) (xcons (s_iload dL_isFair_273) (xcons (s_bipush dL_isFair_275 rfl) (xcons (s_inv (mid := 90) xC7 cal_90 xw_2012 xw_719 xw_720 dL_isFair_277) (xcons (s_icge dL_isFair_280 rfl) (xcons (s_aload_n rfl dL_isFair_283) (xcons (s_aload_n rfl dL_isFair_284) (xcons (s_iload dL_isFair_285) (xcons (s_iload dL_isFair_287) (xcons (s_inv (mid := 105) xC7 cal_105 xw_2013 xw_759 xw_760 dL_isFair_289) (xcons (s_iconst dL_isFair_292 rfl) (xcons (s_inv (mid := 90) xC7 cal_90 xw_2012 xw_719 xw_720 dL_isFair_293) (xcons (s_iconst dL_isFair_296 rfl) (xnil))))))))))))))))))))
theorem dL_isFair_297 : decode cL_isFair 297 = .ok (.if_icmp .eq 5, 3) := by decide +kernel
theorem dL_isFair_300 : decode cL_isFair 300 = .ok (.iconst 0, 1) := by decide +kernel
theorem dL_isFair_301 : decode cL_isFair 301 = .ok (.ireturn, 1) := by decide +kernel
theorem dL_isFair_302 : decode cL_isFair 302 = .ok (.iinc 7 1, 3) := by decide +kernel
theorem dL_isFair_305 : decode cL_isFair 305 = .ok (.goto (-35), 3) := by decide +kernel
theorem dL_isFair_308 : decode cL_isFair 308 = .ok (.iinc 4 1, 3) := by decide +kernel
theorem dL_isFair_311 : decode cL_isFair 311 = .ok (.goto (-302), 3) := by decide +kernel
theorem dL_isFair_314 : decode cL_isFair 314 = .ok (.iconst 0, 1) := by decide +kernel
theorem dL_isFair_315 : decode cL_isFair 315 = .ok (.istore 4, 2) := by decide +kernel
theorem dL_isFair_317 : decode cL_isFair 317 = .ok (.iload 4, 2) := by decide +kernel
theorem dL_isFair_319 : decode cL_isFair 319 = .ok (.iload_n 3, 1) := by decide +kernel
theorem dL_isFair_320 : decode cL_isFair 320 = .ok (.if_icmp .ge 51, 3) := by decide +kernel
theorem dL_isFair_323 : decode cL_isFair 323 = .ok (.aload_n 0, 1) := by decide +kernel
theorem dL_isFair_324 : decode cL_isFair 324 = .ok (.iload 4, 2) := by decide +kernel
theorem dL_isFair_326 : decode cL_isFair 326 = .ok (.iconst 1, 1) := by decide +kernel
theorem dL_isFair_327 : decode cL_isFair 327 = .ok (.invokevirtual 53, 3) := by decide +kernel
theorem dL_isFair_330 : decode cL_isFair 330 = .ok (.aload_n 0, 1) := by decide +kernel
theorem dL_isFair_331 : decode cL_isFair 331 = .ok (.bipush 6, 2) := by decide +kernel
theorem dL_isFair_333 : decode cL_isFair 333 = .ok (.invokevirtual 14, 3) := by decide +kernel
theorem dL_isFair_336 : decode cL_isFair 336 = .ok (.if_icmp .lt 27, 3) := by decide +kernel
def k193_8 (scr : Nat × (Nat → Int32)) : List (Nat × XI) := [(297, x_iceq 302 300), (300, x_push (0) 301), (301, x_zret), (302, x_iinc 7 (1) 305), (305, x_goto 270), (308, x_iinc 4 (1) 311), (311, x_goto 9), (314, x_push (0) 315), (315, x_istore 4 317), (317, x_iload 4 319), (319, x_iload 3 320), (320, x_icge 371 323), (323, x_aload 0 324), (324, x_iload 4 326), (326, x_push (1) 327), (327, x_inv 104 7 2 330), (330, x_aload 0 331), (331, x_push (6) 333), (333, x_inv 72 7 1 336), (336, x_iclt 363 339)]
theorem o193_8 (scr : Nat × (Nat → Int32)) : ∀ q ∈ k193_8 scr, XSnd xm scr Y193 q.1 q.2 := xcons (s_iceq dL_isFair_297 rfl) (xcons (s_iconst dL_isFair_300 rfl) (xcons (s_zret dL_isFair_301 rfl) (xcons (s_iinc dL_isFair_302 rfl (by decide)) (xcons (s_goto dL_isFair_305 rfl) (xcons (s_iinc dL_isFair_308 rfl (by decide)) (xcons (s_goto dL_isFair_311 rfl) (xcons (s_iconst dL_isFair_314 rfl) (xcons (s_istore dL_isFair_315 (by decide)) (xcons (s_iload dL_isFair_317) (xcons (s_iload_n rfl dL_isFair_319) (xcons (s_icge dL_isFair_320 rfl) (xcons (s_aload_n rfl dL_isFair_323) (xcons (s_iload dL_isFair_324) (xcons (s_iconst dL_isFair_326 rfl) (xcons (s_inv (mid := 104) xC7 cal_104 xw_2014 xw_767 xw_768 dL_isFair_327) (xcons (s_aload_n rfl dL_isFair_330) (xcons (s_bipush dL_isFair_331 rfl) (xcons (s_inv (mid := 72) xC7 cal_72 xw_2003 xw_948 xw_949 dL_isFair_333) (xcons (s_iclt dL_isFair_336 rfl) (xnil))))))))))))))))))))
theorem dL_isFair_339 : decode cL_isFair 339 = .ok (.iload 4, 2) := by decide +kernel
theorem dL_isFair_341 : decode cL_isFair 341 = .ok (.ifCond .le 24, 3) := by decide +kernel
theorem dL_isFair_344 : decode cL_isFair 344 = .ok (.aload_n 0, 1) := by decide +kernel
theorem dL_isFair_345 : decode cL_isFair 345 = .ok (.iload 4, 2) := by decide +kernel
theorem dL_isFair_347 : decode cL_isFair 347 = .ok (.iconst 1, 1) := by decide +kernel
theorem dL_isFair_348 : decode cL_isFair 348 = .ok (.invokevirtual 53, 3) := by decide +kernel
theorem dL_isFair_351 : decode cL_isFair 351 = .ok (.aload_n 0, 1) := by decide +kernel
theorem dL_isFair_352 : decode cL_isFair 352 = .ok (.iload 4, 2) := by decide +kernel
theorem dL_isFair_354 : decode cL_isFair 354 = .ok (.iconst 1, 1) := by decide +kernel
theorem dL_isFair_355 : decode cL_isFair 355 = .ok (.isub, 1) := by decide +kernel
theorem dL_isFair_356 : decode cL_isFair 356 = .ok (.iconst 1, 1) := by decide +kernel
theorem dL_isFair_357 : decode cL_isFair 357 = .ok (.invokevirtual 53, 3) := by decide +kernel
theorem dL_isFair_360 : decode cL_isFair 360 = .ok (.if_icmp .ge 5, 3) := by decide +kernel
theorem dL_isFair_363 : decode cL_isFair 363 = .ok (.iconst 0, 1) := by decide +kernel
theorem dL_isFair_364 : decode cL_isFair 364 = .ok (.ireturn, 1) := by decide +kernel
theorem dL_isFair_365 : decode cL_isFair 365 = .ok (.iinc 4 1, 3) := by decide +kernel
theorem dL_isFair_368 : decode cL_isFair 368 = .ok (.goto (-51), 3) := by decide +kernel
theorem dL_isFair_371 : decode cL_isFair 371 = .ok (.iload_n 1, 1) := by decide +kernel
theorem dL_isFair_372 : decode cL_isFair 372 = .ok (.aload_n 0, 1) := by decide +kernel
theorem dL_isFair_373 : decode cL_isFair 373 = .ok (.iconst 1, 1) := by decide +kernel
def k193_9 (scr : Nat × (Nat → Int32)) : List (Nat × XI) := [(339, x_iload 4 341), (341, x_ifle 365 344), (344, x_aload 0 345), (345, x_iload 4 347), (347, x_push (1) 348), (348, x_inv 104 7 2 351), (351, x_aload 0 352), (352, x_iload 4 354), (354, x_push (1) 355), (355, x_isub 356), (356, x_push (1) 357), (357, x_inv 104 7 2 360), (360, x_icge 365 363), (363, x_push (0) 364), (364, x_zret), (365, x_iinc 4 (1) 368), (368, x_goto 317), (371, x_iload 1 372), (372, x_aload 0 373), (373, x_push (1) 374)]
theorem o193_9 (scr : Nat × (Nat → Int32)) : ∀ q ∈ k193_9 scr, XSnd xm scr Y193 q.1 q.2 := xcons (s_iload dL_isFair_339) (xcons (s_ifle dL_isFair_341 rfl) (xcons (s_aload_n rfl dL_isFair_344) (xcons (s_iload dL_isFair_345) (xcons (s_iconst dL_isFair_347 rfl) (xcons (s_inv (mid := 104) xC7 cal_104 xw_2014 xw_767 xw_768 dL_isFair_348) (xcons (s_aload_n rfl dL_isFair_351) (xcons (s_iload dL_isFair_352) (xcons (s_iconst dL_isFair_354 rfl) (xcons (s_isub dL_isFair_355) (xcons (s_iconst dL_isFair_356 rfl) (xcons (s_inv (mid := 104) xC7 cal_104 xw_2014 xw_767 xw_768 dL_isFair_357) (xcons (s_icge dL_isFair_360 rfl) (xcons (s_iconst dL_isFair_363 rfl) (xcons (s_zret dL_isFair_364 rfl) (xcons (s_iinc dL_isFair_365 rfl (by decide)) (xcons (s_goto dL_isFair_368 rfl) (xcons (s_iload_n rfl dL_isFair_371) (xcons (s_aload_n rfl dL_isFair_372) (xcons (s_iconst dL_isFair_373 rfl) (xnil))))))))))))))))))))
theorem dL_isFair_374 : decode cL_isFair 374 = .ok (.invokevirtual 14, 3) := by decide +kernel
theorem dL_isFair_377 : decode cL_isFair 377 = .ok (.if_icmp .ne 68, 3) := by decide +kernel
theorem dL_isFair_380 : decode cL_isFair 380 = .ok (.iload_n 2, 1) := by decide +kernel
theorem dL_isFair_381 : decode cL_isFair 381 = .ok (.aload_n 0, 1) := by decide +kernel
theorem dL_isFair_382 : decode cL_isFair 382 = .ok (.iconst 2, 1) := by decide +kernel
theorem dL_isFair_383 : decode cL_isFair 383 = .ok (.invokevirtual 14, 3) := by decide +kernel
theorem dL_isFair_386 : decode cL_isFair 386 = .ok (.if_icmp .ne 59, 3) := by decide +kernel
theorem dL_isFair_389 : decode cL_isFair 389 = .ok (.iload_n 3, 1) := by decide +kernel
theorem dL_isFair_390 : decode cL_isFair 390 = .ok (.aload_n 0, 1) := by decide +kernel
theorem dL_isFair_391 : decode cL_isFair 391 = .ok (.iconst 3, 1) := by decide +kernel
theorem dL_isFair_392 : decode cL_isFair 392 = .ok (.invokevirtual 14, 3) := by decide +kernel
theorem dL_isFair_395 : decode cL_isFair 395 = .ok (.if_icmp .ne 50, 3) := by decide +kernel
theorem dL_isFair_398 : decode cL_isFair 398 = .ok (.iload_n 3, 1) := by decide +kernel
theorem dL_isFair_399 : decode cL_isFair 399 = .ok (.bipush 10, 2) := by decide +kernel
theorem dL_isFair_401 : decode cL_isFair 401 = .ok (.if_icmp .gt 44, 3) := by decide +kernel
theorem dL_isFair_404 : decode cL_isFair 404 = .ok (.aload_n 0, 1) := by decide +kernel
theorem dL_isFair_405 : decode cL_isFair 405 = .ok (.bipush 8, 2) := by decide +kernel
theorem dL_isFair_407 : decode cL_isFair 407 = .ok (.invokevirtual 14, 3) := by decide +kernel
theorem dL_isFair_410 : decode cL_isFair 410 = .ok (.bipush 30, 2) := by decide +kernel
theorem dL_isFair_412 : decode cL_isFair 412 = .ok (.if_icmp .gt 33, 3) := by decide +kernel
def k193_10 (scr : Nat × (Nat → Int32)) : List (Nat × XI) := [(374, x_inv 72 7 1 377), (377, x_icne 445 380), (380, x_iload 2 381), (381, x_aload 0 382), (382, x_push (2) 383), (383, x_inv 72 7 1 386), (386, x_icne 445 389), (389, x_iload 3 390), (390, x_aload 0 391), (391, x_push (3) 392), (392, x_inv 72 7 1 395), (395, x_icne 445 398), (398, x_iload 3 399), (399, x_push (10) 401), (401, x_icgt 445 404), (404, x_aload 0 405), (405, x_push (8) 407), (407, x_inv 72 7 1 410), (410, x_push (30) 412), (412, x_icgt 445 415)]
theorem o193_10 (scr : Nat × (Nat → Int32)) : ∀ q ∈ k193_10 scr, XSnd xm scr Y193 q.1 q.2 := xcons (s_inv (mid := 72) xC7 cal_72 xw_2003 xw_948 xw_949 dL_isFair_374) (xcons (s_icne dL_isFair_377 rfl) (xcons (s_iload_n rfl dL_isFair_380) (xcons (s_aload_n rfl dL_isFair_381) (xcons (s_iconst dL_isFair_382 rfl) (xcons (s_inv (mid := 72) xC7 cal_72 xw_2003 xw_948 xw_949 dL_isFair_383) (xcons (s_icne dL_isFair_386 rfl) (xcons (s_iload_n rfl dL_isFair_389) (xcons (s_aload_n rfl dL_isFair_390) (xcons (s_iconst dL_isFair_391 rfl) (xcons (s_inv (mid := 72) xC7 cal_72 xw_2003 xw_948 xw_949 dL_isFair_392) (xcons (s_icne dL_isFair_395 rfl) (xcons (s_iload_n rfl dL_isFair_398) (xcons (s_bipush dL_isFair_399 rfl) (xcons (s_icgt dL_isFair_401 rfl) (xcons (s_aload_n rfl dL_isFair_404) (xcons (s_bipush dL_isFair_405 rfl) (xcons (s_inv (mid := 72) xC7 cal_72 xw_2003 xw_948 xw_949 dL_isFair_407) (xcons (s_bipush dL_isFair_410 rfl) (xcons (s_icgt dL_isFair_412 rfl) (xnil))))))))))))))))))))
theorem dL_isFair_415 : decode cL_isFair 415 = .ok (.aload_n 0, 1) := by decide +kernel
theorem dL_isFair_416 : decode cL_isFair 416 = .ok (.iconst 0, 1) := by decide +kernel
theorem dL_isFair_417 : decode cL_isFair 417 = .ok (.invokevirtual 14, 3) := by decide +kernel
theorem dL_isFair_420 : decode cL_isFair 420 = .ok (.ifCond .eq 21, 3) := by decide +kernel
theorem dL_isFair_423 : decode cL_isFair 423 = .ok (.aload_n 0, 1) := by decide +kernel
theorem dL_isFair_424 : decode cL_isFair 424 = .ok (.iconst 1, 1) := by decide +kernel
theorem dL_isFair_425 : decode cL_isFair 425 = .ok (.invokevirtual 14, 3) := by decide +kernel
theorem dL_isFair_428 : decode cL_isFair 428 = .ok (.ifCond .eq 13, 3) := by decide +kernel
theorem dL_isFair_431 : decode cL_isFair 431 = .ok (.aload_n 0, 1) := by decide +kernel
theorem dL_isFair_432 : decode cL_isFair 432 = .ok (.iconst 0, 1) := by decide +kernel
theorem dL_isFair_433 : decode cL_isFair 433 = .ok (.iconst 5, 1) := by decide +kernel
theorem dL_isFair_434 : decode cL_isFair 434 = .ok (.invokevirtual 46, 3) := by decide +kernel
theorem dL_isFair_437 : decode cL_isFair 437 = .ok (.iconst 1, 1) := by decide +kernel
theorem dL_isFair_438 : decode cL_isFair 438 = .ok (.if_icmp .ne 7, 3) := by decide +kernel
theorem dL_isFair_441 : decode cL_isFair 441 = .ok (.iconst 1, 1) := by decide +kernel
theorem dL_isFair_442 : decode cL_isFair 442 = .ok (.goto 4, 3) := by decide +kernel
theorem dL_isFair_445 : decode cL_isFair 445 = .ok (.iconst 0, 1) := by decide +kernel
theorem dL_isFair_446 : decode cL_isFair 446 = .ok (.ireturn, 1) := by decide +kernel
def k193_11 (scr : Nat × (Nat → Int32)) : List (Nat × XI) := [(415, x_aload 0 416), (416, x_push (0) 417), (417, x_inv 72 7 1 420), (420, x_ifeq 441 423), (423, x_aload 0 424), (424, x_push (1) 425), (425, x_inv 72 7 1 428), (428, x_ifeq 441 431), (431, x_aload 0 432), (432, x_push (0) 433), (433, x_push (5) 434), (434, x_inv 90 7 2 437), (437, x_push (1) 438), (438, x_icne 445 441), (441, x_push (1) 442), (442, x_goto 446), (445, x_push (0) 446), (446, x_zret)]
theorem o193_11 (scr : Nat × (Nat → Int32)) : ∀ q ∈ k193_11 scr, XSnd xm scr Y193 q.1 q.2 := xcons (s_aload_n rfl dL_isFair_415) (xcons (s_iconst dL_isFair_416 rfl) (xcons (s_inv (mid := 72) xC7 cal_72 xw_2003 xw_948 xw_949 dL_isFair_417) (xcons (s_ifeq dL_isFair_420 rfl) (xcons (s_aload_n rfl dL_isFair_423) (xcons (s_iconst dL_isFair_424 rfl) (xcons (s_inv (mid := 72) xC7 cal_72 xw_2003 xw_948 xw_949 dL_isFair_425) (xcons (s_ifeq dL_isFair_428 rfl) (xcons (s_aload_n rfl dL_isFair_431) (xcons (s_iconst dL_isFair_432 rfl) (xcons (s_iconst dL_isFair_433 rfl) (xcons (s_inv (mid := 90) xC7 cal_90 xw_2012 xw_719 xw_720 dL_isFair_434) (xcons (s_iconst dL_isFair_437 rfl) (xcons (s_icne dL_isFair_438 rfl) (xcons (s_iconst dL_isFair_441 rfl) (xcons (s_goto dL_isFair_442 rfl) (xcons (s_iconst dL_isFair_445 rfl) (xcons (s_zret dL_isFair_446 rfl) (xnil))))))))))))))))))
def k193 (scr : Nat × (Nat → Int32)) (pc : Nat) : XI := if pc < 221 then if pc < 102 then if pc < 31 then xlk (k193_0 scr) pc else if pc < 63 then xlk (k193_1 scr) pc else xlk (k193_2 scr) pc else if pc < 144 then xlk (k193_3 scr) pc else if pc < 184 then xlk (k193_4 scr) pc else xlk (k193_5 scr) pc else if pc < 339 then if pc < 259 then xlk (k193_6 scr) pc else if pc < 297 then xlk (k193_7 scr) pc else xlk (k193_8 scr) pc else if pc < 374 then xlk (k193_9 scr) pc else if pc < 415 then xlk (k193_10 scr) pc else xlk (k193_11 scr) pc
theorem o193 (scr : Nat × (Nat → Int32)) (pc : Nat) : XSnd xm scr Y193 pc (k193 scr pc) := by
  unfold k193
  exact xite (xite (xite (xlk_ok (o193_0 scr) pc) (xite (xlk_ok (o193_1 scr) pc) (xlk_ok (o193_2 scr) pc))) (xite (xlk_ok (o193_3 scr) pc) (xite (xlk_ok (o193_4 scr) pc) (xlk_ok (o193_5 scr) pc)))) (xite (xite (xlk_ok (o193_6 scr) pc) (xite (xlk_ok (o193_7 scr) pc) (xlk_ok (o193_8 scr) pc))) (xite (xlk_ok (o193_9 scr) pc) (xite (xlk_ok (o193_10 scr) pc) (xlk_ok (o193_11 scr) pc))))
theorem dL_law_0 : decode cL_law 0 = .ok (.new 15, 3) := by decide +kernel
theorem dL_law_3 : decode cL_law 3 = .ok (.dup, 1) := by decide +kernel
theorem dL_law_4 : decode cL_law 4 = .ok (.invokespecial 56, 3) := by decide +kernel
theorem dL_law_7 : decode cL_law 7 = .ok (.astore_n 1, 1) := by decide +kernel
theorem dL_law_8 : decode cL_law 8 = .ok (.aload_n 0, 1) := by decide +kernel
theorem dL_law_9 : decode cL_law 9 = .ok (.arraylength, 1) := by decide +kernel
theorem dL_law_10 : decode cL_law 10 = .ok (.bipush 60, 2) := by decide +kernel
theorem dL_law_12 : decode cL_law 12 = .ok (.if_icmp .ge 8, 3) := by decide +kernel
theorem dL_law_15 : decode cL_law 15 = .ok (.aload_n 0, 1) := by decide +kernel
theorem dL_law_16 : decode cL_law 16 = .ok (.arraylength, 1) := by decide +kernel
theorem dL_law_17 : decode cL_law 17 = .ok (.goto 5, 3) := by decide +kernel
theorem dL_law_20 : decode cL_law 20 = .ok (.bipush 60, 2) := by decide +kernel
theorem dL_law_22 : decode cL_law 22 = .ok (.istore_n 2, 1) := by decide +kernel
theorem dL_law_23 : decode cL_law 23 = .ok (.iconst 0, 1) := by decide +kernel
theorem dL_law_24 : decode cL_law 24 = .ok (.istore_n 3, 1) := by decide +kernel
theorem dL_law_25 : decode cL_law 25 = .ok (.iload_n 3, 1) := by decide +kernel
theorem dL_law_26 : decode cL_law 26 = .ok (.iload_n 2, 1) := by decide +kernel
theorem dL_law_27 : decode cL_law 27 = .ok (.if_icmp .ge 24, 3) := by decide +kernel
theorem dL_law_30 : decode cL_law 30 = .ok (.aload_n 1, 1) := by decide +kernel
theorem dL_law_31 : decode cL_law 31 = .ok (.aload_n 0, 1) := by decide +kernel
def k190_0 (scr : Nat × (Nat → Int32)) : List (Nat × XI) := [(0, x_new 7 3), (3, x_dup 4), (4, x_inv 83 7 0 7), (7, x_astore 1 8), (8, x_aload 0 9), (9, x_slen scr 10), (10, x_push (60) 12), (12, x_icge 20 15), (15, x_aload 0 16), (16, x_slen scr 17), (17, x_goto 22), (20, x_push (60) 22), (22, x_istore 2 23), (23, x_push (0) 24), (24, x_istore 3 25), (25, x_iload 3 26), (26, x_iload 2 27), (27, x_icge 51 30), (30, x_aload 1 31), (31, x_aload 0 32)]
theorem o190_0 (scr : Nat × (Nat → Int32)) : ∀ q ∈ k190_0 scr, XSnd xm scr Y190 q.1 q.2 := xcons (s_new xC7 xw_2015 xw_695 xw_377 (by decide +kernel) dL_law_0) (xcons (s_dup dL_law_3) (xcons (s_init (mid := 83) xC7 cal_83 rfl rfl xw_2016 xw_698 dL_law_4) (xcons (s_astore_n rfl dL_law_7 (by decide)) (xcons (s_aload_n rfl dL_law_8) (xcons (s_slen dL_law_9) (xcons (s_bipush dL_law_10 rfl) (xcons (s_icge dL_law_12 rfl) (xcons (s_aload_n rfl dL_law_15) (xcons (s_slen dL_law_16) (xcons (s_goto dL_law_17 rfl) (xcons (s_bipush dL_law_20 rfl) (xcons (s_istore_n rfl dL_law_22 (by decide)) (xcons (s_iconst dL_law_23 rfl) (xcons (s_istore_n rfl dL_law_24 (by decide)) (xcons (s_iload_n rfl dL_law_25) (xcons (s_iload_n rfl dL_law_26) (xcons (s_icge dL_law_27 rfl) (xcons (s_aload_n rfl dL_law_30) (xcons (s_aload_n rfl dL_law_31) (xnil))))))))))))))))))))
theorem dL_law_32 : decode cL_law 32 = .ok (.iload_n 3, 1) := by decide +kernel
theorem dL_law_33 : decode cL_law 33 = .ok (.invokestatic 57, 3) := by decide +kernel
theorem dL_law_36 : decode cL_law 36 = .ok (.aload_n 1, 1) := by decide +kernel
theorem dL_law_37 : decode cL_law 37 = .ok (.invokestatic 61, 3) := by decide +kernel
theorem dL_law_40 : decode cL_law 40 = .ok (.ifCond .ne 5, 3) := by decide +kernel
theorem dL_law_43 : decode cL_law 43 = .ok (.iconst 0, 1) := by decide +kernel
theorem dL_law_44 : decode cL_law 44 = .ok (.ireturn, 1) := by decide +kernel
theorem dL_law_45 : decode cL_law 45 = .ok (.iinc 3 1, 3) := by decide +kernel
theorem dL_law_48 : decode cL_law 48 = .ok (.goto (-23), 3) := by decide +kernel
theorem dL_law_51 : decode cL_law 51 = .ok (.aload_n 1, 1) := by decide +kernel
theorem dL_law_52 : decode cL_law 52 = .ok (.iconst 0, 1) := by decide +kernel
theorem dL_law_53 : decode cL_law 53 = .ok (.invokevirtual 14, 3) := by decide +kernel
theorem dL_law_56 : decode cL_law 56 = .ok (.istore_n 3, 1) := by decide +kernel
theorem dL_law_57 : decode cL_law 57 = .ok (.aload_n 1, 1) := by decide +kernel
theorem dL_law_58 : decode cL_law 58 = .ok (.iconst 5, 1) := by decide +kernel
theorem dL_law_59 : decode cL_law 59 = .ok (.invokevirtual 14, 3) := by decide +kernel
theorem dL_law_62 : decode cL_law 62 = .ok (.istore 4, 2) := by decide +kernel
theorem dL_law_64 : decode cL_law 64 = .ok (.aload_n 1, 1) := by decide +kernel
theorem dL_law_65 : decode cL_law 65 = .ok (.bipush 50, 2) := by decide +kernel
theorem dL_law_67 : decode cL_law 67 = .ok (.iconst 0, 1) := by decide +kernel
def k190_1 (scr : Nat × (Nat → Int32)) : List (Nat × XI) := [(32, x_iload 3 33), (33, x_invS 192 3 36), (36, x_aload 1 37), (37, x_invS 193 1 40), (40, x_ifne 45 43), (43, x_push (0) 44), (44, x_zret), (45, x_iinc 3 (1) 48), (48, x_goto 25), (51, x_aload 1 52), (52, x_push (0) 53), (53, x_inv 72 7 1 56), (56, x_istore 3 57), (57, x_aload 1 58), (58, x_push (5) 59), (59, x_inv 72 7 1 62), (62, x_istore 4 64), (64, x_aload 1 65), (65, x_push (50) 67), (67, x_push (0) 68)]
theorem o190_1 (scr : Nat × (Nat → Int32)) : ∀ q ∈ k190_1 scr, XSnd xm scr Y190 q.1 q.2 := xcons (s_iload_n rfl dL_law_32) (xcons (s_invS (mid := 192) cal_192 xw_2017 xw_2018 dL_law_33) (xcons (s_aload_n rfl dL_law_36) (xcons (s_invS (mid := 193) cal_193 xw_2019 xw_2020 dL_law_37) (xcons (s_ifne dL_law_40 rfl) (xcons (s_iconst dL_law_43 rfl) (xcons (s_zret dL_law_44 rfl) (xcons (s_iinc dL_law_45 rfl (by decide)) (xcons (s_goto dL_law_48 rfl) (xcons (s_aload_n rfl dL_law_51) (xcons (s_iconst dL_law_52 rfl) (xcons (s_inv (mid := 72) xC7 cal_72 xw_2003 xw_948 xw_949 dL_law_53) (xcons (s_istore_n rfl dL_law_56 (by decide)) (xcons (s_aload_n rfl dL_law_57) (xcons (s_iconst dL_law_58 rfl) (xcons (s_inv (mid := 72) xC7 cal_72 xw_2003 xw_948 xw_949 dL_law_59) (xcons (s_istore dL_law_62 (by decide)) (xcons (s_aload_n rfl dL_law_64) (xcons (s_bipush dL_law_65 rfl) (xcons (s_iconst dL_law_67 rfl) (xnil))))))))))))))))))))
theorem dL_law_68 : decode cL_law 68 = .ok (.invokevirtual 65, 3) := by decide +kernel
theorem dL_law_71 : decode cL_law 71 = .ok (.istore 5, 2) := by decide +kernel
theorem dL_law_73 : decode cL_law 73 = .ok (.aload_n 1, 1) := by decide +kernel
theorem dL_law_74 : decode cL_law 74 = .ok (.bipush 50, 2) := by decide +kernel
theorem dL_law_76 : decode cL_law 76 = .ok (.iconst 1, 1) := by decide +kernel
theorem dL_law_77 : decode cL_law 77 = .ok (.invokevirtual 65, 3) := by decide +kernel
theorem dL_law_80 : decode cL_law 80 = .ok (.istore 6, 2) := by decide +kernel
theorem dL_law_82 : decode cL_law 82 = .ok (.aload_n 1, 1) := by decide +kernel
theorem dL_law_83 : decode cL_law 83 = .ok (.bipush 50, 2) := by decide +kernel
theorem dL_law_85 : decode cL_law 85 = .ok (.iconst 2, 1) := by decide +kernel
theorem dL_law_86 : decode cL_law 86 = .ok (.invokevirtual 65, 3) := by decide +kernel
theorem dL_law_89 : decode cL_law 89 = .ok (.istore 7, 2) := by decide +kernel
theorem dL_law_91 : decode cL_law 91 = .ok (.aload_n 1, 1) := by decide +kernel
theorem dL_law_92 : decode cL_law 92 = .ok (.bipush 50, 2) := by decide +kernel
theorem dL_law_94 : decode cL_law 94 = .ok (.iconst 3, 1) := by decide +kernel
theorem dL_law_95 : decode cL_law 95 = .ok (.invokevirtual 65, 3) := by decide +kernel
theorem dL_law_98 : decode cL_law 98 = .ok (.istore 8, 2) := by decide +kernel
theorem dL_law_100 : decode cL_law 100 = .ok (.aload_n 1, 1) := by decide +kernel
theorem dL_law_101 : decode cL_law 101 = .ok (.invokevirtual 68, 3) := by decide +kernel
theorem dL_law_104 : decode cL_law 104 = .ok (.istore 9, 2) := by decide +kernel
def k190_2 (scr : Nat × (Nat → Int32)) : List (Nat × XI) := [(68, x_inv 76 7 2 71), (71, x_istore 5 73), (73, x_aload 1 74), (74, x_push (50) 76), (76, x_push (1) 77), (77, x_inv 76 7 2 80), (80, x_istore 6 82), (82, x_aload 1 83), (83, x_push (50) 85), (85, x_push (2) 86), (86, x_inv 76 7 2 89), (89, x_istore 7 91), (91, x_aload 1 92), (92, x_push (50) 94), (94, x_push (3) 95), (95, x_inv 76 7 2 98), (98, x_istore 8 100), (100, x_aload 1 101), (101, x_inv 93 7 0 104), (104, x_istore 9 106)]
theorem o190_2 (scr : Nat × (Nat → Int32)) : ∀ q ∈ k190_2 scr, XSnd xm scr Y190 q.1 q.2 := xcons (s_inv (mid := 76) xC7 cal_76 xw_2021 xw_812 xw_813 dL_law_68) (xcons (s_istore dL_law_71 (by decide)) (xcons (s_aload_n rfl dL_law_73) (xcons (s_bipush dL_law_74 rfl) (xcons (s_iconst dL_law_76 rfl) (xcons (s_inv (mid := 76) xC7 cal_76 xw_2021 xw_812 xw_813 dL_law_77) (xcons (s_istore dL_law_80 (by decide)) (xcons (s_aload_n rfl dL_law_82) (xcons (s_bipush dL_law_83 rfl) (xcons (s_iconst dL_law_85 rfl) (xcons (s_inv (mid := 76) xC7 cal_76 xw_2021 xw_812 xw_813 dL_law_86) (xcons (s_istore dL_law_89 (by decide)) (xcons (s_aload_n rfl dL_law_91) (xcons (s_bipush dL_law_92 rfl) (xcons (s_iconst dL_law_94 rfl) (xcons (s_inv (mid := 76) xC7 cal_76 xw_2021 xw_812 xw_813 dL_law_95) (xcons (s_istore dL_law_98 (by decide)) (xcons (s_aload_n rfl dL_law_100) (xcons (s_inv (mid := 93) xC7 cal_93 xw_2022 xw_828 xw_829 dL_law_101) (xcons (s_istore dL_law_104 (by decide)) (xnil))))))))))))))))))))
theorem dL_law_106 : decode cL_law 106 = .ok (.aload_n 1, 1) := by decide +kernel
theorem dL_law_107 : decode cL_law 107 = .ok (.iload_n 3, 1) := by decide +kernel
theorem dL_law_108 : decode cL_law 108 = .ok (.invokevirtual 71, 3) := by decide +kernel
theorem dL_law_111 : decode cL_law 111 = .ok (.ldc 74, 2) := by decide +kernel
theorem dL_law_113 : decode cL_law 113 = .ok (.if_icmp .ne 48, 3) := by decide +kernel
theorem dL_law_116 : decode cL_law 116 = .ok (.aload_n 1, 1) := by decide +kernel
theorem dL_law_117 : decode cL_law 117 = .ok (.invokevirtual 36, 3) := by decide +kernel
theorem dL_law_120 : decode cL_law 120 = .ok (.iload_n 3, 1) := by decide +kernel
theorem dL_law_121 : decode cL_law 121 = .ok (.if_icmp .ne 40, 3) := by decide +kernel
theorem dL_law_124 : decode cL_law 124 = .ok (.aload_n 1, 1) := by decide +kernel
theorem dL_law_125 : decode cL_law 125 = .ok (.bipush 50, 2) := by decide +kernel
theorem dL_law_127 : decode cL_law 127 = .ok (.invokevirtual 33, 3) := by decide +kernel
theorem dL_law_130 : decode cL_law 130 = .ok (.iload 5, 2) := by decide +kernel
theorem dL_law_132 : decode cL_law 132 = .ok (.if_icmp .ne 29, 3) := by decide +kernel
theorem dL_law_135 : decode cL_law 135 = .ok (.aload_n 1, 1) := by decide +kernel
theorem dL_law_136 : decode cL_law 136 = .ok (.invokevirtual 75, 3) := by decide +kernel
theorem dL_law_139 : decode cL_law 139 = .ok (.iload 6, 2) := by decide +kernel
theorem dL_law_141 : decode cL_law 141 = .ok (.if_icmp .ne 20, 3) := by decide +kernel
theorem dL_law_144 : decode cL_law 144 = .ok (.aload_n 1, 1) := by decide +kernel
theorem dL_law_145 : decode cL_law 145 = .ok (.iconst 4, 1) := by decide +kernel
def k190_3 (scr : Nat × (Nat → Int32)) : List (Nat × XI) := [(106, x_aload 1 107), (107, x_iload 3 108), (108, x_inv 73 7 1 111), (111, x_push (-2000000000) 113), (113, x_icne 161 116), (116, x_aload 1 117), (117, x_inv 82 7 0 120), (120, x_iload 3 121), (121, x_icne 161 124), (124, x_aload 1 125), (125, x_push (50) 127), (127, x_inv 96 7 1 130), (130, x_iload 5 132), (132, x_icne 161 135), (135, x_aload 1 136), (136, x_inv 77 7 0 139), (139, x_iload 6 141), (141, x_icne 161 144), (144, x_aload 1 145), (145, x_push (4) 146)]
theorem o190_3 (scr : Nat × (Nat → Int32)) : ∀ q ∈ k190_3 scr, XSnd xm scr Y190 q.1 q.2 := xcons (s_aload_n rfl dL_law_106) (xcons (s_iload_n rfl dL_law_107) (xcons (s_inv (mid := 73) xC7 cal_73 xw_2023 xw_727 xw_728 dL_law_108) (xcons (s_ldc dL_law_111 xw_2024) (xcons (s_icne dL_law_113 rfl) (xcons (s_aload_n rfl dL_law_116) (xcons (s_inv (mid := 82) xC7 cal_82 xw_2009 xw_900 xw_901 dL_law_117) (xcons (s_iload_n rfl dL_law_120) (xcons (s_icne dL_law_121 rfl) (xcons (s_aload_n rfl dL_law_124) (xcons (s_bipush dL_law_125 rfl) (xcons (s_inv (mid := 96) xC7 cal_96 xw_2008 xw_783 xw_784 dL_law_127) (xcons (s_iload dL_law_130) (xcons (s_icne dL_law_132 rfl) (xcons (s_aload_n rfl dL_law_135) (xcons (s_inv (mid := 77) xC7 cal_77 xw_2025 xw_788 xw_789 dL_law_136) (xcons (s_iload dL_law_139) (xcons (s_icne dL_law_141 rfl) (xcons (s_aload_n rfl dL_law_144) (xcons (s_iconst dL_law_145 rfl) (xnil))))))))))))))))))))
theorem dL_law_146 : decode cL_law 146 = .ok (.invokevirtual 14, 3) := by decide +kernel
theorem dL_law_149 : decode cL_law 149 = .ok (.iload 8, 2) := by decide +kernel
theorem dL_law_151 : decode cL_law 151 = .ok (.if_icmp .ne 10, 3) := by decide +kernel
theorem dL_law_154 : decode cL_law 154 = .ok (.aload_n 1, 1) := by decide +kernel
theorem dL_law_155 : decode cL_law 155 = .ok (.invokestatic 61, 3) := by decide +kernel
theorem dL_law_158 : decode cL_law 158 = .ok (.ifCond .ne 5, 3) := by decide +kernel
theorem dL_law_161 : decode cL_law 161 = .ok (.iconst 0, 1) := by decide +kernel
theorem dL_law_162 : decode cL_law 162 = .ok (.ireturn, 1) := by decide +kernel
theorem dL_law_163 : decode cL_law 163 = .ok (.iconst 0, 1) := by decide +kernel
theorem dL_law_164 : decode cL_law 164 = .ok (.istore 10, 2) := by decide +kernel
theorem dL_law_166 : decode cL_law 166 = .ok (.iload 10, 2) := by decide +kernel
theorem dL_law_168 : decode cL_law 168 = .ok (.iload_n 3, 1) := by decide +kernel
theorem dL_law_169 : decode cL_law 169 = .ok (.if_icmp .ge 28, 3) := by decide +kernel
theorem dL_law_172 : decode cL_law 172 = .ok (.iload 7, 2) := by decide +kernel
theorem dL_law_174 : decode cL_law 174 = .ok (.iload 10, 2) := by decide +kernel
theorem dL_law_176 : decode cL_law 176 = .ok (.ishr, 1) := by decide +kernel
theorem dL_law_177 : decode cL_law 177 = .ok (.iconst 1, 1) := by decide +kernel
theorem dL_law_178 : decode cL_law 178 = .ok (.iand, 1) := by decide +kernel
theorem dL_law_179 : decode cL_law 179 = .ok (.aload_n 1, 1) := by decide +kernel
theorem dL_law_180 : decode cL_law 180 = .ok (.iload 10, 2) := by decide +kernel
def k190_4 (scr : Nat × (Nat → Int32)) : List (Nat × XI) := [(146, x_inv 72 7 1 149), (149, x_iload 8 151), (151, x_icne 161 154), (154, x_aload 1 155), (155, x_invS 193 1 158), (158, x_ifne 163 161), (161, x_push (0) 162), (162, x_zret), (163, x_push (0) 164), (164, x_istore 10 166), (166, x_iload 10 168), (168, x_iload 3 169), (169, x_icge 197 172), (172, x_iload 7 174), (174, x_iload 10 176), (176, x_ishr 177), (177, x_push (1) 178), (178, x_iand 179), (179, x_aload 1 180), (180, x_iload 10 182)]
theorem o190_4 (scr : Nat × (Nat → Int32)) : ∀ q ∈ k190_4 scr, XSnd xm scr Y190 q.1 q.2 := xcons (s_inv (mid := 72) xC7 cal_72 xw_2003 xw_948 xw_949 dL_law_146) (xcons (s_iload dL_law_149) (xcons (s_icne dL_law_151 rfl) (xcons (s_aload_n rfl dL_law_154) (xcons (s_invS (mid := 193) cal_193 xw_2019 xw_2020 dL_law_155) (xcons (s_ifne dL_law_158 rfl) (xcons (s_iconst dL_law_161 rfl) (xcons (s_zret dL_law_162 rfl) (xcons (s_iconst dL_law_163 rfl) (xcons (s_istore dL_law_164 (by decide)) (xcons (s_iload dL_law_166) (xcons (s_iload_n rfl dL_law_168) (xcons (s_icge dL_law_169 rfl) (xcons (s_iload dL_law_172) (xcons (s_iload dL_law_174) (xcons (s_ishr dL_law_176) (xcons (s_iconst dL_law_177 rfl) (xcons (s_iand dL_law_178) (xcons (s_aload_n rfl dL_law_179) (xcons (s_iload dL_law_180) (xnil))))))))))))))))))))
theorem dL_law_182 : decode cL_law 182 = .ok (.iconst 5, 1) := by decide +kernel
theorem dL_law_183 : decode cL_law 183 = .ok (.invokevirtual 46, 3) := by decide +kernel
theorem dL_law_186 : decode cL_law 186 = .ok (.if_icmp .eq 5, 3) := by decide +kernel
theorem dL_law_189 : decode cL_law 189 = .ok (.iconst 0, 1) := by decide +kernel
theorem dL_law_190 : decode cL_law 190 = .ok (.ireturn, 1) := by decide +kernel
theorem dL_law_191 : decode cL_law 191 = .ok (.iinc 10 1, 3) := by decide +kernel
theorem dL_law_194 : decode cL_law 194 = .ok (.goto (-28), 3) := by decide +kernel
theorem dL_law_197 : decode cL_law 197 = .ok (.iload 6, 2) := by decide +kernel
theorem dL_law_199 : decode cL_law 199 = .ok (.iconst 1, 1) := by decide +kernel
theorem dL_law_200 : decode cL_law 200 = .ok (.if_icmp .ne 10, 3) := by decide +kernel
theorem dL_law_203 : decode cL_law 203 = .ok (.iload 9, 2) := by decide +kernel
theorem dL_law_205 : decode cL_law 205 = .ok (.iload 5, 2) := by decide +kernel
theorem dL_law_207 : decode cL_law 207 = .ok (.if_icmp .ne 20, 3) := by decide +kernel
theorem dL_law_210 : decode cL_law 210 = .ok (.iload 6, 2) := by decide +kernel
theorem dL_law_212 : decode cL_law 212 = .ok (.ifCond .ne 17, 3) := by decide +kernel
theorem dL_law_215 : decode cL_law 215 = .ok (.iload 9, 2) := by decide +kernel
theorem dL_law_217 : decode cL_law 217 = .ok (.ifCond .lt 12, 3) := by decide +kernel
theorem dL_law_220 : decode cL_law 220 = .ok (.iload 9, 2) := by decide +kernel
theorem dL_law_222 : decode cL_law 222 = .ok (.iload 5, 2) := by decide +kernel
theorem dL_law_224 : decode cL_law 224 = .ok (.if_icmp .gt 5, 3) := by decide +kernel
def k190_5 (scr : Nat × (Nat → Int32)) : List (Nat × XI) := [(182, x_push (5) 183), (183, x_inv 90 7 2 186), (186, x_iceq 191 189), (189, x_push (0) 190), (190, x_zret), (191, x_iinc 10 (1) 194), (194, x_goto 166), (197, x_iload 6 199), (199, x_push (1) 200), (200, x_icne 210 203), (203, x_iload 9 205), (205, x_iload 5 207), (207, x_icne 227 210), (210, x_iload 6 212), (212, x_ifne 229 215), (215, x_iload 9 217), (217, x_iflt 229 220), (220, x_iload 9 222), (222, x_iload 5 224), (224, x_icgt 229 227)]
theorem o190_5 (scr : Nat × (Nat → Int32)) : ∀ q ∈ k190_5 scr, XSnd xm scr Y190 q.1 q.2 := xcons (s_iconst dL_law_182 rfl) (xcons (s_inv (mid := 90) xC7 cal_90 xw_2012 xw_719 xw_720 dL_law_183) (xcons (s_iceq dL_law_186 rfl) (xcons (s_iconst dL_law_189 rfl) (xcons (s_zret dL_law_190 rfl) (xcons (s_iinc dL_law_191 rfl (by decide)) (xcons (s_goto dL_law_194 rfl) (xcons (s_iload dL_law_197) (xcons (s_iconst dL_law_199 rfl) (xcons (s_icne dL_law_200 rfl) (xcons (s_iload dL_law_203) (xcons (s_iload dL_law_205) (xcons (s_icne dL_law_207 rfl) (xcons (s_iload dL_law_210) (xcons (s_ifne dL_law_212 rfl) (xcons (s_iload dL_law_215) (xcons (s_iflt dL_law_217 rfl) (xcons (s_iload dL_law_220) (xcons (s_iload dL_law_222) (xcons (s_icgt dL_law_224 rfl) (xnil))))))))))))))))))))
theorem dL_law_227 : decode cL_law 227 = .ok (.iconst 0, 1) := by decide +kernel
theorem dL_law_228 : decode cL_law 228 = .ok (.ireturn, 1) := by decide +kernel
theorem dL_law_229 : decode cL_law 229 = .ok (.aload_n 1, 1) := by decide +kernel
theorem dL_law_230 : decode cL_law 230 = .ok (.invokevirtual 40, 3) := by decide +kernel
theorem dL_law_233 : decode cL_law 233 = .ok (.iload_n 3, 1) := by decide +kernel
theorem dL_law_234 : decode cL_law 234 = .ok (.if_icmp .ne 36, 3) := by decide +kernel
theorem dL_law_237 : decode cL_law 237 = .ok (.aload_n 1, 1) := by decide +kernel
theorem dL_law_238 : decode cL_law 238 = .ok (.iconst 5, 1) := by decide +kernel
theorem dL_law_239 : decode cL_law 239 = .ok (.invokevirtual 14, 3) := by decide +kernel
theorem dL_law_242 : decode cL_law 242 = .ok (.iload 4, 2) := by decide +kernel
theorem dL_law_244 : decode cL_law 244 = .ok (.if_icmp .ne 26, 3) := by decide +kernel
theorem dL_law_247 : decode cL_law 247 = .ok (.aload_n 1, 1) := by decide +kernel
theorem dL_law_248 : decode cL_law 248 = .ok (.bipush 50, 2) := by decide +kernel
theorem dL_law_250 : decode cL_law 250 = .ok (.iconst 0, 1) := by decide +kernel
theorem dL_law_251 : decode cL_law 251 = .ok (.invokevirtual 65, 3) := by decide +kernel
theorem dL_law_254 : decode cL_law 254 = .ok (.iload 5, 2) := by decide +kernel
theorem dL_law_256 : decode cL_law 256 = .ok (.if_icmp .ne 14, 3) := by decide +kernel
theorem dL_law_259 : decode cL_law 259 = .ok (.aload_n 1, 1) := by decide +kernel
theorem dL_law_260 : decode cL_law 260 = .ok (.invokestatic 61, 3) := by decide +kernel
theorem dL_law_263 : decode cL_law 263 = .ok (.ifCond .eq 7, 3) := by decide +kernel
def k190_6 (scr : Nat × (Nat → Int32)) : List (Nat × XI) := [(227, x_push (0) 228), (228, x_zret), (229, x_aload 1 230), (230, x_inv 69 7 0 233), (233, x_iload 3 234), (234, x_icne 270 237), (237, x_aload 1 238), (238, x_push (5) 239), (239, x_inv 72 7 1 242), (242, x_iload 4 244), (244, x_icne 270 247), (247, x_aload 1 248), (248, x_push (50) 250), (250, x_push (0) 251), (251, x_inv 76 7 2 254), (254, x_iload 5 256), (256, x_icne 270 259), (259, x_aload 1 260), (260, x_invS 193 1 263), (263, x_ifeq 270 266)]
theorem o190_6 (scr : Nat × (Nat → Int32)) : ∀ q ∈ k190_6 scr, XSnd xm scr Y190 q.1 q.2 := xcons (s_iconst dL_law_227 rfl) (xcons (s_zret dL_law_228 rfl) (xcons (s_aload_n rfl dL_law_229) (xcons (s_inv (mid := 69) xC7 cal_69 xw_2010 xw_908 xw_909 dL_law_230) (xcons (s_iload_n rfl dL_law_233) (xcons (s_icne dL_law_234 rfl) (xcons (s_aload_n rfl dL_law_237) (xcons (s_iconst dL_law_238 rfl) (xcons (s_inv (mid := 72) xC7 cal_72 xw_2003 xw_948 xw_949 dL_law_239) (xcons (s_iload dL_law_242) (xcons (s_icne dL_law_244 rfl) (xcons (s_aload_n rfl dL_law_247) (xcons (s_bipush dL_law_248 rfl) (xcons (s_iconst dL_law_250 rfl) (xcons (s_inv (mid := 76) xC7 cal_76 xw_2021 xw_812 xw_813 dL_law_251) (xcons (s_iload dL_law_254) (xcons (s_icne dL_law_256 rfl) (xcons (s_aload_n rfl dL_law_259) (xcons (s_invS (mid := 193) cal_193 xw_2019 xw_2020 dL_law_260) (xcons (s_ifeq dL_law_263 rfl) (xnil))))))))))))))))))))
theorem dL_law_266 : decode cL_law 266 = .ok (.iconst 1, 1) := by decide +kernel
theorem dL_law_267 : decode cL_law 267 = .ok (.goto 4, 3) := by decide +kernel
theorem dL_law_270 : decode cL_law 270 = .ok (.iconst 0, 1) := by decide +kernel
theorem dL_law_271 : decode cL_law 271 = .ok (.ireturn, 1) := by decide +kernel
def k190_7 (scr : Nat × (Nat → Int32)) : List (Nat × XI) := [(266, x_push (1) 267), (267, x_goto 271), (270, x_push (0) 271), (271, x_zret)]
theorem o190_7 (scr : Nat × (Nat → Int32)) : ∀ q ∈ k190_7 scr, XSnd xm scr Y190 q.1 q.2 := xcons (s_iconst dL_law_266 rfl) (xcons (s_goto dL_law_267 rfl) (xcons (s_iconst dL_law_270 rfl) (xcons (s_zret dL_law_271 rfl) (xnil))))
def k190 (scr : Nat × (Nat → Int32)) (pc : Nat) : XI := if pc < 146 then if pc < 68 then if pc < 32 then xlk (k190_0 scr) pc else xlk (k190_1 scr) pc else if pc < 106 then xlk (k190_2 scr) pc else xlk (k190_3 scr) pc else if pc < 227 then if pc < 182 then xlk (k190_4 scr) pc else xlk (k190_5 scr) pc else if pc < 266 then xlk (k190_6 scr) pc else xlk (k190_7 scr) pc
theorem o190 (scr : Nat × (Nat → Int32)) (pc : Nat) : XSnd xm scr Y190 pc (k190 scr pc) := by
  unfold k190
  exact xite (xite (xite (xlk_ok (o190_0 scr) pc) (xlk_ok (o190_1 scr) pc)) (xite (xlk_ok (o190_2 scr) pc) (xlk_ok (o190_3 scr) pc))) (xite (xite (xlk_ok (o190_4 scr) pc) (xlk_ok (o190_5 scr) pc)) (xite (xlk_ok (o190_6 scr) pc) (xlk_ok (o190_7 scr) pc)))
