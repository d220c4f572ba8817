/-! 09d: the code, instruction by instruction -/
theorem dX7_log_0 : decode cX7_log 0 = .ok (.iload_n 1, 1) := by decide +kernel
theorem dX7_log_1 : decode cX7_log 1 = .ok (.ifCond .ge 5, 3) := by decide +kernel
theorem dX7_log_4 : decode cX7_log 4 = .ok (.iconst (-1), 1) := by decide +kernel
theorem dX7_log_5 : decode cX7_log 5 = .ok (.ireturn, 1) := by decide +kernel
theorem dX7_log_6 : decode cX7_log 6 = .ok (.aload_n 0, 1) := by decide +kernel
theorem dX7_log_7 : decode cX7_log 7 = .ok (.getfield 10, 3) := by decide +kernel
theorem dX7_log_10 : decode cX7_log 10 = .ok (.getfield 166, 3) := by decide +kernel
theorem dX7_log_13 : decode cX7_log 13 = .ok (.astore_n 2, 1) := by decide +kernel
theorem dX7_log_14 : decode cX7_log 14 = .ok (.iload_n 1, 1) := by decide +kernel
theorem dX7_log_15 : decode cX7_log 15 = .ok (.aload_n 2, 1) := by decide +kernel
theorem dX7_log_16 : decode cX7_log 16 = .ok (.getfield 64, 3) := by decide +kernel
theorem dX7_log_19 : decode cX7_log 19 = .ok (.if_icmp .ge 25, 3) := by decide +kernel
theorem dX7_log_22 : decode cX7_log 22 = .ok (.sipush 1000, 3) := by decide +kernel
theorem dX7_log_25 : decode cX7_log 25 = .ok (.aload_n 2, 1) := by decide +kernel
theorem dX7_log_26 : decode cX7_log 26 = .ok (.iload_n 1, 1) := by decide +kernel
theorem dX7_log_27 : decode cX7_log 27 = .ok (.invokevirtual 134, 3) := by decide +kernel
theorem dX7_log_30 : decode cX7_log 30 = .ok (.imul, 1) := by decide +kernel
theorem dX7_log_31 : decode cX7_log 31 = .ok (.aload_n 2, 1) := by decide +kernel
theorem dX7_log_32 : decode cX7_log 32 = .ok (.iload_n 1, 1) := by decide +kernel
theorem dX7_log_33 : decode cX7_log 33 = .ok (.invokevirtual 131, 3) := by decide +kernel
def k88_0 : List (Nat × XI) := [(0, x_iload 1 1), (1, x_ifge 6 4), (4, x_push (-1) 5), (5, x_iret), (6, x_aload 0 7), (7, x_getR 7 0 10), (10, x_getR 6 2 13), (13, x_astore 2 14), (14, x_iload 1 15), (15, x_aload 2 16), (16, x_getI 3 2 19), (19, x_icge 44 22), (22, x_push (1000) 25), (25, x_aload 2 26), (26, x_iload 1 27), (27, x_inv 18 3 1 30), (30, x_imul 31), (31, x_aload 2 32), (32, x_iload 1 33), (33, x_inv 22 3 1 36)]
theorem o88_0 (scr : Nat × (Nat → Int32)) : ∀ q ∈ k88_0, XSnd xm scr Y88 q.1 q.2 := xcons (s_iload_n rfl dX7_log_0) (xcons (s_ifge dX7_log_1 rfl) (xcons (s_iconst dX7_log_4 rfl) (xcons (s_iret dX7_log_5 rfl) (xcons (s_aload_n rfl dX7_log_6) (xcons (s_getR (f := 0) xC7 (by decide) xw_320 rfl dX7_log_7) (xcons (s_getR (f := 2) xC6 (by decide) xw_362 rfl dX7_log_10) (xcons (s_astore_n rfl dX7_log_13 (by decide)) (xcons (s_iload_n rfl dX7_log_14) (xcons (s_aload_n rfl dX7_log_15) (xcons (s_getI (f := 2) xC3 (by decide) xw_346 rfl dX7_log_16) (xcons (s_icge dX7_log_19 rfl) (xcons (s_sipush dX7_log_22 rfl) (xcons (s_aload_n rfl dX7_log_25) (xcons (s_iload_n rfl dX7_log_26) (xcons (s_inv (mid := 18) xC3 cal_18 xw_347 xw_293 xw_294 dX7_log_27) (xcons (s_imul dX7_log_30) (xcons (s_aload_n rfl dX7_log_31) (xcons (s_iload_n rfl dX7_log_32) (xcons (s_inv (mid := 22) xC3 cal_22 xw_348 xw_297 xw_298 dX7_log_33) (xnil))))))))))))))))))))
theorem dX7_log_36 : decode cX7_log 36 = .ok (.iadd, 1) := by decide +kernel
theorem dX7_log_37 : decode cX7_log 37 = .ok (.sipush 300, 3) := by decide +kernel
theorem dX7_log_40 : decode cX7_log 40 = .ok (.iadd, 1) := by decide +kernel
theorem dX7_log_41 : decode cX7_log 41 = .ok (.goto 5, 3) := by decide +kernel
theorem dX7_log_44 : decode cX7_log 44 = .ok (.bipush (-2), 2) := by decide +kernel
theorem dX7_log_46 : decode cX7_log 46 = .ok (.ireturn, 1) := by decide +kernel
def k88_1 : List (Nat × XI) := [(36, x_iadd 37), (37, x_push (300) 40), (40, x_iadd 41), (41, x_goto 46), (44, x_push (-2) 46), (46, x_iret)]
theorem o88_1 (scr : Nat × (Nat → Int32)) : ∀ q ∈ k88_1, XSnd xm scr Y88 q.1 q.2 := xcons (s_iadd dX7_log_36) (xcons (s_sipush dX7_log_37 rfl) (xcons (s_iadd dX7_log_40) (xcons (s_goto dX7_log_41 rfl) (xcons (s_bipush dX7_log_44 rfl) (xcons (s_iret dX7_log_46 rfl) (xnil))))))
def k88 (pc : Nat) : XI := if pc < 36 then xlk k88_0 pc else xlk k88_1 pc
theorem o88 (scr : Nat × (Nat → Int32)) (pc : Nat) : XSnd xm scr Y88 pc (k88 pc) := by
  unfold k88
  exact xite (xlk_ok (o88_0 scr) pc) (xlk_ok (o88_1 scr) pc)
theorem dX7_message_0 : decode cX7_message 0 = .ok (.aload_n 0, 1) := by decide +kernel
theorem dX7_message_1 : decode cX7_message 1 = .ok (.getfield 10, 3) := by decide +kernel
theorem dX7_message_4 : decode cX7_message 4 = .ok (.iload_n 1, 1) := by decide +kernel
theorem dX7_message_5 : decode cX7_message 5 = .ok (.invokevirtual 43, 3) := by decide +kernel
theorem dX7_message_8 : decode cX7_message 8 = .ok (.ifCond .eq 7, 3) := by decide +kernel
theorem dX7_message_11 : decode cX7_message 11 = .ok (.iload_n 2, 1) := by decide +kernel
theorem dX7_message_12 : decode cX7_message 12 = .ok (.ifCond .ge 5, 3) := by decide +kernel
theorem dX7_message_15 : decode cX7_message 15 = .ok (.iconst (-1), 1) := by decide +kernel
theorem dX7_message_16 : decode cX7_message 16 = .ok (.ireturn, 1) := by decide +kernel
theorem dX7_message_17 : decode cX7_message 17 = .ok (.iload_n 3, 1) := by decide +kernel
theorem dX7_message_18 : decode cX7_message 18 = .ok (.ifCond .eq 18, 3) := by decide +kernel
theorem dX7_message_21 : decode cX7_message 21 = .ok (.aload_n 0, 1) := by decide +kernel
theorem dX7_message_22 : decode cX7_message 22 = .ok (.getfield 10, 3) := by decide +kernel
theorem dX7_message_25 : decode cX7_message 25 = .ok (.getfield 54, 3) := by decide +kernel
theorem dX7_message_28 : decode cX7_message 28 = .ok (.iload_n 1, 1) := by decide +kernel
theorem dX7_message_29 : decode cX7_message 29 = .ok (.aaload, 1) := by decide +kernel
theorem dX7_message_30 : decode cX7_message 30 = .ok (.getfield 100, 3) := by decide +kernel
theorem dX7_message_33 : decode cX7_message 33 = .ok (.goto 15, 3) := by decide +kernel
theorem dX7_message_36 : decode cX7_message 36 = .ok (.aload_n 0, 1) := by decide +kernel
theorem dX7_message_37 : decode cX7_message 37 = .ok (.getfield 10, 3) := by decide +kernel
def k89_0 : List (Nat × XI) := [(0, x_aload 0 1), (1, x_getR 7 0 4), (4, x_iload 1 5), (5, x_inv 53 6 1 8), (8, x_ifeq 15 11), (11, x_iload 2 12), (12, x_ifge 17 15), (15, x_push (-1) 16), (16, x_iret), (17, x_iload 3 18), (18, x_ifeq 36 21), (21, x_aload 0 22), (22, x_getR 7 0 25), (25, x_getR 6 0 28), (28, x_iload 1 29), (29, x_aald 30), (30, x_getR 0 9 33), (33, x_goto 48), (36, x_aload 0 37), (37, x_getR 7 0 40)]
theorem o89_0 (scr : Nat × (Nat → Int32)) : ∀ q ∈ k89_0, XSnd xm scr Y89 q.1 q.2 := xcons (s_aload_n rfl dX7_message_0) (xcons (s_getR (f := 0) xC7 (by decide) xw_320 rfl dX7_message_1) (xcons (s_iload_n rfl dX7_message_4) (xcons (s_inv (mid := 53) xC6 cal_53 xw_334 xw_131 xw_132 dX7_message_5) (xcons (s_ifeq dX7_message_8 rfl) (xcons (s_iload_n rfl dX7_message_11) (xcons (s_ifge dX7_message_12 rfl) (xcons (s_iconst dX7_message_15 rfl) (xcons (s_iret dX7_message_16 rfl) (xcons (s_iload_n rfl dX7_message_17) (xcons (s_ifeq dX7_message_18 rfl) (xcons (s_aload_n rfl dX7_message_21) (xcons (s_getR (f := 0) xC7 (by decide) xw_320 rfl dX7_message_22) (xcons (s_getR (f := 0) xC6 (by decide) xw_366 rfl dX7_message_25) (xcons (s_iload_n rfl dX7_message_28) (xcons (s_aald dX7_message_29) (xcons (s_getR (f := 9) xC0 (by decide) xw_407 rfl dX7_message_30) (xcons (s_goto dX7_message_33 rfl) (xcons (s_aload_n rfl dX7_message_36) (xcons (s_getR (f := 0) xC7 (by decide) xw_320 rfl dX7_message_37) (xnil))))))))))))))))))))
theorem dX7_message_40 : decode cX7_message 40 = .ok (.getfield 54, 3) := by decide +kernel
theorem dX7_message_43 : decode cX7_message 43 = .ok (.iload_n 1, 1) := by decide +kernel
theorem dX7_message_44 : decode cX7_message 44 = .ok (.aaload, 1) := by decide +kernel
theorem dX7_message_45 : decode cX7_message 45 = .ok (.getfield 58, 3) := by decide +kernel
theorem dX7_message_48 : decode cX7_message 48 = .ok (.astore 4, 2) := by decide +kernel
theorem dX7_message_50 : decode cX7_message 50 = .ok (.iload_n 2, 1) := by decide +kernel
theorem dX7_message_51 : decode cX7_message 51 = .ok (.aload 4, 2) := by decide +kernel
theorem dX7_message_53 : decode cX7_message 53 = .ok (.getfield 64, 3) := by decide +kernel
theorem dX7_message_56 : decode cX7_message 56 = .ok (.if_icmp .ge 15, 3) := by decide +kernel
theorem dX7_message_59 : decode cX7_message 59 = .ok (.bipush 100, 2) := by decide +kernel
theorem dX7_message_61 : decode cX7_message 61 = .ok (.aload 4, 2) := by decide +kernel
theorem dX7_message_63 : decode cX7_message 63 = .ok (.iload_n 2, 1) := by decide +kernel
theorem dX7_message_64 : decode cX7_message 64 = .ok (.invokevirtual 131, 3) := by decide +kernel
theorem dX7_message_67 : decode cX7_message 67 = .ok (.iadd, 1) := by decide +kernel
theorem dX7_message_68 : decode cX7_message 68 = .ok (.goto 5, 3) := by decide +kernel
theorem dX7_message_71 : decode cX7_message 71 = .ok (.bipush (-2), 2) := by decide +kernel
theorem dX7_message_73 : decode cX7_message 73 = .ok (.ireturn, 1) := by decide +kernel
def k89_1 : List (Nat × XI) := [(40, x_getR 6 0 43), (43, x_iload 1 44), (44, x_aald 45), (45, x_getR 0 8 48), (48, x_astore 4 50), (50, x_iload 2 51), (51, x_aload 4 53), (53, x_getI 3 2 56), (56, x_icge 71 59), (59, x_push (100) 61), (61, x_aload 4 63), (63, x_iload 2 64), (64, x_inv 22 3 1 67), (67, x_iadd 68), (68, x_goto 73), (71, x_push (-2) 73), (73, x_iret)]
theorem o89_1 (scr : Nat × (Nat → Int32)) : ∀ q ∈ k89_1, XSnd xm scr Y89 q.1 q.2 := xcons (s_getR (f := 0) xC6 (by decide) xw_366 rfl dX7_message_40) (xcons (s_iload_n rfl dX7_message_43) (xcons (s_aald dX7_message_44) (xcons (s_getR (f := 8) xC0 (by decide) xw_408 rfl dX7_message_45) (xcons (s_astore dX7_message_48 (by decide)) (xcons (s_iload_n rfl dX7_message_50) (xcons (s_aload dX7_message_51) (xcons (s_getI (f := 2) xC3 (by decide) xw_346 rfl dX7_message_53) (xcons (s_icge dX7_message_56 rfl) (xcons (s_bipush dX7_message_59 rfl) (xcons (s_aload dX7_message_61) (xcons (s_iload_n rfl dX7_message_63) (xcons (s_inv (mid := 22) xC3 cal_22 xw_348 xw_297 xw_298 dX7_message_64) (xcons (s_iadd dX7_message_67) (xcons (s_goto dX7_message_68 rfl) (xcons (s_bipush dX7_message_71 rfl) (xcons (s_iret dX7_message_73 rfl) (xnil)))))))))))))))))
def k89 (pc : Nat) : XI := if pc < 40 then xlk k89_0 pc else xlk k89_1 pc
theorem o89 (scr : Nat × (Nat → Int32)) (pc : Nat) : XSnd xm scr Y89 pc (k89 pc) := by
  unfold k89
  exact xite (xlk_ok (o89_0 scr) pc) (xlk_ok (o89_1 scr) pc)
theorem dX7_of_0 : decode cX7_of 0 = .ok (.aload_n 0, 1) := by decide +kernel
theorem dX7_of_1 : decode cX7_of 1 = .ok (.getfield 10, 3) := by decide +kernel
theorem dX7_of_4 : decode cX7_of 4 = .ok (.iload_n 1, 1) := by decide +kernel
theorem dX7_of_5 : decode cX7_of 5 = .ok (.invokevirtual 43, 3) := by decide +kernel
theorem dX7_of_8 : decode cX7_of 8 = .ok (.ifCond .ne 5, 3) := by decide +kernel
theorem dX7_of_11 : decode cX7_of 11 = .ok (.iconst (-1), 1) := by decide +kernel
theorem dX7_of_12 : decode cX7_of 12 = .ok (.ireturn, 1) := by decide +kernel
theorem dX7_of_13 : decode cX7_of 13 = .ok (.aload_n 0, 1) := by decide +kernel
theorem dX7_of_14 : decode cX7_of 14 = .ok (.getfield 10, 3) := by decide +kernel
theorem dX7_of_17 : decode cX7_of 17 = .ok (.getfield 54, 3) := by decide +kernel
theorem dX7_of_20 : decode cX7_of 20 = .ok (.iload_n 1, 1) := by decide +kernel
theorem dX7_of_21 : decode cX7_of 21 = .ok (.aaload, 1) := by decide +kernel
theorem dX7_of_22 : decode cX7_of 22 = .ok (.astore_n 3, 1) := by decide +kernel
theorem dX7_of_23 : decode cX7_of 23 = .ok (.iload_n 2, 1) := by decide +kernel
theorem dX7_of_24 : decode cX7_of 24 = .ok (.tableswitch 213 0 13 #[72, 90, 95, 100, 105, 110, 123, 140, 148, 156, 164, 172, 184, 204], 72) := by decide +kernel
theorem dX7_of_96 : decode cX7_of 96 = .ok (.aload_n 3, 1) := by decide +kernel
theorem dX7_of_97 : decode cX7_of 97 = .ok (.getfield 70, 3) := by decide +kernel
theorem dX7_of_100 : decode cX7_of 100 = .ok (.iconst (-1), 1) := by decide +kernel
theorem dX7_of_101 : decode cX7_of 101 = .ok (.if_icmp .ne 8, 3) := by decide +kernel
theorem dX7_of_104 : decode cX7_of 104 = .ok (.bipush (-2), 2) := by decide +kernel
def k90_0 : List (Nat × XI) := [(0, x_aload 0 1), (1, x_getR 7 0 4), (4, x_iload 1 5), (5, x_inv 53 6 1 8), (8, x_ifne 13 11), (11, x_push (-1) 12), (12, x_iret), (13, x_aload 0 14), (14, x_getR 7 0 17), (17, x_getR 6 0 20), (20, x_iload 1 21), (21, x_aald 22), (22, x_astore 3 23), (23, x_iload 2 24), (24, x_tsw (0) (13) [96, 114, 119, 124, 129, 134, 147, 164, 172, 180, 188, 196, 208, 228] 237), (96, x_aload 3 97), (97, x_getI 0 0 100), (100, x_push (-1) 101), (101, x_icne 109 104), (104, x_push (-2) 106)]
theorem o90_0 (scr : Nat × (Nat → Int32)) : ∀ q ∈ k90_0, XSnd xm scr Y90 q.1 q.2 := xcons (s_aload_n rfl dX7_of_0) (xcons (s_getR (f := 0) xC7 (by decide) xw_320 rfl dX7_of_1) (xcons (s_iload_n rfl dX7_of_4) (xcons (s_inv (mid := 53) xC6 cal_53 xw_334 xw_131 xw_132 dX7_of_5) (xcons (s_ifne dX7_of_8 rfl) (xcons (s_iconst dX7_of_11 rfl) (xcons (s_iret dX7_of_12 rfl) (xcons (s_aload_n rfl dX7_of_13) (xcons (s_getR (f := 0) xC7 (by decide) xw_320 rfl dX7_of_14) (xcons (s_getR (f := 0) xC6 (by decide) xw_366 rfl dX7_of_17) (xcons (s_iload_n rfl dX7_of_20) (xcons (s_aald dX7_of_21) (xcons (s_astore_n rfl dX7_of_22 (by decide)) (xcons (s_iload_n rfl dX7_of_23) (xcons (s_tsw dX7_of_24 rfl rfl) (xcons (s_aload_n rfl dX7_of_96) (xcons (s_getI (f := 0) xC0 (by decide) xw_409 rfl dX7_of_97) (xcons (s_iconst dX7_of_100 rfl) (xcons (s_icne dX7_of_101 rfl) (xcons (s_bipush dX7_of_104 rfl) (xnil))))))))))))))))))))
theorem dX7_of_106 : decode cX7_of 106 = .ok (.goto 7, 3) := by decide +kernel
theorem dX7_of_109 : decode cX7_of 109 = .ok (.aload_n 3, 1) := by decide +kernel
theorem dX7_of_110 : decode cX7_of 110 = .ok (.getfield 70, 3) := by decide +kernel
theorem dX7_of_113 : decode cX7_of 113 = .ok (.ireturn, 1) := by decide +kernel
theorem dX7_of_114 : decode cX7_of 114 = .ok (.aload_n 3, 1) := by decide +kernel
theorem dX7_of_115 : decode cX7_of 115 = .ok (.getfield 73, 3) := by decide +kernel
theorem dX7_of_118 : decode cX7_of 118 = .ok (.ireturn, 1) := by decide +kernel
theorem dX7_of_119 : decode cX7_of 119 = .ok (.aload_n 3, 1) := by decide +kernel
theorem dX7_of_120 : decode cX7_of 120 = .ok (.getfield 76, 3) := by decide +kernel
theorem dX7_of_123 : decode cX7_of 123 = .ok (.ireturn, 1) := by decide +kernel
theorem dX7_of_124 : decode cX7_of 124 = .ok (.aload_n 3, 1) := by decide +kernel
theorem dX7_of_125 : decode cX7_of 125 = .ok (.getfield 79, 3) := by decide +kernel
theorem dX7_of_128 : decode cX7_of 128 = .ok (.ireturn, 1) := by decide +kernel
theorem dX7_of_129 : decode cX7_of 129 = .ok (.aload_n 3, 1) := by decide +kernel
theorem dX7_of_130 : decode cX7_of 130 = .ok (.getfield 82, 3) := by decide +kernel
theorem dX7_of_133 : decode cX7_of 133 = .ok (.ireturn, 1) := by decide +kernel
theorem dX7_of_134 : decode cX7_of 134 = .ok (.aload_n 3, 1) := by decide +kernel
theorem dX7_of_135 : decode cX7_of 135 = .ok (.getfield 85, 3) := by decide +kernel
theorem dX7_of_138 : decode cX7_of 138 = .ok (.ifCond .eq 7, 3) := by decide +kernel
theorem dX7_of_141 : decode cX7_of 141 = .ok (.iconst 1, 1) := by decide +kernel
def k90_1 : List (Nat × XI) := [(106, x_goto 113), (109, x_aload 3 110), (110, x_getI 0 0 113), (113, x_iret), (114, x_aload 3 115), (115, x_getI 0 1 118), (118, x_iret), (119, x_aload 3 120), (120, x_getI 0 2 123), (123, x_iret), (124, x_aload 3 125), (125, x_getI 0 3 128), (128, x_iret), (129, x_aload 3 130), (130, x_getI 0 4 133), (133, x_iret), (134, x_aload 3 135), (135, x_getI 0 6 138), (138, x_ifeq 145 141), (141, x_push (1) 142)]
theorem o90_1 (scr : Nat × (Nat → Int32)) : ∀ q ∈ k90_1, XSnd xm scr Y90 q.1 q.2 := xcons (s_goto dX7_of_106 rfl) (xcons (s_aload_n rfl dX7_of_109) (xcons (s_getI (f := 0) xC0 (by decide) xw_409 rfl dX7_of_110) (xcons (s_iret dX7_of_113 rfl) (xcons (s_aload_n rfl dX7_of_114) (xcons (s_getI (f := 1) xC0 (by decide) xw_410 rfl dX7_of_115) (xcons (s_iret dX7_of_118 rfl) (xcons (s_aload_n rfl dX7_of_119) (xcons (s_getI (f := 2) xC0 (by decide) xw_411 rfl dX7_of_120) (xcons (s_iret dX7_of_123 rfl) (xcons (s_aload_n rfl dX7_of_124) (xcons (s_getI (f := 3) xC0 (by decide) xw_412 rfl dX7_of_125) (xcons (s_iret dX7_of_128 rfl) (xcons (s_aload_n rfl dX7_of_129) (xcons (s_getI (f := 4) xC0 (by decide) xw_413 rfl dX7_of_130) (xcons (s_iret dX7_of_133 rfl) (xcons (s_aload_n rfl dX7_of_134) (xcons (s_getI (f := 6) xC0 (by decide) xw_414 rfl dX7_of_135) (xcons (s_ifeq dX7_of_138 rfl) (xcons (s_iconst dX7_of_141 rfl) (xnil))))))))))))))))))))
theorem dX7_of_142 : decode cX7_of 142 = .ok (.goto 4, 3) := by decide +kernel
theorem dX7_of_145 : decode cX7_of 145 = .ok (.iconst 0, 1) := by decide +kernel
theorem dX7_of_146 : decode cX7_of 146 = .ok (.ireturn, 1) := by decide +kernel
theorem dX7_of_147 : decode cX7_of 147 = .ok (.aload_n 3, 1) := by decide +kernel
theorem dX7_of_148 : decode cX7_of 148 = .ok (.getfield 89, 3) := by decide +kernel
theorem dX7_of_151 : decode cX7_of 151 = .ok (.aload_n 3, 1) := by decide +kernel
theorem dX7_of_152 : decode cX7_of 152 = .ok (.getfield 89, 3) := by decide +kernel
theorem dX7_of_155 : decode cX7_of 155 = .ok (.getfield 93, 3) := by decide +kernel
theorem dX7_of_158 : decode cX7_of 158 = .ok (.iconst 1, 1) := by decide +kernel
theorem dX7_of_159 : decode cX7_of 159 = .ok (.isub, 1) := by decide +kernel
theorem dX7_of_160 : decode cX7_of 160 = .ok (.invokevirtual 96, 3) := by decide +kernel
theorem dX7_of_163 : decode cX7_of 163 = .ok (.ireturn, 1) := by decide +kernel
theorem dX7_of_164 : decode cX7_of 164 = .ok (.aload_n 3, 1) := by decide +kernel
theorem dX7_of_165 : decode cX7_of 165 = .ok (.getfield 89, 3) := by decide +kernel
theorem dX7_of_168 : decode cX7_of 168 = .ok (.getfield 93, 3) := by decide +kernel
theorem dX7_of_171 : decode cX7_of 171 = .ok (.ireturn, 1) := by decide +kernel
theorem dX7_of_172 : decode cX7_of 172 = .ok (.aload_n 3, 1) := by decide +kernel
theorem dX7_of_173 : decode cX7_of 173 = .ok (.getfield 58, 3) := by decide +kernel
theorem dX7_of_176 : decode cX7_of 176 = .ok (.getfield 64, 3) := by decide +kernel
theorem dX7_of_179 : decode cX7_of 179 = .ok (.ireturn, 1) := by decide +kernel
def k90_2 : List (Nat × XI) := [(142, x_goto 146), (145, x_push (0) 146), (146, x_iret), (147, x_aload 3 148), (148, x_getR 0 7 151), (151, x_aload 3 152), (152, x_getR 0 7 155), (155, x_getI 2 1 158), (158, x_push (1) 159), (159, x_isub 160), (160, x_inv 6 2 1 163), (163, x_iret), (164, x_aload 3 165), (165, x_getR 0 7 168), (168, x_getI 2 1 171), (171, x_iret), (172, x_aload 3 173), (173, x_getR 0 8 176), (176, x_getI 3 2 179), (179, x_iret)]
theorem o90_2 (scr : Nat × (Nat → Int32)) : ∀ q ∈ k90_2, XSnd xm scr Y90 q.1 q.2 := xcons (s_goto dX7_of_142 rfl) (xcons (s_iconst dX7_of_145 rfl) (xcons (s_iret dX7_of_146 rfl) (xcons (s_aload_n rfl dX7_of_147) (xcons (s_getR (f := 7) xC0 (by decide) xw_415 rfl dX7_of_148) (xcons (s_aload_n rfl dX7_of_151) (xcons (s_getR (f := 7) xC0 (by decide) xw_415 rfl dX7_of_152) (xcons (s_getI (f := 1) xC2 (by decide) xw_365 rfl dX7_of_155) (xcons (s_iconst dX7_of_158 rfl) (xcons (s_isub dX7_of_159) (xcons (s_inv (mid := 6) xC2 cal_6 xw_371 xw_93 xw_94 dX7_of_160) (xcons (s_iret dX7_of_163 rfl) (xcons (s_aload_n rfl dX7_of_164) (xcons (s_getR (f := 7) xC0 (by decide) xw_415 rfl dX7_of_165) (xcons (s_getI (f := 1) xC2 (by decide) xw_365 rfl dX7_of_168) (xcons (s_iret dX7_of_171 rfl) (xcons (s_aload_n rfl dX7_of_172) (xcons (s_getR (f := 8) xC0 (by decide) xw_408 rfl dX7_of_173) (xcons (s_getI (f := 2) xC3 (by decide) xw_346 rfl dX7_of_176) (xcons (s_iret dX7_of_179 rfl) (xnil))))))))))))))))))))
theorem dX7_of_180 : decode cX7_of 180 = .ok (.aload_n 3, 1) := by decide +kernel
theorem dX7_of_181 : decode cX7_of 181 = .ok (.getfield 100, 3) := by decide +kernel
theorem dX7_of_184 : decode cX7_of 184 = .ok (.getfield 64, 3) := by decide +kernel
theorem dX7_of_187 : decode cX7_of 187 = .ok (.ireturn, 1) := by decide +kernel
theorem dX7_of_188 : decode cX7_of 188 = .ok (.aload_n 3, 1) := by decide +kernel
theorem dX7_of_189 : decode cX7_of 189 = .ok (.getfield 103, 3) := by decide +kernel
theorem dX7_of_192 : decode cX7_of 192 = .ok (.getfield 93, 3) := by decide +kernel
theorem dX7_of_195 : decode cX7_of 195 = .ok (.ireturn, 1) := by decide +kernel
theorem dX7_of_196 : decode cX7_of 196 = .ok (.aload_n 0, 1) := by decide +kernel
theorem dX7_of_197 : decode cX7_of 197 = .ok (.getfield 10, 3) := by decide +kernel
theorem dX7_of_200 : decode cX7_of 200 = .ok (.getfield 106, 3) := by decide +kernel
theorem dX7_of_203 : decode cX7_of 203 = .ok (.iload_n 1, 1) := by decide +kernel
theorem dX7_of_204 : decode cX7_of 204 = .ok (.invokevirtual 110, 3) := by decide +kernel
theorem dX7_of_207 : decode cX7_of 207 = .ok (.ireturn, 1) := by decide +kernel
theorem dX7_of_208 : decode cX7_of 208 = .ok (.aload_n 3, 1) := by decide +kernel
theorem dX7_of_209 : decode cX7_of 209 = .ok (.getfield 115, 3) := by decide +kernel
theorem dX7_of_212 : decode cX7_of 212 = .ok (.aload_n 0, 1) := by decide +kernel
theorem dX7_of_213 : decode cX7_of 213 = .ok (.getfield 10, 3) := by decide +kernel
theorem dX7_of_216 : decode cX7_of 216 = .ok (.getfield 118, 3) := by decide +kernel
theorem dX7_of_219 : decode cX7_of 219 = .ok (.aload_n 3, 1) := by decide +kernel
def k90_3 : List (Nat × XI) := [(180, x_aload 3 181), (181, x_getR 0 9 184), (184, x_getI 3 2 187), (187, x_iret), (188, x_aload 3 189), (189, x_getR 0 10 192), (192, x_getI 2 1 195), (195, x_iret), (196, x_aload 0 197), (197, x_getR 7 0 200), (200, x_getR 6 1 203), (203, x_iload 1 204), (204, x_inv 31 5 1 207), (207, x_iret), (208, x_aload 3 209), (209, x_getR 0 11 212), (212, x_aload 0 213), (213, x_getR 7 0 216), (216, x_getI 6 6 219), (219, x_aload 3 220)]
theorem o90_3 (scr : Nat × (Nat → Int32)) : ∀ q ∈ k90_3, XSnd xm scr Y90 q.1 q.2 := xcons (s_aload_n rfl dX7_of_180) (xcons (s_getR (f := 9) xC0 (by decide) xw_407 rfl dX7_of_181) (xcons (s_getI (f := 2) xC3 (by decide) xw_346 rfl dX7_of_184) (xcons (s_iret dX7_of_187 rfl) (xcons (s_aload_n rfl dX7_of_188) (xcons (s_getR (f := 10) xC0 (by decide) xw_416 rfl dX7_of_189) (xcons (s_getI (f := 1) xC2 (by decide) xw_365 rfl dX7_of_192) (xcons (s_iret dX7_of_195 rfl) (xcons (s_aload_n rfl dX7_of_196) (xcons (s_getR (f := 0) xC7 (by decide) xw_320 rfl dX7_of_197) (xcons (s_getR (f := 1) xC6 (by decide) xw_357 rfl dX7_of_200) (xcons (s_iload_n rfl dX7_of_203) (xcons (s_inv (mid := 31) xC5 cal_31 xw_418 xw_419 xw_420 dX7_of_204) (xcons (s_iret dX7_of_207 rfl) (xcons (s_aload_n rfl dX7_of_208) (xcons (s_getR (f := 11) xC0 (by decide) xw_421 rfl dX7_of_209) (xcons (s_aload_n rfl dX7_of_212) (xcons (s_getR (f := 0) xC7 (by decide) xw_320 rfl dX7_of_213) (xcons (s_getI (f := 6) xC6 (by decide) xw_361 rfl dX7_of_216) (xcons (s_aload_n rfl dX7_of_219) (xnil))))))))))))))))))))
theorem dX7_of_220 : decode cX7_of 220 = .ok (.getfield 82, 3) := by decide +kernel
theorem dX7_of_223 : decode cX7_of 223 = .ok (.isub, 1) := by decide +kernel
theorem dX7_of_224 : decode cX7_of 224 = .ok (.invokevirtual 121, 3) := by decide +kernel
theorem dX7_of_227 : decode cX7_of 227 = .ok (.ireturn, 1) := by decide +kernel
theorem dX7_of_228 : decode cX7_of 228 = .ok (.aload_n 0, 1) := by decide +kernel
theorem dX7_of_229 : decode cX7_of 229 = .ok (.getfield 10, 3) := by decide +kernel
theorem dX7_of_232 : decode cX7_of 232 = .ok (.iload_n 1, 1) := by decide +kernel
theorem dX7_of_233 : decode cX7_of 233 = .ok (.invokevirtual 124, 3) := by decide +kernel
theorem dX7_of_236 : decode cX7_of 236 = .ok (.ireturn, 1) := by decide +kernel
theorem dX7_of_237 : decode cX7_of 237 = .ok (.iconst (-1), 1) := by decide +kernel
theorem dX7_of_238 : decode cX7_of 238 = .ok (.ireturn, 1) := by decide +kernel
def k90_4 : List (Nat × XI) := [(220, x_getI 0 4 223), (223, x_isub 224), (224, x_inv 9 2 1 227), (227, x_iret), (228, x_aload 0 229), (229, x_getR 7 0 232), (232, x_iload 1 233), (233, x_inv 41 6 1 236), (236, x_iret), (237, x_push (-1) 238), (238, x_iret)]
theorem o90_4 (scr : Nat × (Nat → Int32)) : ∀ q ∈ k90_4, XSnd xm scr Y90 q.1 q.2 := xcons (s_getI (f := 4) xC0 (by decide) xw_413 rfl dX7_of_220) (xcons (s_isub dX7_of_223) (xcons (s_inv (mid := 9) xC2 cal_9 xw_423 xw_424 xw_425 dX7_of_224) (xcons (s_iret dX7_of_227 rfl) (xcons (s_aload_n rfl dX7_of_228) (xcons (s_getR (f := 0) xC7 (by decide) xw_320 rfl dX7_of_229) (xcons (s_iload_n rfl dX7_of_232) (xcons (s_inv (mid := 41) xC6 cal_41 xw_427 xw_428 xw_429 dX7_of_233) (xcons (s_iret dX7_of_236 rfl) (xcons (s_iconst dX7_of_237 rfl) (xcons (s_iret dX7_of_238 rfl) (xnil)))))))))))
def k90 (pc : Nat) : XI := if pc < 142 then if pc < 106 then xlk k90_0 pc else xlk k90_1 pc else if pc < 180 then xlk k90_2 pc else if pc < 220 then xlk k90_3 pc else xlk k90_4 pc
theorem o90 (scr : Nat × (Nat → Int32)) (pc : Nat) : XSnd xm scr Y90 pc (k90 pc) := by
  unfold k90
  exact xite (xite (xlk_ok (o90_0 scr) pc) (xlk_ok (o90_1 scr) pc)) (xite (xlk_ok (o90_2 scr) pc) (xite (xlk_ok (o90_3 scr) pc) (xlk_ok (o90_4 scr) pc)))
theorem dX7_order_0 : decode cX7_order 0 = .ok (.iload_n 1, 1) := by decide +kernel
theorem dX7_order_1 : decode cX7_order 1 = .ok (.invokestatic 232, 3) := by decide +kernel
theorem dX7_order_4 : decode cX7_order 4 = .ok (.ifCond .ne 5, 3) := by decide +kernel
theorem dX7_order_7 : decode cX7_order 7 = .ok (.iconst (-1), 1) := by decide +kernel
theorem dX7_order_8 : decode cX7_order 8 = .ok (.ireturn, 1) := by decide +kernel
theorem dX7_order_9 : decode cX7_order 9 = .ok (.aload_n 0, 1) := by decide +kernel
theorem dX7_order_10 : decode cX7_order 10 = .ok (.getfield 34, 3) := by decide +kernel
theorem dX7_order_13 : decode cX7_order 13 = .ok (.iload_n 1, 1) := by decide +kernel
theorem dX7_order_14 : decode cX7_order 14 = .ok (.aaload, 1) := by decide +kernel
theorem dX7_order_15 : decode cX7_order 15 = .ok (.astore_n 3, 1) := by decide +kernel
theorem dX7_order_16 : decode cX7_order 16 = .ok (.aload_n 3, 1) := by decide +kernel
theorem dX7_order_17 : decode cX7_order 17 = .ok (.getfield 235, 3) := by decide +kernel
theorem dX7_order_20 : decode cX7_order 20 = .ok (.ifCond .ne 6, 3) := by decide +kernel
theorem dX7_order_23 : decode cX7_order 23 = .ok (.bipush (-11), 2) := by decide +kernel
theorem dX7_order_25 : decode cX7_order 25 = .ok (.ireturn, 1) := by decide +kernel
theorem dX7_order_26 : decode cX7_order 26 = .ok (.aload_n 3, 1) := by decide +kernel
theorem dX7_order_27 : decode cX7_order 27 = .ok (.getfield 235, 3) := by decide +kernel
theorem dX7_order_30 : decode cX7_order 30 = .ok (.iconst 2, 1) := by decide +kernel
theorem dX7_order_31 : decode cX7_order 31 = .ok (.if_icmp .eq 6, 3) := by decide +kernel
theorem dX7_order_34 : decode cX7_order 34 = .ok (.bipush (-12), 2) := by decide +kernel
def k91_0 : List (Nat × XI) := [(0, x_iload 1 1), (1, x_invS 84 1 4), (4, x_ifne 9 7), (7, x_push (-1) 8), (8, x_iret), (9, x_aload 0 10), (10, x_getR 7 5 13), (13, x_iload 1 14), (14, x_aald 15), (15, x_astore 3 16), (16, x_aload 3 17), (17, x_getI 1 1 20), (20, x_ifne 26 23), (23, x_push (-11) 25), (25, x_iret), (26, x_aload 3 27), (27, x_getI 1 1 30), (30, x_push (2) 31), (31, x_iceq 37 34), (34, x_push (-12) 36)]
theorem o91_0 (scr : Nat × (Nat → Int32)) : ∀ q ∈ k91_0, XSnd xm scr Y91 q.1 q.2 := xcons (s_iload_n rfl dX7_order_0) (xcons (s_invS (mid := 84) cal_84 xw_389 xw_390 dX7_order_1) (xcons (s_ifne dX7_order_4 rfl) (xcons (s_iconst dX7_order_7 rfl) (xcons (s_iret dX7_order_8 rfl) (xcons (s_aload_n rfl dX7_order_9) (xcons (s_getR (f := 5) xC7 (by decide) xw_331 rfl dX7_order_10) (xcons (s_iload_n rfl dX7_order_13) (xcons (s_aald dX7_order_14) (xcons (s_astore_n rfl dX7_order_15 (by decide)) (xcons (s_aload_n rfl dX7_order_16) (xcons (s_getI (f := 1) xC1 (by decide) xw_332 rfl dX7_order_17) (xcons (s_ifne dX7_order_20 rfl) (xcons (s_bipush dX7_order_23 rfl) (xcons (s_iret dX7_order_25 rfl) (xcons (s_aload_n rfl dX7_order_26) (xcons (s_getI (f := 1) xC1 (by decide) xw_332 rfl dX7_order_27) (xcons (s_iconst dX7_order_30 rfl) (xcons (s_iceq dX7_order_31 rfl) (xcons (s_bipush dX7_order_34 rfl) (xnil))))))))))))))))))))
theorem dX7_order_36 : decode cX7_order 36 = .ok (.ireturn, 1) := by decide +kernel
theorem dX7_order_37 : decode cX7_order 37 = .ok (.iload_n 2, 1) := by decide +kernel
theorem dX7_order_38 : decode cX7_order 38 = .ok (.ifCond .ge 6, 3) := by decide +kernel
theorem dX7_order_41 : decode cX7_order 41 = .ok (.bipush (-14), 2) := by decide +kernel
theorem dX7_order_43 : decode cX7_order 43 = .ok (.ireturn, 1) := by decide +kernel
theorem dX7_order_44 : decode cX7_order 44 = .ok (.iload_n 2, 1) := by decide +kernel
theorem dX7_order_45 : decode cX7_order 45 = .ok (.aload_n 3, 1) := by decide +kernel
theorem dX7_order_46 : decode cX7_order 46 = .ok (.getfield 238, 3) := by decide +kernel
theorem dX7_order_49 : decode cX7_order 49 = .ok (.getfield 93, 3) := by decide +kernel
theorem dX7_order_52 : decode cX7_order 52 = .ok (.iconst 2, 1) := by decide +kernel
theorem dX7_order_53 : decode cX7_order 53 = .ok (.idiv, 1) := by decide +kernel
theorem dX7_order_54 : decode cX7_order 54 = .ok (.if_icmp .le 8, 3) := by decide +kernel
theorem dX7_order_57 : decode cX7_order 57 = .ok (.bipush (-13), 2) := by decide +kernel
theorem dX7_order_59 : decode cX7_order 59 = .ok (.goto 12, 3) := by decide +kernel
theorem dX7_order_62 : decode cX7_order 62 = .ok (.aload_n 0, 1) := by decide +kernel
theorem dX7_order_63 : decode cX7_order 63 = .ok (.aload_n 3, 1) := by decide +kernel
theorem dX7_order_64 : decode cX7_order 64 = .ok (.getfield 238, 3) := by decide +kernel
theorem dX7_order_67 : decode cX7_order 67 = .ok (.iload_n 2, 1) := by decide +kernel
theorem dX7_order_68 : decode cX7_order 68 = .ok (.invokevirtual 241, 3) := by decide +kernel
theorem dX7_order_71 : decode cX7_order 71 = .ok (.ireturn, 1) := by decide +kernel
def k91_1 : List (Nat × XI) := [(36, x_iret), (37, x_iload 2 38), (38, x_ifge 44 41), (41, x_push (-14) 43), (43, x_iret), (44, x_iload 2 45), (45, x_aload 3 46), (46, x_getR 1 0 49), (49, x_getI 2 1 52), (52, x_push (2) 53), (53, x_idiv 54), (54, x_icle 62 57), (57, x_push (-13) 59), (59, x_goto 71), (62, x_aload 0 63), (63, x_aload 3 64), (64, x_getR 1 0 67), (67, x_iload 2 68), (68, x_inv 80 7 2 71), (71, x_iret)]
theorem o91_1 (scr : Nat × (Nat → Int32)) : ∀ q ∈ k91_1, XSnd xm scr Y91 q.1 q.2 := xcons (s_iret dX7_order_36 rfl) (xcons (s_iload_n rfl dX7_order_37) (xcons (s_ifge dX7_order_38 rfl) (xcons (s_bipush dX7_order_41 rfl) (xcons (s_iret dX7_order_43 rfl) (xcons (s_iload_n rfl dX7_order_44) (xcons (s_aload_n rfl dX7_order_45) (xcons (s_getR (f := 0) xC1 (by decide) xw_430 rfl dX7_order_46) (xcons (s_getI (f := 1) xC2 (by decide) xw_365 rfl dX7_order_49) (xcons (s_iconst dX7_order_52 rfl) (xcons (s_idiv dX7_order_53) (xcons (s_icle dX7_order_54 rfl) (xcons (s_bipush dX7_order_57 rfl) (xcons (s_goto dX7_order_59 rfl) (xcons (s_aload_n rfl dX7_order_62) (xcons (s_aload_n rfl dX7_order_63) (xcons (s_getR (f := 0) xC1 (by decide) xw_430 rfl dX7_order_64) (xcons (s_iload_n rfl dX7_order_67) (xcons (s_inv (mid := 80) xC7 cal_80 xw_432 xw_433 xw_434 dX7_order_68) (xcons (s_iret dX7_order_71 rfl) (xnil))))))))))))))))))))
def k91 (pc : Nat) : XI := if pc < 36 then xlk k91_0 pc else xlk k91_1 pc
theorem o91 (scr : Nat × (Nat → Int32)) (pc : Nat) : XSnd xm scr Y91 pc (k91 pc) := by
  unfold k91
  exact xite (xlk_ok (o91_0 scr) pc) (xlk_ok (o91_1 scr) pc)
theorem dX7_put_0 : decode cX7_put 0 = .ok (.iload_n 1, 1) := by decide +kernel
theorem dX7_put_1 : decode cX7_put 1 = .ok (.invokestatic 232, 3) := by decide +kernel
theorem dX7_put_4 : decode cX7_put 4 = .ok (.ifCond .eq 16, 3) := by decide +kernel
theorem dX7_put_7 : decode cX7_put 7 = .ok (.aload_n 0, 1) := by decide +kernel
theorem dX7_put_8 : decode cX7_put 8 = .ok (.getfield 34, 3) := by decide +kernel
theorem dX7_put_11 : decode cX7_put 11 = .ok (.iload_n 1, 1) := by decide +kernel
theorem dX7_put_12 : decode cX7_put 12 = .ok (.aaload, 1) := by decide +kernel
theorem dX7_put_13 : decode cX7_put 13 = .ok (.getfield 235, 3) := by decide +kernel
theorem dX7_put_16 : decode cX7_put 16 = .ok (.iconst 2, 1) := by decide +kernel
theorem dX7_put_17 : decode cX7_put 17 = .ok (.if_icmp .eq 6, 3) := by decide +kernel
theorem dX7_put_20 : decode cX7_put 20 = .ok (.ldc 130, 2) := by decide +kernel
theorem dX7_put_22 : decode cX7_put 22 = .ok (.ireturn, 1) := by decide +kernel
theorem dX7_put_23 : decode cX7_put 23 = .ok (.aload_n 0, 1) := by decide +kernel
theorem dX7_put_24 : decode cX7_put 24 = .ok (.getfield 34, 3) := by decide +kernel
theorem dX7_put_27 : decode cX7_put 27 = .ok (.iload_n 1, 1) := by decide +kernel
theorem dX7_put_28 : decode cX7_put 28 = .ok (.aaload, 1) := by decide +kernel
theorem dX7_put_29 : decode cX7_put 29 = .ok (.getfield 238, 3) := by decide +kernel
theorem dX7_put_32 : decode cX7_put 32 = .ok (.astore 4, 2) := by decide +kernel
theorem dX7_put_34 : decode cX7_put 34 = .ok (.iload_n 2, 1) := by decide +kernel
theorem dX7_put_35 : decode cX7_put 35 = .ok (.ifCond .lt 12, 3) := by decide +kernel
def k92_0 : List (Nat × XI) := [(0, x_iload 1 1), (1, x_invS 84 1 4), (4, x_ifeq 20 7), (7, x_aload 0 8), (8, x_getR 7 5 11), (11, x_iload 1 12), (12, x_aald 13), (13, x_getI 1 1 16), (16, x_push (2) 17), (17, x_iceq 23 20), (20, x_push (-2000000000) 22), (22, x_iret), (23, x_aload 0 24), (24, x_getR 7 5 27), (27, x_iload 1 28), (28, x_aald 29), (29, x_getR 1 0 32), (32, x_astore 4 34), (34, x_iload 2 35), (35, x_iflt 47 38)]
theorem o92_0 (scr : Nat × (Nat → Int32)) : ∀ q ∈ k92_0, XSnd xm scr Y92 q.1 q.2 := xcons (s_iload_n rfl dX7_put_0) (xcons (s_invS (mid := 84) cal_84 xw_389 xw_390 dX7_put_1) (xcons (s_ifeq dX7_put_4 rfl) (xcons (s_aload_n rfl dX7_put_7) (xcons (s_getR (f := 5) xC7 (by decide) xw_331 rfl dX7_put_8) (xcons (s_iload_n rfl dX7_put_11) (xcons (s_aald dX7_put_12) (xcons (s_getI (f := 1) xC1 (by decide) xw_332 rfl dX7_put_13) (xcons (s_iconst dX7_put_16 rfl) (xcons (s_iceq dX7_put_17 rfl) (xcons (s_ldc dX7_put_20 xw_337) (xcons (s_iret dX7_put_22 rfl) (xcons (s_aload_n rfl dX7_put_23) (xcons (s_getR (f := 5) xC7 (by decide) xw_331 rfl dX7_put_24) (xcons (s_iload_n rfl dX7_put_27) (xcons (s_aald dX7_put_28) (xcons (s_getR (f := 0) xC1 (by decide) xw_430 rfl dX7_put_29) (xcons (s_astore dX7_put_32 (by decide)) (xcons (s_iload_n rfl dX7_put_34) (xcons (s_iflt dX7_put_35 rfl) (xnil))))))))))))))))))))
theorem dX7_put_38 : decode cX7_put 38 = .ok (.iload_n 2, 1) := by decide +kernel
theorem dX7_put_39 : decode cX7_put 39 = .ok (.aload 4, 2) := by decide +kernel
theorem dX7_put_41 : decode cX7_put 41 = .ok (.getfield 93, 3) := by decide +kernel
theorem dX7_put_44 : decode cX7_put 44 = .ok (.if_icmp .lt 6, 3) := by decide +kernel
theorem dX7_put_47 : decode cX7_put 47 = .ok (.ldc 130, 2) := by decide +kernel
theorem dX7_put_49 : decode cX7_put 49 = .ok (.ireturn, 1) := by decide +kernel
theorem dX7_put_50 : decode cX7_put 50 = .ok (.aload 4, 2) := by decide +kernel
theorem dX7_put_52 : decode cX7_put 52 = .ok (.iload_n 2, 1) := by decide +kernel
theorem dX7_put_53 : decode cX7_put 53 = .ok (.invokevirtual 96, 3) := by decide +kernel
theorem dX7_put_56 : decode cX7_put 56 = .ok (.istore 5, 2) := by decide +kernel
theorem dX7_put_58 : decode cX7_put 58 = .ok (.aload 4, 2) := by decide +kernel
theorem dX7_put_60 : decode cX7_put 60 = .ok (.iload_n 2, 1) := by decide +kernel
theorem dX7_put_61 : decode cX7_put 61 = .ok (.iload_n 3, 1) := by decide +kernel
theorem dX7_put_62 : decode cX7_put 62 = .ok (.invokevirtual 254, 3) := by decide +kernel
theorem dX7_put_65 : decode cX7_put 65 = .ok (.iload 5, 2) := by decide +kernel
theorem dX7_put_67 : decode cX7_put 67 = .ok (.ireturn, 1) := by decide +kernel
def k92_1 : List (Nat × XI) := [(38, x_iload 2 39), (39, x_aload 4 41), (41, x_getI 2 1 44), (44, x_iclt 50 47), (47, x_push (-2000000000) 49), (49, x_iret), (50, x_aload 4 52), (52, x_iload 2 53), (53, x_inv 6 2 1 56), (56, x_istore 5 58), (58, x_aload 4 60), (60, x_iload 2 61), (61, x_iload 3 62), (62, x_inv 7 2 2 65), (65, x_iload 5 67), (67, x_iret)]
theorem o92_1 (scr : Nat × (Nat → Int32)) : ∀ q ∈ k92_1, XSnd xm scr Y92 q.1 q.2 := xcons (s_iload_n rfl dX7_put_38) (xcons (s_aload dX7_put_39) (xcons (s_getI (f := 1) xC2 (by decide) xw_365 rfl dX7_put_41) (xcons (s_iclt dX7_put_44 rfl) (xcons (s_ldc dX7_put_47 xw_337) (xcons (s_iret dX7_put_49 rfl) (xcons (s_aload dX7_put_50) (xcons (s_iload_n rfl dX7_put_52) (xcons (s_inv (mid := 6) xC2 cal_6 xw_371 xw_93 xw_94 dX7_put_53) (xcons (s_istore dX7_put_56 (by decide)) (xcons (s_aload dX7_put_58) (xcons (s_iload_n rfl dX7_put_60) (xcons (s_iload_n rfl dX7_put_61) (xcons (s_inv (mid := 7) xC2 cal_7 xw_436 xw_437 xw_438 dX7_put_62) (xcons (s_iload dX7_put_65) (xcons (s_iret dX7_put_67 rfl) (xnil))))))))))))))))
def k92 (pc : Nat) : XI := if pc < 38 then xlk k92_0 pc else xlk k92_1 pc
theorem o92 (scr : Nat × (Nat → Int32)) (pc : Nat) : XSnd xm scr Y92 pc (k92 pc) := by
  unfold k92
  exact xite (xlk_ok (o92_0 scr) pc) (xlk_ok (o92_1 scr) pc)
theorem dX7_quiet_0 : decode cX7_quiet 0 = .ok (.aload_n 0, 1) := by decide +kernel
theorem dX7_quiet_1 : decode cX7_quiet 1 = .ok (.getfield 16, 3) := by decide +kernel
theorem dX7_quiet_4 : decode cX7_quiet 4 = .ok (.aload_n 0, 1) := by decide +kernel
theorem dX7_quiet_5 : decode cX7_quiet 5 = .ok (.getfield 10, 3) := by decide +kernel
theorem dX7_quiet_8 : decode cX7_quiet 8 = .ok (.invokevirtual 172, 3) := by decide +kernel
theorem dX7_quiet_11 : decode cX7_quiet 11 = .ok (.iconst 0, 1) := by decide +kernel
theorem dX7_quiet_12 : decode cX7_quiet 12 = .ok (.istore_n 1, 1) := by decide +kernel
theorem dX7_quiet_13 : decode cX7_quiet 13 = .ok (.iload_n 1, 1) := by decide +kernel
theorem dX7_quiet_14 : decode cX7_quiet 14 = .ok (.sipush 200, 3) := by decide +kernel
theorem dX7_quiet_17 : decode cX7_quiet 17 = .ok (.if_icmp .ge 21, 3) := by decide +kernel
theorem dX7_quiet_20 : decode cX7_quiet 20 = .ok (.aload_n 0, 1) := by decide +kernel
theorem dX7_quiet_21 : decode cX7_quiet 21 = .ok (.getfield 16, 3) := by decide +kernel
theorem dX7_quiet_24 : decode cX7_quiet 24 = .ok (.invokevirtual 189, 3) := by decide +kernel
theorem dX7_quiet_27 : decode cX7_quiet 27 = .ok (.ifCond .ne 5, 3) := by decide +kernel
theorem dX7_quiet_30 : decode cX7_quiet 30 = .ok (.iload_n 1, 1) := by decide +kernel
theorem dX7_quiet_31 : decode cX7_quiet 31 = .ok (.ireturn, 1) := by decide +kernel
theorem dX7_quiet_32 : decode cX7_quiet 32 = .ok (.iinc 1 1, 3) := by decide +kernel
theorem dX7_quiet_35 : decode cX7_quiet 35 = .ok (.goto (-22), 3) := by decide +kernel
theorem dX7_quiet_38 : decode cX7_quiet 38 = .ok (.aload_n 0, 1) := by decide +kernel
theorem dX7_quiet_39 : decode cX7_quiet 39 = .ok (.getfield 16, 3) := by decide +kernel
def k93_0 : List (Nat × XI) := [(0, x_aload 0 1), (1, x_getR 7 1 4), (4, x_aload 0 5), (5, x_getR 7 0 8), (8, x_inv 42 6 1 11), (11, x_push (0) 12), (12, x_istore 1 13), (13, x_iload 1 14), (14, x_push (200) 17), (17, x_icge 38 20), (20, x_aload 0 21), (21, x_getR 7 1 24), (24, x_inv 65 6 0 27), (27, x_ifne 32 30), (30, x_iload 1 31), (31, x_iret), (32, x_iinc 1 (1) 35), (35, x_goto 13), (38, x_aload 0 39), (39, x_getR 7 1 42)]
theorem o93_0 (scr : Nat × (Nat → Int32)) : ∀ q ∈ k93_0, XSnd xm scr Y93 q.1 q.2 := xcons (s_aload_n rfl dX7_quiet_0) (xcons (s_getR (f := 1) xC7 (by decide) xw_338 rfl dX7_quiet_1) (xcons (s_aload_n rfl dX7_quiet_4) (xcons (s_getR (f := 0) xC7 (by decide) xw_320 rfl dX7_quiet_5) (xcons (s_inv (mid := 42) xC6 cal_42 xw_328 xw_329 xw_330 dX7_quiet_8) (xcons (s_iconst dX7_quiet_11 rfl) (xcons (s_istore_n rfl dX7_quiet_12 (by decide)) (xcons (s_iload_n rfl dX7_quiet_13) (xcons (s_sipush dX7_quiet_14 rfl) (xcons (s_icge dX7_quiet_17 rfl) (xcons (s_aload_n rfl dX7_quiet_20) (xcons (s_getR (f := 1) xC7 (by decide) xw_338 rfl dX7_quiet_21) (xcons (s_inv (mid := 65) xC6 cal_65 xw_387 xw_284 xw_285 dX7_quiet_24) (xcons (s_ifne dX7_quiet_27 rfl) (xcons (s_iload_n rfl dX7_quiet_30) (xcons (s_iret dX7_quiet_31 rfl) (xcons (s_iinc dX7_quiet_32 rfl (by decide)) (xcons (s_goto dX7_quiet_35 rfl) (xcons (s_aload_n rfl dX7_quiet_38) (xcons (s_getR (f := 1) xC7 (by decide) xw_338 rfl dX7_quiet_39) (xnil))))))))))))))))))))
theorem dX7_quiet_42 : decode cX7_quiet 42 = .ok (.invokevirtual 193, 3) := by decide +kernel
theorem dX7_quiet_45 : decode cX7_quiet 45 = .ok (.ifCond .eq 8, 3) := by decide +kernel
theorem dX7_quiet_48 : decode cX7_quiet 48 = .ok (.bipush (-2), 2) := by decide +kernel
theorem dX7_quiet_50 : decode cX7_quiet 50 = .ok (.goto 6, 3) := by decide +kernel
theorem dX7_quiet_53 : decode cX7_quiet 53 = .ok (.sipush 200, 3) := by decide +kernel
theorem dX7_quiet_56 : decode cX7_quiet 56 = .ok (.ireturn, 1) := by decide +kernel
def k93_1 : List (Nat × XI) := [(42, x_inv 50 6 0 45), (45, x_ifeq 53 48), (48, x_push (-2) 50), (50, x_goto 56), (53, x_push (200) 56), (56, x_iret)]
theorem o93_1 (scr : Nat × (Nat → Int32)) : ∀ q ∈ k93_1, XSnd xm scr Y93 q.1 q.2 := xcons (s_inv (mid := 50) xC6 cal_50 xw_439 xw_260 xw_261 dX7_quiet_42) (xcons (s_ifeq dX7_quiet_45 rfl) (xcons (s_bipush dX7_quiet_48 rfl) (xcons (s_goto dX7_quiet_50 rfl) (xcons (s_sipush dX7_quiet_53 rfl) (xcons (s_iret dX7_quiet_56 rfl) (xnil))))))
def k93 (pc : Nat) : XI := if pc < 42 then xlk k93_0 pc else xlk k93_1 pc
theorem o93 (scr : Nat × (Nat → Int32)) (pc : Nat) : XSnd xm scr Y93 pc (k93 pc) := by
  unfold k93
  exact xite (xlk_ok (o93_0 scr) pc) (xlk_ok (o93_1 scr) pc)
theorem dX7_reach_0 : decode cX7_reach 0 = .ok (.aload_n 0, 1) := by decide +kernel
theorem dX7_reach_1 : decode cX7_reach 1 = .ok (.getfield 10, 3) := by decide +kernel
theorem dX7_reach_4 : decode cX7_reach 4 = .ok (.iload_n 1, 1) := by decide +kernel
theorem dX7_reach_5 : decode cX7_reach 5 = .ok (.invokevirtual 43, 3) := by decide +kernel
theorem dX7_reach_8 : decode cX7_reach 8 = .ok (.ifCond .eq 14, 3) := by decide +kernel
theorem dX7_reach_11 : decode cX7_reach 11 = .ok (.aload_n 0, 1) := by decide +kernel
theorem dX7_reach_12 : decode cX7_reach 12 = .ok (.getfield 10, 3) := by decide +kernel
theorem dX7_reach_15 : decode cX7_reach 15 = .ok (.iload_n 2, 1) := by decide +kernel
theorem dX7_reach_16 : decode cX7_reach 16 = .ok (.invokevirtual 43, 3) := by decide +kernel
theorem dX7_reach_19 : decode cX7_reach 19 = .ok (.ifCond .ne 5, 3) := by decide +kernel
theorem dX7_reach_22 : decode cX7_reach 22 = .ok (.iconst (-1), 1) := by decide +kernel
theorem dX7_reach_23 : decode cX7_reach 23 = .ok (.ireturn, 1) := by decide +kernel
theorem dX7_reach_24 : decode cX7_reach 24 = .ok (.iload_n 1, 1) := by decide +kernel
theorem dX7_reach_25 : decode cX7_reach 25 = .ok (.istore_n 3, 1) := by decide +kernel
theorem dX7_reach_26 : decode cX7_reach 26 = .ok (.iload_n 2, 1) := by decide +kernel
theorem dX7_reach_27 : decode cX7_reach 27 = .ok (.istore 4, 2) := by decide +kernel
theorem dX7_reach_29 : decode cX7_reach 29 = .ok (.iconst 0, 1) := by decide +kernel
theorem dX7_reach_30 : decode cX7_reach 30 = .ok (.istore 5, 2) := by decide +kernel
theorem dX7_reach_32 : decode cX7_reach 32 = .ok (.iload 5, 2) := by decide +kernel
theorem dX7_reach_34 : decode cX7_reach 34 = .ok (.bipush 24, 2) := by decide +kernel
def k94_0 : List (Nat × XI) := [(0, x_aload 0 1), (1, x_getR 7 0 4), (4, x_iload 1 5), (5, x_inv 53 6 1 8), (8, x_ifeq 22 11), (11, x_aload 0 12), (12, x_getR 7 0 15), (15, x_iload 2 16), (16, x_inv 53 6 1 19), (19, x_ifne 24 22), (22, x_push (-1) 23), (23, x_iret), (24, x_iload 1 25), (25, x_istore 3 26), (26, x_iload 2 27), (27, x_istore 4 29), (29, x_push (0) 30), (30, x_istore 5 32), (32, x_iload 5 34), (34, x_push (24) 36)]
theorem o94_0 (scr : Nat × (Nat → Int32)) : ∀ q ∈ k94_0, XSnd xm scr Y94 q.1 q.2 := xcons (s_aload_n rfl dX7_reach_0) (xcons (s_getR (f := 0) xC7 (by decide) xw_320 rfl dX7_reach_1) (xcons (s_iload_n rfl dX7_reach_4) (xcons (s_inv (mid := 53) xC6 cal_53 xw_334 xw_131 xw_132 dX7_reach_5) (xcons (s_ifeq dX7_reach_8 rfl) (xcons (s_aload_n rfl dX7_reach_11) (xcons (s_getR (f := 0) xC7 (by decide) xw_320 rfl dX7_reach_12) (xcons (s_iload_n rfl dX7_reach_15) (xcons (s_inv (mid := 53) xC6 cal_53 xw_334 xw_131 xw_132 dX7_reach_16) (xcons (s_ifne dX7_reach_19 rfl) (xcons (s_iconst dX7_reach_22 rfl) (xcons (s_iret dX7_reach_23 rfl) (xcons (s_iload_n rfl dX7_reach_24) (xcons (s_istore_n rfl dX7_reach_25 (by decide)) (xcons (s_iload_n rfl dX7_reach_26) (xcons (s_istore dX7_reach_27 (by decide)) (xcons (s_iconst dX7_reach_29 rfl) (xcons (s_istore dX7_reach_30 (by decide)) (xcons (s_iload dX7_reach_32) (xcons (s_bipush dX7_reach_34 rfl) (xnil))))))))))))))))))))
theorem dX7_reach_36 : decode cX7_reach 36 = .ok (.if_icmp .ge 81, 3) := by decide +kernel
theorem dX7_reach_39 : decode cX7_reach 39 = .ok (.aload_n 0, 1) := by decide +kernel
theorem dX7_reach_40 : decode cX7_reach 40 = .ok (.getfield 10, 3) := by decide +kernel
theorem dX7_reach_43 : decode cX7_reach 43 = .ok (.iload_n 3, 1) := by decide +kernel
theorem dX7_reach_44 : decode cX7_reach 44 = .ok (.invokevirtual 151, 3) := by decide +kernel
theorem dX7_reach_47 : decode cX7_reach 47 = .ok (.ifCond .eq 15, 3) := by decide +kernel
theorem dX7_reach_50 : decode cX7_reach 50 = .ok (.aload_n 0, 1) := by decide +kernel
theorem dX7_reach_51 : decode cX7_reach 51 = .ok (.getfield 10, 3) := by decide +kernel
theorem dX7_reach_54 : decode cX7_reach 54 = .ok (.iload 4, 2) := by decide +kernel
theorem dX7_reach_56 : decode cX7_reach 56 = .ok (.invokevirtual 151, 3) := by decide +kernel
theorem dX7_reach_59 : decode cX7_reach 59 = .ok (.ifCond .ne 6, 3) := by decide +kernel
theorem dX7_reach_62 : decode cX7_reach 62 = .ok (.bipush (-2), 2) := by decide +kernel
theorem dX7_reach_64 : decode cX7_reach 64 = .ok (.ireturn, 1) := by decide +kernel
theorem dX7_reach_65 : decode cX7_reach 65 = .ok (.iload_n 3, 1) := by decide +kernel
theorem dX7_reach_66 : decode cX7_reach 66 = .ok (.iload 4, 2) := by decide +kernel
theorem dX7_reach_68 : decode cX7_reach 68 = .ok (.if_icmp .ne 6, 3) := by decide +kernel
theorem dX7_reach_71 : decode cX7_reach 71 = .ok (.iload 5, 2) := by decide +kernel
theorem dX7_reach_73 : decode cX7_reach 73 = .ok (.ireturn, 1) := by decide +kernel
theorem dX7_reach_74 : decode cX7_reach 74 = .ok (.iload_n 3, 1) := by decide +kernel
theorem dX7_reach_75 : decode cX7_reach 75 = .ok (.iload 4, 2) := by decide +kernel
def k94_1 : List (Nat × XI) := [(36, x_icge 117 39), (39, x_aload 0 40), (40, x_getR 7 0 43), (43, x_iload 3 44), (44, x_inv 54 6 1 47), (47, x_ifeq 62 50), (50, x_aload 0 51), (51, x_getR 7 0 54), (54, x_iload 4 56), (56, x_inv 54 6 1 59), (59, x_ifne 65 62), (62, x_push (-2) 64), (64, x_iret), (65, x_iload 3 66), (66, x_iload 4 68), (68, x_icne 74 71), (71, x_iload 5 73), (73, x_iret), (74, x_iload 3 75), (75, x_iload 4 77)]
theorem o94_1 (scr : Nat × (Nat → Int32)) : ∀ q ∈ k94_1, XSnd xm scr Y94 q.1 q.2 := xcons (s_icge dX7_reach_36 rfl) (xcons (s_aload_n rfl dX7_reach_39) (xcons (s_getR (f := 0) xC7 (by decide) xw_320 rfl dX7_reach_40) (xcons (s_iload_n rfl dX7_reach_43) (xcons (s_inv (mid := 54) xC6 cal_54 xw_336 xw_135 xw_136 dX7_reach_44) (xcons (s_ifeq dX7_reach_47 rfl) (xcons (s_aload_n rfl dX7_reach_50) (xcons (s_getR (f := 0) xC7 (by decide) xw_320 rfl dX7_reach_51) (xcons (s_iload dX7_reach_54) (xcons (s_inv (mid := 54) xC6 cal_54 xw_336 xw_135 xw_136 dX7_reach_56) (xcons (s_ifne dX7_reach_59 rfl) (xcons (s_bipush dX7_reach_62 rfl) (xcons (s_iret dX7_reach_64 rfl) (xcons (s_iload_n rfl dX7_reach_65) (xcons (s_iload dX7_reach_66) (xcons (s_icne dX7_reach_68 rfl) (xcons (s_iload dX7_reach_71) (xcons (s_iret dX7_reach_73 rfl) (xcons (s_iload_n rfl dX7_reach_74) (xcons (s_iload dX7_reach_75) (xnil))))))))))))))))))))
theorem dX7_reach_77 : decode cX7_reach 77 = .ok (.if_icmp .le 19, 3) := by decide +kernel
theorem dX7_reach_80 : decode cX7_reach 80 = .ok (.aload_n 0, 1) := by decide +kernel
theorem dX7_reach_81 : decode cX7_reach 81 = .ok (.getfield 10, 3) := by decide +kernel
theorem dX7_reach_84 : decode cX7_reach 84 = .ok (.getfield 54, 3) := by decide +kernel
theorem dX7_reach_87 : decode cX7_reach 87 = .ok (.iload_n 3, 1) := by decide +kernel
theorem dX7_reach_88 : decode cX7_reach 88 = .ok (.aaload, 1) := by decide +kernel
theorem dX7_reach_89 : decode cX7_reach 89 = .ok (.getfield 70, 3) := by decide +kernel
theorem dX7_reach_92 : decode cX7_reach 92 = .ok (.istore_n 3, 1) := by decide +kernel
theorem dX7_reach_93 : decode cX7_reach 93 = .ok (.goto 18, 3) := by decide +kernel
theorem dX7_reach_96 : decode cX7_reach 96 = .ok (.aload_n 0, 1) := by decide +kernel
theorem dX7_reach_97 : decode cX7_reach 97 = .ok (.getfield 10, 3) := by decide +kernel
theorem dX7_reach_100 : decode cX7_reach 100 = .ok (.getfield 54, 3) := by decide +kernel
theorem dX7_reach_103 : decode cX7_reach 103 = .ok (.iload 4, 2) := by decide +kernel
theorem dX7_reach_105 : decode cX7_reach 105 = .ok (.aaload, 1) := by decide +kernel
theorem dX7_reach_106 : decode cX7_reach 106 = .ok (.getfield 70, 3) := by decide +kernel
theorem dX7_reach_109 : decode cX7_reach 109 = .ok (.istore 4, 2) := by decide +kernel
theorem dX7_reach_111 : decode cX7_reach 111 = .ok (.iinc 5 1, 3) := by decide +kernel
theorem dX7_reach_114 : decode cX7_reach 114 = .ok (.goto (-82), 3) := by decide +kernel
theorem dX7_reach_117 : decode cX7_reach 117 = .ok (.bipush (-2), 2) := by decide +kernel
theorem dX7_reach_119 : decode cX7_reach 119 = .ok (.ireturn, 1) := by decide +kernel
def k94_2 : List (Nat × XI) := [(77, x_icle 96 80), (80, x_aload 0 81), (81, x_getR 7 0 84), (84, x_getR 6 0 87), (87, x_iload 3 88), (88, x_aald 89), (89, x_getI 0 0 92), (92, x_istore 3 93), (93, x_goto 111), (96, x_aload 0 97), (97, x_getR 7 0 100), (100, x_getR 6 0 103), (103, x_iload 4 105), (105, x_aald 106), (106, x_getI 0 0 109), (109, x_istore 4 111), (111, x_iinc 5 (1) 114), (114, x_goto 32), (117, x_push (-2) 119), (119, x_iret)]
theorem o94_2 (scr : Nat × (Nat → Int32)) : ∀ q ∈ k94_2, XSnd xm scr Y94 q.1 q.2 := xcons (s_icle dX7_reach_77 rfl) (xcons (s_aload_n rfl dX7_reach_80) (xcons (s_getR (f := 0) xC7 (by decide) xw_320 rfl dX7_reach_81) (xcons (s_getR (f := 0) xC6 (by decide) xw_366 rfl dX7_reach_84) (xcons (s_iload_n rfl dX7_reach_87) (xcons (s_aald dX7_reach_88) (xcons (s_getI (f := 0) xC0 (by decide) xw_409 rfl dX7_reach_89) (xcons (s_istore_n rfl dX7_reach_92 (by decide)) (xcons (s_goto dX7_reach_93 rfl) (xcons (s_aload_n rfl dX7_reach_96) (xcons (s_getR (f := 0) xC7 (by decide) xw_320 rfl dX7_reach_97) (xcons (s_getR (f := 0) xC6 (by decide) xw_366 rfl dX7_reach_100) (xcons (s_iload dX7_reach_103) (xcons (s_aald dX7_reach_105) (xcons (s_getI (f := 0) xC0 (by decide) xw_409 rfl dX7_reach_106) (xcons (s_istore dX7_reach_109 (by decide)) (xcons (s_iinc dX7_reach_111 rfl (by decide)) (xcons (s_goto dX7_reach_114 rfl) (xcons (s_bipush dX7_reach_117 rfl) (xcons (s_iret dX7_reach_119 rfl) (xnil))))))))))))))))))))
def k94 (pc : Nat) : XI := if pc < 36 then xlk k94_0 pc else if pc < 77 then xlk k94_1 pc else xlk k94_2 pc
theorem o94 (scr : Nat × (Nat → Int32)) (pc : Nat) : XSnd xm scr Y94 pc (k94 pc) := by
  unfold k94
  exact xite (xlk_ok (o94_0 scr) pc) (xite (xlk_ok (o94_1 scr) pc) (xlk_ok (o94_2 scr) pc))
theorem dX7_row_0 : decode cX7_row 0 = .ok (.iload_n 1, 1) := by decide +kernel
theorem dX7_row_1 : decode cX7_row 1 = .ok (.invokestatic 232, 3) := by decide +kernel
theorem dX7_row_4 : decode cX7_row 4 = .ok (.ifCond .eq 9, 3) := by decide +kernel
theorem dX7_row_7 : decode cX7_row 7 = .ok (.iload_n 2, 1) := by decide +kernel
theorem dX7_row_8 : decode cX7_row 8 = .ok (.bipush 60, 2) := by decide +kernel
theorem dX7_row_10 : decode cX7_row 10 = .ok (.if_icmp .le 5, 3) := by decide +kernel
theorem dX7_row_13 : decode cX7_row 13 = .ok (.iconst (-1), 1) := by decide +kernel
theorem dX7_row_14 : decode cX7_row 14 = .ok (.ireturn, 1) := by decide +kernel
theorem dX7_row_15 : decode cX7_row 15 = .ok (.iload_n 2, 1) := by decide +kernel
theorem dX7_row_16 : decode cX7_row 16 = .ok (.ifCond .ge 6, 3) := by decide +kernel
theorem dX7_row_19 : decode cX7_row 19 = .ok (.bipush (-14), 2) := by decide +kernel
theorem dX7_row_21 : decode cX7_row 21 = .ok (.ireturn, 1) := by decide +kernel
theorem dX7_row_22 : decode cX7_row 22 = .ok (.aload_n 0, 1) := by decide +kernel
theorem dX7_row_23 : decode cX7_row 23 = .ok (.getfield 34, 3) := by decide +kernel
theorem dX7_row_26 : decode cX7_row 26 = .ok (.iload_n 1, 1) := by decide +kernel
theorem dX7_row_27 : decode cX7_row 27 = .ok (.aaload, 1) := by decide +kernel
theorem dX7_row_28 : decode cX7_row 28 = .ok (.iconst 2, 1) := by decide +kernel
theorem dX7_row_29 : decode cX7_row 29 = .ok (.putfield 235, 3) := by decide +kernel
theorem dX7_row_32 : decode cX7_row 32 = .ok (.aload_n 0, 1) := by decide +kernel
theorem dX7_row_33 : decode cX7_row 33 = .ok (.getfield 34, 3) := by decide +kernel
def k95_0 : List (Nat × XI) := [(0, x_iload 1 1), (1, x_invS 84 1 4), (4, x_ifeq 13 7), (7, x_iload 2 8), (8, x_push (60) 10), (10, x_icle 15 13), (13, x_push (-1) 14), (14, x_iret), (15, x_iload 2 16), (16, x_ifge 22 19), (19, x_push (-14) 21), (21, x_iret), (22, x_aload 0 23), (23, x_getR 7 5 26), (26, x_iload 1 27), (27, x_aald 28), (28, x_push (2) 29), (29, x_putI 1 1 32), (32, x_aload 0 33), (33, x_getR 7 5 36)]
theorem o95_0 (scr : Nat × (Nat → Int32)) : ∀ q ∈ k95_0, XSnd xm scr Y95 q.1 q.2 := xcons (s_iload_n rfl dX7_row_0) (xcons (s_invS (mid := 84) cal_84 xw_389 xw_390 dX7_row_1) (xcons (s_ifeq dX7_row_4 rfl) (xcons (s_iload_n rfl dX7_row_7) (xcons (s_bipush dX7_row_8 rfl) (xcons (s_icle dX7_row_10 rfl) (xcons (s_iconst dX7_row_13 rfl) (xcons (s_iret dX7_row_14 rfl) (xcons (s_iload_n rfl dX7_row_15) (xcons (s_ifge dX7_row_16 rfl) (xcons (s_bipush dX7_row_19 rfl) (xcons (s_iret dX7_row_21 rfl) (xcons (s_aload_n rfl dX7_row_22) (xcons (s_getR (f := 5) xC7 (by decide) xw_331 rfl dX7_row_23) (xcons (s_iload_n rfl dX7_row_26) (xcons (s_aald dX7_row_27) (xcons (s_iconst dX7_row_28 rfl) (xcons (s_putI (f := 1) xC1 (by decide) xw_332 rfl (Or.inl rfl) dX7_row_29) (xcons (s_aload_n rfl dX7_row_32) (xcons (s_getR (f := 5) xC7 (by decide) xw_331 rfl dX7_row_33) (xnil))))))))))))))))))))
theorem dX7_row_36 : decode cX7_row 36 = .ok (.iload_n 1, 1) := by decide +kernel
theorem dX7_row_37 : decode cX7_row 37 = .ok (.aaload, 1) := by decide +kernel
theorem dX7_row_38 : decode cX7_row 38 = .ok (.getfield 238, 3) := by decide +kernel
theorem dX7_row_41 : decode cX7_row 41 = .ok (.iload_n 2, 1) := by decide +kernel
theorem dX7_row_42 : decode cX7_row 42 = .ok (.invokevirtual 250, 3) := by decide +kernel
theorem dX7_row_45 : decode cX7_row 45 = .ok (.iconst 1, 1) := by decide +kernel
theorem dX7_row_46 : decode cX7_row 46 = .ok (.ireturn, 1) := by decide +kernel
def k95_1 : List (Nat × XI) := [(36, x_iload 1 37), (37, x_aald 38), (38, x_getR 1 0 41), (41, x_iload 2 42), (42, x_inv 10 2 1 45), (45, x_push (1) 46), (46, x_iret)]
theorem o95_1 (scr : Nat × (Nat → Int32)) : ∀ q ∈ k95_1, XSnd xm scr Y95 q.1 q.2 := xcons (s_iload_n rfl dX7_row_36) (xcons (s_aald dX7_row_37) (xcons (s_getR (f := 0) xC1 (by decide) xw_430 rfl dX7_row_38) (xcons (s_iload_n rfl dX7_row_41) (xcons (s_inv (mid := 10) xC2 cal_10 xw_441 xw_442 xw_443 dX7_row_42) (xcons (s_iconst dX7_row_45 rfl) (xcons (s_iret dX7_row_46 rfl) (xnil)))))))
def k95 (pc : Nat) : XI := if pc < 36 then xlk k95_0 pc else xlk k95_1 pc
theorem o95 (scr : Nat × (Nat → Int32)) (pc : Nat) : XSnd xm scr Y95 pc (k95 pc) := by
  unfold k95
  exact xite (xlk_ok (o95_0 scr) pc) (xlk_ok (o95_1 scr) pc)
theorem dX7_run_0 : decode cX7_run 0 = .ok (.iload_n 1, 1) := by decide +kernel
theorem dX7_run_1 : decode cX7_run 1 = .ok (.invokestatic 157, 3) := by decide +kernel
theorem dX7_run_4 : decode cX7_run 4 = .ok (.ifCond .eq 14, 3) := by decide +kernel
theorem dX7_run_7 : decode cX7_run 7 = .ok (.aload_n 0, 1) := by decide +kernel
theorem dX7_run_8 : decode cX7_run 8 = .ok (.getfield 10, 3) := by decide +kernel
theorem dX7_run_11 : decode cX7_run 11 = .ok (.iload_n 1, 1) := by decide +kernel
theorem dX7_run_12 : decode cX7_run 12 = .ok (.invokevirtual 160, 3) := by decide +kernel
theorem dX7_run_15 : decode cX7_run 15 = .ok (.goto 4, 3) := by decide +kernel
theorem dX7_run_18 : decode cX7_run 18 = .ok (.iconst (-1), 1) := by decide +kernel
theorem dX7_run_19 : decode cX7_run 19 = .ok (.ireturn, 1) := by decide +kernel
def k96_0 : List (Nat × XI) := [(0, x_iload 1 1), (1, x_invS 86 1 4), (4, x_ifeq 18 7), (7, x_aload 0 8), (8, x_getR 7 0 11), (11, x_iload 1 12), (12, x_inv 60 6 1 15), (15, x_goto 19), (18, x_push (-1) 19), (19, x_iret)]
theorem o96_0 (scr : Nat × (Nat → Int32)) : ∀ q ∈ k96_0, XSnd xm scr Y96 q.1 q.2 := xcons (s_iload_n rfl dX7_run_0) (xcons (s_invS (mid := 86) cal_86 xw_378 xw_379 dX7_run_1) (xcons (s_ifeq dX7_run_4 rfl) (xcons (s_aload_n rfl dX7_run_7) (xcons (s_getR (f := 0) xC7 (by decide) xw_320 rfl dX7_run_8) (xcons (s_iload_n rfl dX7_run_11) (xcons (s_inv (mid := 60) xC6 cal_60 xw_381 xw_382 xw_383 dX7_run_12) (xcons (s_goto dX7_run_15 rfl) (xcons (s_iconst dX7_run_18 rfl) (xcons (s_iret dX7_run_19 rfl) (xnil))))))))))
def k96 (pc : Nat) : XI := xlk k96_0 pc
theorem o96 (scr : Nat × (Nat → Int32)) (pc : Nat) : XSnd xm scr Y96 pc (k96 pc) := by
  unfold k96
  exact xlk_ok (o96_0 scr) pc
theorem dX7_script_0 : decode cX7_script 0 = .ok (.aload_n 0, 1) := by decide +kernel
theorem dX7_script_1 : decode cX7_script 1 = .ok (.getfield 28, 3) := by decide +kernel
theorem dX7_script_4 : decode cX7_script 4 = .ok (.invokevirtual 213, 3) := by decide +kernel
theorem dX7_script_7 : decode cX7_script 7 = .ok (.istore_n 1, 1) := by decide +kernel
theorem dX7_script_8 : decode cX7_script 8 = .ok (.iload_n 1, 1) := by decide +kernel
theorem dX7_script_9 : decode cX7_script 9 = .ok (.iconst (-1), 1) := by decide +kernel
theorem dX7_script_10 : decode cX7_script 10 = .ok (.if_icmp .eq 20, 3) := by decide +kernel
theorem dX7_script_13 : decode cX7_script 13 = .ok (.aload_n 0, 1) := by decide +kernel
theorem dX7_script_14 : decode cX7_script 14 = .ok (.getfield 28, 3) := by decide +kernel
theorem dX7_script_17 : decode cX7_script 17 = .ok (.getfield 207, 3) := by decide +kernel
theorem dX7_script_20 : decode cX7_script 20 = .ok (.iconst 0, 1) := by decide +kernel
theorem dX7_script_21 : decode cX7_script 21 = .ok (.putfield 93, 3) := by decide +kernel
theorem dX7_script_24 : decode cX7_script 24 = .ok (.sipush (-1000), 3) := by decide +kernel
theorem dX7_script_27 : decode cX7_script 27 = .ok (.iload_n 1, 1) := by decide +kernel
theorem dX7_script_28 : decode cX7_script 28 = .ok (.isub, 1) := by decide +kernel
theorem dX7_script_29 : decode cX7_script 29 = .ok (.ireturn, 1) := by decide +kernel
theorem dX7_script_30 : decode cX7_script 30 = .ok (.aload_n 0, 1) := by decide +kernel
theorem dX7_script_31 : decode cX7_script 31 = .ok (.getfield 22, 3) := by decide +kernel
theorem dX7_script_34 : decode cX7_script 34 = .ok (.aload_n 0, 1) := by decide +kernel
theorem dX7_script_35 : decode cX7_script 35 = .ok (.getfield 10, 3) := by decide +kernel
def k97_0 : List (Nat × XI) := [(0, x_aload 0 1), (1, x_getR 7 4 4), (4, x_inv 23 4 0 7), (7, x_istore 1 8), (8, x_iload 1 9), (9, x_push (-1) 10), (10, x_iceq 30 13), (13, x_aload 0 14), (14, x_getR 7 4 17), (17, x_getR 4 0 20), (20, x_push (0) 21), (21, x_putI 2 1 24), (24, x_push (-1000) 27), (27, x_iload 1 28), (28, x_isub 29), (29, x_iret), (30, x_aload 0 31), (31, x_getR 7 3 34), (34, x_aload 0 35), (35, x_getR 7 0 38)]
theorem o97_0 (scr : Nat × (Nat → Int32)) : ∀ q ∈ k97_0, XSnd xm scr Y97 q.1 q.2 := xcons (s_aload_n rfl dX7_script_0) (xcons (s_getR (f := 4) xC7 (by decide) xw_363 rfl dX7_script_1) (xcons (s_inv (mid := 23) xC4 cal_23 xw_445 xw_446 xw_447 dX7_script_4) (xcons (s_istore_n rfl dX7_script_7 (by decide)) (xcons (s_iload_n rfl dX7_script_8) (xcons (s_iconst dX7_script_9 rfl) (xcons (s_iceq dX7_script_10 rfl) (xcons (s_aload_n rfl dX7_script_13) (xcons (s_getR (f := 4) xC7 (by decide) xw_363 rfl dX7_script_14) (xcons (s_getR (f := 0) xC4 (by decide) xw_364 rfl dX7_script_17) (xcons (s_iconst dX7_script_20 rfl) (xcons (s_putI (f := 1) xC2 (by decide) xw_365 rfl (Or.inl rfl) dX7_script_21) (xcons (s_sipush dX7_script_24 rfl) (xcons (s_iload_n rfl dX7_script_27) (xcons (s_isub dX7_script_28) (xcons (s_iret dX7_script_29 rfl) (xcons (s_aload_n rfl dX7_script_30) (xcons (s_getR (f := 3) xC7 (by decide) xw_397 rfl dX7_script_31) (xcons (s_aload_n rfl dX7_script_34) (xcons (s_getR (f := 0) xC7 (by decide) xw_320 rfl dX7_script_35) (xnil))))))))))))))))))))
theorem dX7_script_38 : decode cX7_script 38 = .ok (.invokevirtual 172, 3) := by decide +kernel
theorem dX7_script_41 : decode cX7_script 41 = .ok (.aload_n 0, 1) := by decide +kernel
theorem dX7_script_42 : decode cX7_script 42 = .ok (.getfield 28, 3) := by decide +kernel
theorem dX7_script_45 : decode cX7_script 45 = .ok (.iconst 0, 1) := by decide +kernel
theorem dX7_script_46 : decode cX7_script 46 = .ok (.putfield 216, 3) := by decide +kernel
theorem dX7_script_49 : decode cX7_script 49 = .ok (.iconst 0, 1) := by decide +kernel
theorem dX7_script_50 : decode cX7_script 50 = .ok (.istore_n 2, 1) := by decide +kernel
theorem dX7_script_51 : decode cX7_script 51 = .ok (.iload_n 2, 1) := by decide +kernel
theorem dX7_script_52 : decode cX7_script 52 = .ok (.ifCond .lt 56, 3) := by decide +kernel
theorem dX7_script_55 : decode cX7_script 55 = .ok (.iload_n 2, 1) := by decide +kernel
theorem dX7_script_56 : decode cX7_script 56 = .ok (.bipush 120, 2) := by decide +kernel
theorem dX7_script_58 : decode cX7_script 58 = .ok (.if_icmp .ge 50, 3) := by decide +kernel
theorem dX7_script_61 : decode cX7_script 61 = .ok (.aload_n 0, 1) := by decide +kernel
theorem dX7_script_62 : decode cX7_script 62 = .ok (.getfield 28, 3) := by decide +kernel
theorem dX7_script_65 : decode cX7_script 65 = .ok (.invokevirtual 219, 3) := by decide +kernel
theorem dX7_script_68 : decode cX7_script 68 = .ok (.ifCond .ne 40, 3) := by decide +kernel
theorem dX7_script_71 : decode cX7_script 71 = .ok (.aload_n 0, 1) := by decide +kernel
theorem dX7_script_72 : decode cX7_script 72 = .ok (.invokevirtual 222, 3) := by decide +kernel
theorem dX7_script_75 : decode cX7_script 75 = .ok (.istore_n 3, 1) := by decide +kernel
theorem dX7_script_76 : decode cX7_script 76 = .ok (.iload_n 3, 1) := by decide +kernel
def k97_1 : List (Nat × XI) := [(38, x_inv 42 6 1 41), (41, x_aload 0 42), (42, x_getR 7 4 45), (45, x_push (0) 46), (46, x_putI 4 3 49), (49, x_push (0) 50), (50, x_istore 2 51), (51, x_iload 2 52), (52, x_iflt 108 55), (55, x_iload 2 56), (56, x_push (120) 58), (58, x_icge 108 61), (61, x_aload 0 62), (62, x_getR 7 4 65), (65, x_inv 27 4 0 68), (68, x_ifne 108 71), (71, x_aload 0 72), (72, x_inv 74 7 0 75), (75, x_istore 3 76), (76, x_iload 3 77)]
theorem o97_1 (scr : Nat × (Nat → Int32)) : ∀ q ∈ k97_1, XSnd xm scr Y97 q.1 q.2 := xcons (s_inv (mid := 42) xC6 cal_42 xw_328 xw_329 xw_330 dX7_script_38) (xcons (s_aload_n rfl dX7_script_41) (xcons (s_getR (f := 4) xC7 (by decide) xw_363 rfl dX7_script_42) (xcons (s_iconst dX7_script_45 rfl) (xcons (s_putI (f := 3) xC4 (by decide) xw_369 rfl (Or.inl rfl) dX7_script_46) (xcons (s_iconst dX7_script_49 rfl) (xcons (s_istore_n rfl dX7_script_50 (by decide)) (xcons (s_iload_n rfl dX7_script_51) (xcons (s_iflt dX7_script_52 rfl) (xcons (s_iload_n rfl dX7_script_55) (xcons (s_bipush dX7_script_56 rfl) (xcons (s_icge dX7_script_58 rfl) (xcons (s_aload_n rfl dX7_script_61) (xcons (s_getR (f := 4) xC7 (by decide) xw_363 rfl dX7_script_62) (xcons (s_inv (mid := 27) xC4 cal_27 xw_448 xw_88 xw_89 dX7_script_65) (xcons (s_ifne dX7_script_68 rfl) (xcons (s_aload_n rfl dX7_script_71) (xcons (s_inv (mid := 74) xC7 cal_74 xw_450 xw_451 xw_452 dX7_script_72) (xcons (s_istore_n rfl dX7_script_75 (by decide)) (xcons (s_iload_n rfl dX7_script_76) (xnil))))))))))))))))))))
theorem dX7_script_77 : decode cX7_script 77 = .ok (.ifCond .le 12, 3) := by decide +kernel
theorem dX7_script_80 : decode cX7_script 80 = .ok (.aload_n 0, 1) := by decide +kernel
theorem dX7_script_81 : decode cX7_script 81 = .ok (.getfield 10, 3) := by decide +kernel
theorem dX7_script_84 : decode cX7_script 84 = .ok (.iload_n 3, 1) := by decide +kernel
theorem dX7_script_85 : decode cX7_script 85 = .ok (.invokevirtual 160, 3) := by decide +kernel
theorem dX7_script_88 : decode cX7_script 88 = .ok (.pop, 1) := by decide +kernel
theorem dX7_script_89 : decode cX7_script 89 = .ok (.iload_n 3, 1) := by decide +kernel
theorem dX7_script_90 : decode cX7_script 90 = .ok (.ifCond .ge 11, 3) := by decide +kernel
theorem dX7_script_93 : decode cX7_script 93 = .ok (.sipush (-2000), 3) := by decide +kernel
theorem dX7_script_96 : decode cX7_script 96 = .ok (.iload_n 2, 1) := by decide +kernel
theorem dX7_script_97 : decode cX7_script 97 = .ok (.isub, 1) := by decide +kernel
theorem dX7_script_98 : decode cX7_script 98 = .ok (.goto 6, 3) := by decide +kernel
theorem dX7_script_101 : decode cX7_script 101 = .ok (.iload_n 2, 1) := by decide +kernel
theorem dX7_script_102 : decode cX7_script 102 = .ok (.iconst 1, 1) := by decide +kernel
theorem dX7_script_103 : decode cX7_script 103 = .ok (.iadd, 1) := by decide +kernel
theorem dX7_script_104 : decode cX7_script 104 = .ok (.istore_n 2, 1) := by decide +kernel
theorem dX7_script_105 : decode cX7_script 105 = .ok (.goto (-54), 3) := by decide +kernel
theorem dX7_script_108 : decode cX7_script 108 = .ok (.iload_n 2, 1) := by decide +kernel
theorem dX7_script_109 : decode cX7_script 109 = .ok (.ifCond .ge 14, 3) := by decide +kernel
theorem dX7_script_112 : decode cX7_script 112 = .ok (.aload_n 0, 1) := by decide +kernel
def k97_2 : List (Nat × XI) := [(77, x_ifle 89 80), (80, x_aload 0 81), (81, x_getR 7 0 84), (84, x_iload 3 85), (85, x_inv 60 6 1 88), (88, x_pop 89), (89, x_iload 3 90), (90, x_ifge 101 93), (93, x_push (-2000) 96), (96, x_iload 2 97), (97, x_isub 98), (98, x_goto 104), (101, x_iload 2 102), (102, x_push (1) 103), (103, x_iadd 104), (104, x_istore 2 105), (105, x_goto 51), (108, x_iload 2 109), (109, x_ifge 123 112), (112, x_aload 0 113)]
theorem o97_2 (scr : Nat × (Nat → Int32)) : ∀ q ∈ k97_2, XSnd xm scr Y97 q.1 q.2 := xcons (s_ifle dX7_script_77 rfl) (xcons (s_aload_n rfl dX7_script_80) (xcons (s_getR (f := 0) xC7 (by decide) xw_320 rfl dX7_script_81) (xcons (s_iload_n rfl dX7_script_84) (xcons (s_inv (mid := 60) xC6 cal_60 xw_381 xw_382 xw_383 dX7_script_85) (xcons (s_pop dX7_script_88) (xcons (s_iload_n rfl dX7_script_89) (xcons (s_ifge dX7_script_90 rfl) (xcons (s_sipush dX7_script_93 rfl) (xcons (s_iload_n rfl dX7_script_96) (xcons (s_isub dX7_script_97) (xcons (s_goto dX7_script_98 rfl) (xcons (s_iload_n rfl dX7_script_101) (xcons (s_iconst dX7_script_102 rfl) (xcons (s_iadd dX7_script_103) (xcons (s_istore_n rfl dX7_script_104 (by decide)) (xcons (s_goto dX7_script_105 rfl) (xcons (s_iload_n rfl dX7_script_108) (xcons (s_ifge dX7_script_109 rfl) (xcons (s_aload_n rfl dX7_script_112) (xnil))))))))))))))))))))
theorem dX7_script_113 : decode cX7_script 113 = .ok (.getfield 10, 3) := by decide +kernel
theorem dX7_script_116 : decode cX7_script 116 = .ok (.aload_n 0, 1) := by decide +kernel
theorem dX7_script_117 : decode cX7_script 117 = .ok (.getfield 22, 3) := by decide +kernel
theorem dX7_script_120 : decode cX7_script 120 = .ok (.invokevirtual 172, 3) := by decide +kernel
theorem dX7_script_123 : decode cX7_script 123 = .ok (.aload_n 0, 1) := by decide +kernel
theorem dX7_script_124 : decode cX7_script 124 = .ok (.getfield 28, 3) := by decide +kernel
theorem dX7_script_127 : decode cX7_script 127 = .ok (.getfield 207, 3) := by decide +kernel
theorem dX7_script_130 : decode cX7_script 130 = .ok (.iconst 0, 1) := by decide +kernel
theorem dX7_script_131 : decode cX7_script 131 = .ok (.putfield 93, 3) := by decide +kernel
theorem dX7_script_134 : decode cX7_script 134 = .ok (.iload_n 2, 1) := by decide +kernel
theorem dX7_script_135 : decode cX7_script 135 = .ok (.ireturn, 1) := by decide +kernel
def k97_3 : List (Nat × XI) := [(113, x_getR 7 0 116), (116, x_aload 0 117), (117, x_getR 7 3 120), (120, x_inv 42 6 1 123), (123, x_aload 0 124), (124, x_getR 7 4 127), (127, x_getR 4 0 130), (130, x_push (0) 131), (131, x_putI 2 1 134), (134, x_iload 2 135), (135, x_iret)]
theorem o97_3 (scr : Nat × (Nat → Int32)) : ∀ q ∈ k97_3, XSnd xm scr Y97 q.1 q.2 := xcons (s_getR (f := 0) xC7 (by decide) xw_320 rfl dX7_script_113) (xcons (s_aload_n rfl dX7_script_116) (xcons (s_getR (f := 3) xC7 (by decide) xw_397 rfl dX7_script_117) (xcons (s_inv (mid := 42) xC6 cal_42 xw_328 xw_329 xw_330 dX7_script_120) (xcons (s_aload_n rfl dX7_script_123) (xcons (s_getR (f := 4) xC7 (by decide) xw_363 rfl dX7_script_124) (xcons (s_getR (f := 0) xC4 (by decide) xw_364 rfl dX7_script_127) (xcons (s_iconst dX7_script_130 rfl) (xcons (s_putI (f := 1) xC2 (by decide) xw_365 rfl (Or.inl rfl) dX7_script_131) (xcons (s_iload_n rfl dX7_script_134) (xcons (s_iret dX7_script_135 rfl) (xnil)))))))))))
def k97 (pc : Nat) : XI := if pc < 77 then if pc < 38 then xlk k97_0 pc else xlk k97_1 pc else if pc < 113 then xlk k97_2 pc else xlk k97_3 pc
theorem o97 (scr : Nat × (Nat → Int32)) (pc : Nat) : XSnd xm scr Y97 pc (k97 pc) := by
  unfold k97
  exact xite (xite (xlk_ok (o97_0 scr) pc) (xlk_ok (o97_1 scr) pc)) (xite (xlk_ok (o97_2 scr) pc) (xlk_ok (o97_3 scr) pc))
theorem dX7_seed_0 : decode cX7_seed 0 = .ok (.aload_n 0, 1) := by decide +kernel
theorem dX7_seed_1 : decode cX7_seed 1 = .ok (.getfield 10, 3) := by decide +kernel
theorem dX7_seed_4 : decode cX7_seed 4 = .ok (.getfield 228, 3) := by decide +kernel
theorem dX7_seed_7 : decode cX7_seed 7 = .ok (.istore_n 2, 1) := by decide +kernel
theorem dX7_seed_8 : decode cX7_seed 8 = .ok (.aload_n 0, 1) := by decide +kernel
theorem dX7_seed_9 : decode cX7_seed 9 = .ok (.getfield 10, 3) := by decide +kernel
theorem dX7_seed_12 : decode cX7_seed 12 = .ok (.iload_n 1, 1) := by decide +kernel
theorem dX7_seed_13 : decode cX7_seed 13 = .ok (.putfield 228, 3) := by decide +kernel
theorem dX7_seed_16 : decode cX7_seed 16 = .ok (.iload_n 2, 1) := by decide +kernel
theorem dX7_seed_17 : decode cX7_seed 17 = .ok (.ireturn, 1) := by decide +kernel
def k98_0 : List (Nat × XI) := [(0, x_aload 0 1), (1, x_getR 7 0 4), (4, x_getI 6 9 7), (7, x_istore 2 8), (8, x_aload 0 9), (9, x_getR 7 0 12), (12, x_iload 1 13), (13, x_putI 6 9 16), (16, x_iload 2 17), (17, x_iret)]
theorem o98_0 (scr : Nat × (Nat → Int32)) : ∀ q ∈ k98_0, XSnd xm scr Y98 q.1 q.2 := xcons (s_aload_n rfl dX7_seed_0) (xcons (s_getR (f := 0) xC7 (by decide) xw_320 rfl dX7_seed_1) (xcons (s_getI (f := 9) xC6 (by decide) xw_374 rfl dX7_seed_4) (xcons (s_istore_n rfl dX7_seed_7 (by decide)) (xcons (s_aload_n rfl dX7_seed_8) (xcons (s_getR (f := 0) xC7 (by decide) xw_320 rfl dX7_seed_9) (xcons (s_iload_n rfl dX7_seed_12) (xcons (s_putI (f := 9) xC6 (by decide) xw_374 rfl (Or.inl rfl) dX7_seed_13) (xcons (s_iload_n rfl dX7_seed_16) (xcons (s_iret dX7_seed_17 rfl) (xnil))))))))))
def k98 (pc : Nat) : XI := xlk k98_0 pc
theorem o98 (scr : Nat × (Nat → Int32)) (pc : Nat) : XSnd xm scr Y98 pc (k98 pc) := by
  unfold k98
  exact xlk_ok (o98_0 scr) pc
theorem dX7_sender_0 : decode cX7_sender 0 = .ok (.aload_n 0, 1) := by decide +kernel
theorem dX7_sender_1 : decode cX7_sender 1 = .ok (.getfield 10, 3) := by decide +kernel
theorem dX7_sender_4 : decode cX7_sender 4 = .ok (.iload_n 1, 1) := by decide +kernel
theorem dX7_sender_5 : decode cX7_sender 5 = .ok (.invokevirtual 43, 3) := by decide +kernel
theorem dX7_sender_8 : decode cX7_sender 8 = .ok (.ifCond .eq 7, 3) := by decide +kernel
theorem dX7_sender_11 : decode cX7_sender 11 = .ok (.iload_n 2, 1) := by decide +kernel
theorem dX7_sender_12 : decode cX7_sender 12 = .ok (.ifCond .ge 6, 3) := by decide +kernel
theorem dX7_sender_15 : decode cX7_sender 15 = .ok (.bipush (-2), 2) := by decide +kernel
theorem dX7_sender_17 : decode cX7_sender 17 = .ok (.ireturn, 1) := by decide +kernel
theorem dX7_sender_18 : decode cX7_sender 18 = .ok (.iload_n 3, 1) := by decide +kernel
theorem dX7_sender_19 : decode cX7_sender 19 = .ok (.ifCond .eq 18, 3) := by decide +kernel
theorem dX7_sender_22 : decode cX7_sender 22 = .ok (.aload_n 0, 1) := by decide +kernel
theorem dX7_sender_23 : decode cX7_sender 23 = .ok (.getfield 10, 3) := by decide +kernel
theorem dX7_sender_26 : decode cX7_sender 26 = .ok (.getfield 54, 3) := by decide +kernel
theorem dX7_sender_29 : decode cX7_sender 29 = .ok (.iload_n 1, 1) := by decide +kernel
theorem dX7_sender_30 : decode cX7_sender 30 = .ok (.aaload, 1) := by decide +kernel
theorem dX7_sender_31 : decode cX7_sender 31 = .ok (.getfield 100, 3) := by decide +kernel
theorem dX7_sender_34 : decode cX7_sender 34 = .ok (.goto 15, 3) := by decide +kernel
theorem dX7_sender_37 : decode cX7_sender 37 = .ok (.aload_n 0, 1) := by decide +kernel
theorem dX7_sender_38 : decode cX7_sender 38 = .ok (.getfield 10, 3) := by decide +kernel
def k99_0 : List (Nat × XI) := [(0, x_aload 0 1), (1, x_getR 7 0 4), (4, x_iload 1 5), (5, x_inv 53 6 1 8), (8, x_ifeq 15 11), (11, x_iload 2 12), (12, x_ifge 18 15), (15, x_push (-2) 17), (17, x_iret), (18, x_iload 3 19), (19, x_ifeq 37 22), (22, x_aload 0 23), (23, x_getR 7 0 26), (26, x_getR 6 0 29), (29, x_iload 1 30), (30, x_aald 31), (31, x_getR 0 9 34), (34, x_goto 49), (37, x_aload 0 38), (38, x_getR 7 0 41)]
theorem o99_0 (scr : Nat × (Nat → Int32)) : ∀ q ∈ k99_0, XSnd xm scr Y99 q.1 q.2 := xcons (s_aload_n rfl dX7_sender_0) (xcons (s_getR (f := 0) xC7 (by decide) xw_320 rfl dX7_sender_1) (xcons (s_iload_n rfl dX7_sender_4) (xcons (s_inv (mid := 53) xC6 cal_53 xw_334 xw_131 xw_132 dX7_sender_5) (xcons (s_ifeq dX7_sender_8 rfl) (xcons (s_iload_n rfl dX7_sender_11) (xcons (s_ifge dX7_sender_12 rfl) (xcons (s_bipush dX7_sender_15 rfl) (xcons (s_iret dX7_sender_17 rfl) (xcons (s_iload_n rfl dX7_sender_18) (xcons (s_ifeq dX7_sender_19 rfl) (xcons (s_aload_n rfl dX7_sender_22) (xcons (s_getR (f := 0) xC7 (by decide) xw_320 rfl dX7_sender_23) (xcons (s_getR (f := 0) xC6 (by decide) xw_366 rfl dX7_sender_26) (xcons (s_iload_n rfl dX7_sender_29) (xcons (s_aald dX7_sender_30) (xcons (s_getR (f := 9) xC0 (by decide) xw_407 rfl dX7_sender_31) (xcons (s_goto dX7_sender_34 rfl) (xcons (s_aload_n rfl dX7_sender_37) (xcons (s_getR (f := 0) xC7 (by decide) xw_320 rfl dX7_sender_38) (xnil))))))))))))))))))))
theorem dX7_sender_41 : decode cX7_sender 41 = .ok (.getfield 54, 3) := by decide +kernel
theorem dX7_sender_44 : decode cX7_sender 44 = .ok (.iload_n 1, 1) := by decide +kernel
theorem dX7_sender_45 : decode cX7_sender 45 = .ok (.aaload, 1) := by decide +kernel
theorem dX7_sender_46 : decode cX7_sender 46 = .ok (.getfield 58, 3) := by decide +kernel
theorem dX7_sender_49 : decode cX7_sender 49 = .ok (.astore 4, 2) := by decide +kernel
theorem dX7_sender_51 : decode cX7_sender 51 = .ok (.iload_n 2, 1) := by decide +kernel
theorem dX7_sender_52 : decode cX7_sender 52 = .ok (.aload 4, 2) := by decide +kernel
theorem dX7_sender_54 : decode cX7_sender 54 = .ok (.getfield 64, 3) := by decide +kernel
theorem dX7_sender_57 : decode cX7_sender 57 = .ok (.if_icmp .ge 12, 3) := by decide +kernel
theorem dX7_sender_60 : decode cX7_sender 60 = .ok (.aload 4, 2) := by decide +kernel
theorem dX7_sender_62 : decode cX7_sender 62 = .ok (.iload_n 2, 1) := by decide +kernel
theorem dX7_sender_63 : decode cX7_sender 63 = .ok (.invokevirtual 134, 3) := by decide +kernel
theorem dX7_sender_66 : decode cX7_sender 66 = .ok (.goto 5, 3) := by decide +kernel
theorem dX7_sender_69 : decode cX7_sender 69 = .ok (.bipush (-2), 2) := by decide +kernel
theorem dX7_sender_71 : decode cX7_sender 71 = .ok (.ireturn, 1) := by decide +kernel
def k99_1 : List (Nat × XI) := [(41, x_getR 6 0 44), (44, x_iload 1 45), (45, x_aald 46), (46, x_getR 0 8 49), (49, x_astore 4 51), (51, x_iload 2 52), (52, x_aload 4 54), (54, x_getI 3 2 57), (57, x_icge 69 60), (60, x_aload 4 62), (62, x_iload 2 63), (63, x_inv 18 3 1 66), (66, x_goto 71), (69, x_push (-2) 71), (71, x_iret)]
theorem o99_1 (scr : Nat × (Nat → Int32)) : ∀ q ∈ k99_1, XSnd xm scr Y99 q.1 q.2 := xcons (s_getR (f := 0) xC6 (by decide) xw_366 rfl dX7_sender_41) (xcons (s_iload_n rfl dX7_sender_44) (xcons (s_aald dX7_sender_45) (xcons (s_getR (f := 8) xC0 (by decide) xw_408 rfl dX7_sender_46) (xcons (s_astore dX7_sender_49 (by decide)) (xcons (s_iload_n rfl dX7_sender_51) (xcons (s_aload dX7_sender_52) (xcons (s_getI (f := 2) xC3 (by decide) xw_346 rfl dX7_sender_54) (xcons (s_icge dX7_sender_57 rfl) (xcons (s_aload dX7_sender_60) (xcons (s_iload_n rfl dX7_sender_62) (xcons (s_inv (mid := 18) xC3 cal_18 xw_347 xw_293 xw_294 dX7_sender_63) (xcons (s_goto dX7_sender_66 rfl) (xcons (s_bipush dX7_sender_69 rfl) (xcons (s_iret dX7_sender_71 rfl) (xnil)))))))))))))))
def k99 (pc : Nat) : XI := if pc < 41 then xlk k99_0 pc else xlk k99_1 pc
theorem o99 (scr : Nat × (Nat → Int32)) (pc : Nat) : XSnd xm scr Y99 pc (k99 pc) := by
  unfold k99
  exact xite (xlk_ok (o99_0 scr) pc) (xlk_ok (o99_1 scr) pc)
theorem dX7_stack_0 : decode cX7_stack 0 = .ok (.aload_n 0, 1) := by decide +kernel
theorem dX7_stack_1 : decode cX7_stack 1 = .ok (.getfield 10, 3) := by decide +kernel
theorem dX7_stack_4 : decode cX7_stack 4 = .ok (.iload_n 1, 1) := by decide +kernel
theorem dX7_stack_5 : decode cX7_stack 5 = .ok (.invokevirtual 43, 3) := by decide +kernel
theorem dX7_stack_8 : decode cX7_stack 8 = .ok (.ifCond .eq 22, 3) := by decide +kernel
theorem dX7_stack_11 : decode cX7_stack 11 = .ok (.aload_n 0, 1) := by decide +kernel
theorem dX7_stack_12 : decode cX7_stack 12 = .ok (.getfield 10, 3) := by decide +kernel
theorem dX7_stack_15 : decode cX7_stack 15 = .ok (.getfield 54, 3) := by decide +kernel
theorem dX7_stack_18 : decode cX7_stack 18 = .ok (.iload_n 1, 1) := by decide +kernel
theorem dX7_stack_19 : decode cX7_stack 19 = .ok (.aaload, 1) := by decide +kernel
theorem dX7_stack_20 : decode cX7_stack 20 = .ok (.getfield 89, 3) := by decide +kernel
theorem dX7_stack_23 : decode cX7_stack 23 = .ok (.iload_n 2, 1) := by decide +kernel
theorem dX7_stack_24 : decode cX7_stack 24 = .ok (.invokestatic 137, 3) := by decide +kernel
theorem dX7_stack_27 : decode cX7_stack 27 = .ok (.goto 4, 3) := by decide +kernel
theorem dX7_stack_30 : decode cX7_stack 30 = .ok (.iconst (-1), 1) := by decide +kernel
theorem dX7_stack_31 : decode cX7_stack 31 = .ok (.ireturn, 1) := by decide +kernel
def k100_0 : List (Nat × XI) := [(0, x_aload 0 1), (1, x_getR 7 0 4), (4, x_iload 1 5), (5, x_inv 53 6 1 8), (8, x_ifeq 30 11), (11, x_aload 0 12), (12, x_getR 7 0 15), (15, x_getR 6 0 18), (18, x_iload 1 19), (19, x_aald 20), (20, x_getR 0 7 23), (23, x_iload 2 24), (24, x_invS 87 2 27), (27, x_goto 31), (30, x_push (-1) 31), (31, x_iret)]
theorem o100_0 (scr : Nat × (Nat → Int32)) : ∀ q ∈ k100_0, XSnd xm scr Y100 q.1 q.2 := xcons (s_aload_n rfl dX7_stack_0) (xcons (s_getR (f := 0) xC7 (by decide) xw_320 rfl dX7_stack_1) (xcons (s_iload_n rfl dX7_stack_4) (xcons (s_inv (mid := 53) xC6 cal_53 xw_334 xw_131 xw_132 dX7_stack_5) (xcons (s_ifeq dX7_stack_8 rfl) (xcons (s_aload_n rfl dX7_stack_11) (xcons (s_getR (f := 0) xC7 (by decide) xw_320 rfl dX7_stack_12) (xcons (s_getR (f := 0) xC6 (by decide) xw_366 rfl dX7_stack_15) (xcons (s_iload_n rfl dX7_stack_18) (xcons (s_aald dX7_stack_19) (xcons (s_getR (f := 7) xC0 (by decide) xw_415 rfl dX7_stack_20) (xcons (s_iload_n rfl dX7_stack_23) (xcons (s_invS (mid := 87) cal_87 xw_454 xw_455 dX7_stack_24) (xcons (s_goto dX7_stack_27 rfl) (xcons (s_iconst dX7_stack_30 rfl) (xcons (s_iret dX7_stack_31 rfl) (xnil))))))))))))))))
def k100 (pc : Nat) : XI := xlk k100_0 pc
theorem o100 (scr : Nat × (Nat → Int32)) (pc : Nat) : XSnd xm scr Y100 pc (k100 pc) := by
  unfold k100
  exact xlk_ok (o100_0 scr) pc
theorem dX7_stop_0 : decode cX7_stop 0 = .ok (.aload_n 0, 1) := by decide +kernel
theorem dX7_stop_1 : decode cX7_stop 1 = .ok (.getfield 10, 3) := by decide +kernel
theorem dX7_stop_4 : decode cX7_stop 4 = .ok (.iload_n 1, 1) := by decide +kernel
theorem dX7_stop_5 : decode cX7_stop 5 = .ok (.invokevirtual 43, 3) := by decide +kernel
theorem dX7_stop_8 : decode cX7_stop 8 = .ok (.ifCond .ne 5, 3) := by decide +kernel
theorem dX7_stop_11 : decode cX7_stop 11 = .ok (.iconst (-1), 1) := by decide +kernel
theorem dX7_stop_12 : decode cX7_stop 12 = .ok (.ireturn, 1) := by decide +kernel
theorem dX7_stop_13 : decode cX7_stop 13 = .ok (.aload_n 0, 1) := by decide +kernel
theorem dX7_stop_14 : decode cX7_stop 14 = .ok (.getfield 10, 3) := by decide +kernel
theorem dX7_stop_17 : decode cX7_stop 17 = .ok (.iload_n 1, 1) := by decide +kernel
theorem dX7_stop_18 : decode cX7_stop 18 = .ok (.invokevirtual 151, 3) := by decide +kernel
theorem dX7_stop_21 : decode cX7_stop 21 = .ok (.ifCond .eq 14, 3) := by decide +kernel
theorem dX7_stop_24 : decode cX7_stop 24 = .ok (.aload_n 0, 1) := by decide +kernel
theorem dX7_stop_25 : decode cX7_stop 25 = .ok (.getfield 10, 3) := by decide +kernel
theorem dX7_stop_28 : decode cX7_stop 28 = .ok (.iload_n 1, 1) := by decide +kernel
theorem dX7_stop_29 : decode cX7_stop 29 = .ok (.invokevirtual 154, 3) := by decide +kernel
theorem dX7_stop_32 : decode cX7_stop 32 = .ok (.goto 5, 3) := by decide +kernel
theorem dX7_stop_35 : decode cX7_stop 35 = .ok (.bipush (-5), 2) := by decide +kernel
theorem dX7_stop_37 : decode cX7_stop 37 = .ok (.ireturn, 1) := by decide +kernel
def k101_0 : List (Nat × XI) := [(0, x_aload 0 1), (1, x_getR 7 0 4), (4, x_iload 1 5), (5, x_inv 53 6 1 8), (8, x_ifne 13 11), (11, x_push (-1) 12), (12, x_iret), (13, x_aload 0 14), (14, x_getR 7 0 17), (17, x_iload 1 18), (18, x_inv 54 6 1 21), (21, x_ifeq 35 24), (24, x_aload 0 25), (25, x_getR 7 0 28), (28, x_iload 1 29), (29, x_inv 49 6 1 32), (32, x_goto 37), (35, x_push (-5) 37), (37, x_iret)]
theorem o101_0 (scr : Nat × (Nat → Int32)) : ∀ q ∈ k101_0, XSnd xm scr Y101 q.1 q.2 := xcons (s_aload_n rfl dX7_stop_0) (xcons (s_getR (f := 0) xC7 (by decide) xw_320 rfl dX7_stop_1) (xcons (s_iload_n rfl dX7_stop_4) (xcons (s_inv (mid := 53) xC6 cal_53 xw_334 xw_131 xw_132 dX7_stop_5) (xcons (s_ifne dX7_stop_8 rfl) (xcons (s_iconst dX7_stop_11 rfl) (xcons (s_iret dX7_stop_12 rfl) (xcons (s_aload_n rfl dX7_stop_13) (xcons (s_getR (f := 0) xC7 (by decide) xw_320 rfl dX7_stop_14) (xcons (s_iload_n rfl dX7_stop_17) (xcons (s_inv (mid := 54) xC6 cal_54 xw_336 xw_135 xw_136 dX7_stop_18) (xcons (s_ifeq dX7_stop_21 rfl) (xcons (s_aload_n rfl dX7_stop_24) (xcons (s_getR (f := 0) xC7 (by decide) xw_320 rfl dX7_stop_25) (xcons (s_iload_n rfl dX7_stop_28) (xcons (s_inv (mid := 49) xC6 cal_49 xw_456 xw_201 xw_202 dX7_stop_29) (xcons (s_goto dX7_stop_32 rfl) (xcons (s_bipush dX7_stop_35 rfl) (xcons (s_iret dX7_stop_37 rfl) (xnil)))))))))))))))))))
def k101 (pc : Nat) : XI := xlk k101_0 pc
theorem o101 (scr : Nat × (Nat → Int32)) (pc : Nat) : XSnd xm scr Y101 pc (k101 pc) := by
  unfold k101
  exact xlk_ok (o101_0 scr) pc
theorem dX7_tell_0 : decode cX7_tell 0 = .ok (.aload_n 0, 1) := by decide +kernel
theorem dX7_tell_1 : decode cX7_tell 1 = .ok (.getfield 10, 3) := by decide +kernel
theorem dX7_tell_4 : decode cX7_tell 4 = .ok (.iload_n 1, 1) := by decide +kernel
theorem dX7_tell_5 : decode cX7_tell 5 = .ok (.invokevirtual 43, 3) := by decide +kernel
theorem dX7_tell_8 : decode cX7_tell 8 = .ok (.ifCond .eq 26, 3) := by decide +kernel
theorem dX7_tell_11 : decode cX7_tell 11 = .ok (.iload_n 2, 1) := by decide +kernel
theorem dX7_tell_12 : decode cX7_tell 12 = .ok (.iconst (-1), 1) := by decide +kernel
theorem dX7_tell_13 : decode cX7_tell 13 = .ok (.if_icmp .eq 14, 3) := by decide +kernel
theorem dX7_tell_16 : decode cX7_tell 16 = .ok (.aload_n 0, 1) := by decide +kernel
theorem dX7_tell_17 : decode cX7_tell 17 = .ok (.getfield 10, 3) := by decide +kernel
theorem dX7_tell_20 : decode cX7_tell 20 = .ok (.iload_n 2, 1) := by decide +kernel
theorem dX7_tell_21 : decode cX7_tell 21 = .ok (.invokevirtual 43, 3) := by decide +kernel
theorem dX7_tell_24 : decode cX7_tell 24 = .ok (.ifCond .eq 10, 3) := by decide +kernel
theorem dX7_tell_27 : decode cX7_tell 27 = .ok (.iload_n 3, 1) := by decide +kernel
theorem dX7_tell_28 : decode cX7_tell 28 = .ok (.invokestatic 47, 3) := by decide +kernel
theorem dX7_tell_31 : decode cX7_tell 31 = .ok (.ifCond .ne 5, 3) := by decide +kernel
theorem dX7_tell_34 : decode cX7_tell 34 = .ok (.iconst (-1), 1) := by decide +kernel
theorem dX7_tell_35 : decode cX7_tell 35 = .ok (.ireturn, 1) := by decide +kernel
theorem dX7_tell_36 : decode cX7_tell 36 = .ok (.aload_n 0, 1) := by decide +kernel
theorem dX7_tell_37 : decode cX7_tell 37 = .ok (.getfield 10, 3) := by decide +kernel
def k102_0 : List (Nat × XI) := [(0, x_aload 0 1), (1, x_getR 7 0 4), (4, x_iload 1 5), (5, x_inv 53 6 1 8), (8, x_ifeq 34 11), (11, x_iload 2 12), (12, x_push (-1) 13), (13, x_iceq 27 16), (16, x_aload 0 17), (17, x_getR 7 0 20), (20, x_iload 2 21), (21, x_inv 53 6 1 24), (24, x_ifeq 34 27), (27, x_iload 3 28), (28, x_invS 85 1 31), (31, x_ifne 36 34), (34, x_push (-1) 35), (35, x_iret), (36, x_aload 0 37), (37, x_getR 7 0 40)]
theorem o102_0 (scr : Nat × (Nat → Int32)) : ∀ q ∈ k102_0, XSnd xm scr Y102 q.1 q.2 := xcons (s_aload_n rfl dX7_tell_0) (xcons (s_getR (f := 0) xC7 (by decide) xw_320 rfl dX7_tell_1) (xcons (s_iload_n rfl dX7_tell_4) (xcons (s_inv (mid := 53) xC6 cal_53 xw_334 xw_131 xw_132 dX7_tell_5) (xcons (s_ifeq dX7_tell_8 rfl) (xcons (s_iload_n rfl dX7_tell_11) (xcons (s_iconst dX7_tell_12 rfl) (xcons (s_iceq dX7_tell_13 rfl) (xcons (s_aload_n rfl dX7_tell_16) (xcons (s_getR (f := 0) xC7 (by decide) xw_320 rfl dX7_tell_17) (xcons (s_iload_n rfl dX7_tell_20) (xcons (s_inv (mid := 53) xC6 cal_53 xw_334 xw_131 xw_132 dX7_tell_21) (xcons (s_ifeq dX7_tell_24 rfl) (xcons (s_iload_n rfl dX7_tell_27) (xcons (s_invS (mid := 85) cal_85 xw_458 xw_459 dX7_tell_28) (xcons (s_ifne dX7_tell_31 rfl) (xcons (s_iconst dX7_tell_34 rfl) (xcons (s_iret dX7_tell_35 rfl) (xcons (s_aload_n rfl dX7_tell_36) (xcons (s_getR (f := 0) xC7 (by decide) xw_320 rfl dX7_tell_37) (xnil))))))))))))))))))))
theorem dX7_tell_40 : decode cX7_tell 40 = .ok (.iload_n 1, 1) := by decide +kernel
theorem dX7_tell_41 : decode cX7_tell 41 = .ok (.iload_n 2, 1) := by decide +kernel
theorem dX7_tell_42 : decode cX7_tell 42 = .ok (.iload_n 3, 1) := by decide +kernel
theorem dX7_tell_43 : decode cX7_tell 43 = .ok (.invokevirtual 50, 3) := by decide +kernel
theorem dX7_tell_46 : decode cX7_tell 46 = .ok (.ifCond .eq 21, 3) := by decide +kernel
theorem dX7_tell_49 : decode cX7_tell 49 = .ok (.aload_n 0, 1) := by decide +kernel
theorem dX7_tell_50 : decode cX7_tell 50 = .ok (.getfield 10, 3) := by decide +kernel
theorem dX7_tell_53 : decode cX7_tell 53 = .ok (.getfield 54, 3) := by decide +kernel
theorem dX7_tell_56 : decode cX7_tell 56 = .ok (.iload_n 1, 1) := by decide +kernel
theorem dX7_tell_57 : decode cX7_tell 57 = .ok (.aaload, 1) := by decide +kernel
theorem dX7_tell_58 : decode cX7_tell 58 = .ok (.getfield 58, 3) := by decide +kernel
theorem dX7_tell_61 : decode cX7_tell 61 = .ok (.getfield 64, 3) := by decide +kernel
theorem dX7_tell_64 : decode cX7_tell 64 = .ok (.goto 5, 3) := by decide +kernel
theorem dX7_tell_67 : decode cX7_tell 67 = .ok (.bipush (-5), 2) := by decide +kernel
theorem dX7_tell_69 : decode cX7_tell 69 = .ok (.ireturn, 1) := by decide +kernel
def k102_1 : List (Nat × XI) := [(40, x_iload 1 41), (41, x_iload 2 42), (42, x_iload 3 43), (43, x_inv 63 6 3 46), (46, x_ifeq 67 49), (49, x_aload 0 50), (50, x_getR 7 0 53), (53, x_getR 6 0 56), (56, x_iload 1 57), (57, x_aald 58), (58, x_getR 0 8 61), (61, x_getI 3 2 64), (64, x_goto 69), (67, x_push (-5) 69), (69, x_iret)]
theorem o102_1 (scr : Nat × (Nat → Int32)) : ∀ q ∈ k102_1, XSnd xm scr Y102 q.1 q.2 := xcons (s_iload_n rfl dX7_tell_40) (xcons (s_iload_n rfl dX7_tell_41) (xcons (s_iload_n rfl dX7_tell_42) (xcons (s_inv (mid := 63) xC6 cal_63 xw_373 xw_182 xw_183 dX7_tell_43) (xcons (s_ifeq dX7_tell_46 rfl) (xcons (s_aload_n rfl dX7_tell_49) (xcons (s_getR (f := 0) xC7 (by decide) xw_320 rfl dX7_tell_50) (xcons (s_getR (f := 0) xC6 (by decide) xw_366 rfl dX7_tell_53) (xcons (s_iload_n rfl dX7_tell_56) (xcons (s_aald dX7_tell_57) (xcons (s_getR (f := 8) xC0 (by decide) xw_408 rfl dX7_tell_58) (xcons (s_getI (f := 2) xC3 (by decide) xw_346 rfl dX7_tell_61) (xcons (s_goto dX7_tell_64 rfl) (xcons (s_bipush dX7_tell_67 rfl) (xcons (s_iret dX7_tell_69 rfl) (xnil)))))))))))))))
def k102 (pc : Nat) : XI := if pc < 40 then xlk k102_0 pc else xlk k102_1 pc
theorem o102 (scr : Nat × (Nat → Int32)) (pc : Nat) : XSnd xm scr Y102 pc (k102 pc) := by
  unfold k102
  exact xite (xlk_ok (o102_0 scr) pc) (xlk_ok (o102_1 scr) pc)
theorem dX7_tells_0 : decode cX7_tells 0 = .ok (.iload_n 1, 1) := by decide +kernel
theorem dX7_tells_1 : decode cX7_tells 1 = .ok (.invokestatic 232, 3) := by decide +kernel
theorem dX7_tells_4 : decode cX7_tells 4 = .ok (.ifCond .eq 24, 3) := by decide +kernel
theorem dX7_tells_7 : decode cX7_tells 7 = .ok (.iload_n 2, 1) := by decide +kernel
theorem dX7_tells_8 : decode cX7_tells 8 = .ok (.ifCond .lt 20, 3) := by decide +kernel
theorem dX7_tells_11 : decode cX7_tells 11 = .ok (.iload_n 2, 1) := by decide +kernel
theorem dX7_tells_12 : decode cX7_tells 12 = .ok (.iconst 3, 1) := by decide +kernel
theorem dX7_tells_13 : decode cX7_tells 13 = .ok (.if_icmp .gt 15, 3) := by decide +kernel
theorem dX7_tells_16 : decode cX7_tells 16 = .ok (.aload_n 0, 1) := by decide +kernel
theorem dX7_tells_17 : decode cX7_tells 17 = .ok (.getfield 34, 3) := by decide +kernel
theorem dX7_tells_20 : decode cX7_tells 20 = .ok (.iload_n 1, 1) := by decide +kernel
theorem dX7_tells_21 : decode cX7_tells 21 = .ok (.aaload, 1) := by decide +kernel
theorem dX7_tells_22 : decode cX7_tells 22 = .ok (.getfield 235, 3) := by decide +kernel
theorem dX7_tells_25 : decode cX7_tells 25 = .ok (.ifCond .ne 6, 3) := by decide +kernel
theorem dX7_tells_28 : decode cX7_tells 28 = .ok (.ldc 130, 2) := by decide +kernel
theorem dX7_tells_30 : decode cX7_tells 30 = .ok (.ireturn, 1) := by decide +kernel
theorem dX7_tells_31 : decode cX7_tells 31 = .ok (.aload_n 0, 1) := by decide +kernel
theorem dX7_tells_32 : decode cX7_tells 32 = .ok (.getfield 34, 3) := by decide +kernel
theorem dX7_tells_35 : decode cX7_tells 35 = .ok (.iload_n 1, 1) := by decide +kernel
theorem dX7_tells_36 : decode cX7_tells 36 = .ok (.aaload, 1) := by decide +kernel
def k103_0 : List (Nat × XI) := [(0, x_iload 1 1), (1, x_invS 84 1 4), (4, x_ifeq 28 7), (7, x_iload 2 8), (8, x_iflt 28 11), (11, x_iload 2 12), (12, x_push (3) 13), (13, x_icgt 28 16), (16, x_aload 0 17), (17, x_getR 7 5 20), (20, x_iload 1 21), (21, x_aald 22), (22, x_getI 1 1 25), (25, x_ifne 31 28), (28, x_push (-2000000000) 30), (30, x_iret), (31, x_aload 0 32), (32, x_getR 7 5 35), (35, x_iload 1 36), (36, x_aald 37)]
theorem o103_0 (scr : Nat × (Nat → Int32)) : ∀ q ∈ k103_0, XSnd xm scr Y103 q.1 q.2 := xcons (s_iload_n rfl dX7_tells_0) (xcons (s_invS (mid := 84) cal_84 xw_389 xw_390 dX7_tells_1) (xcons (s_ifeq dX7_tells_4 rfl) (xcons (s_iload_n rfl dX7_tells_7) (xcons (s_iflt dX7_tells_8 rfl) (xcons (s_iload_n rfl dX7_tells_11) (xcons (s_iconst dX7_tells_12 rfl) (xcons (s_icgt dX7_tells_13 rfl) (xcons (s_aload_n rfl dX7_tells_16) (xcons (s_getR (f := 5) xC7 (by decide) xw_331 rfl dX7_tells_17) (xcons (s_iload_n rfl dX7_tells_20) (xcons (s_aald dX7_tells_21) (xcons (s_getI (f := 1) xC1 (by decide) xw_332 rfl dX7_tells_22) (xcons (s_ifne dX7_tells_25 rfl) (xcons (s_ldc dX7_tells_28 xw_337) (xcons (s_iret dX7_tells_30 rfl) (xcons (s_aload_n rfl dX7_tells_31) (xcons (s_getR (f := 5) xC7 (by decide) xw_331 rfl dX7_tells_32) (xcons (s_iload_n rfl dX7_tells_35) (xcons (s_aald dX7_tells_36) (xnil))))))))))))))))))))
theorem dX7_tells_37 : decode cX7_tells 37 = .ok (.getfield 247, 3) := by decide +kernel
theorem dX7_tells_40 : decode cX7_tells 40 = .ok (.istore_n 3, 1) := by decide +kernel
theorem dX7_tells_41 : decode cX7_tells 41 = .ok (.aload_n 0, 1) := by decide +kernel
theorem dX7_tells_42 : decode cX7_tells 42 = .ok (.getfield 34, 3) := by decide +kernel
theorem dX7_tells_45 : decode cX7_tells 45 = .ok (.iload_n 1, 1) := by decide +kernel
theorem dX7_tells_46 : decode cX7_tells 46 = .ok (.aaload, 1) := by decide +kernel
theorem dX7_tells_47 : decode cX7_tells 47 = .ok (.getfield 235, 3) := by decide +kernel
theorem dX7_tells_50 : decode cX7_tells 50 = .ok (.iconst 1, 1) := by decide +kernel
theorem dX7_tells_51 : decode cX7_tells 51 = .ok (.if_icmp .ne 14, 3) := by decide +kernel
theorem dX7_tells_54 : decode cX7_tells 54 = .ok (.aload_n 0, 1) := by decide +kernel
theorem dX7_tells_55 : decode cX7_tells 55 = .ok (.getfield 10, 3) := by decide +kernel
theorem dX7_tells_58 : decode cX7_tells 58 = .ok (.iload_n 3, 1) := by decide +kernel
theorem dX7_tells_59 : decode cX7_tells 59 = .ok (.invokevirtual 43, 3) := by decide +kernel
theorem dX7_tells_62 : decode cX7_tells 62 = .ok (.ifCond .ne 7, 3) := by decide +kernel
theorem dX7_tells_65 : decode cX7_tells 65 = .ok (.ldc_w 257, 3) := by decide +kernel
theorem dX7_tells_68 : decode cX7_tells 68 = .ok (.ireturn, 1) := by decide +kernel
theorem dX7_tells_69 : decode cX7_tells 69 = .ok (.aload_n 0, 1) := by decide +kernel
theorem dX7_tells_70 : decode cX7_tells 70 = .ok (.getfield 10, 3) := by decide +kernel
theorem dX7_tells_73 : decode cX7_tells 73 = .ok (.getfield 54, 3) := by decide +kernel
theorem dX7_tells_76 : decode cX7_tells 76 = .ok (.iload_n 3, 1) := by decide +kernel
def k103_1 : List (Nat × XI) := [(37, x_getI 1 2 40), (40, x_istore 3 41), (41, x_aload 0 42), (42, x_getR 7 5 45), (45, x_iload 1 46), (46, x_aald 47), (47, x_getI 1 1 50), (50, x_push (1) 51), (51, x_icne 65 54), (54, x_aload 0 55), (55, x_getR 7 0 58), (58, x_iload 3 59), (59, x_inv 53 6 1 62), (62, x_ifne 69 65), (65, x_push (-2000000012) 68), (68, x_iret), (69, x_aload 0 70), (70, x_getR 7 0 73), (73, x_getR 6 0 76), (76, x_iload 3 77)]
theorem o103_1 (scr : Nat × (Nat → Int32)) : ∀ q ∈ k103_1, XSnd xm scr Y103 q.1 q.2 := xcons (s_getI (f := 2) xC1 (by decide) xw_333 rfl dX7_tells_37) (xcons (s_istore_n rfl dX7_tells_40 (by decide)) (xcons (s_aload_n rfl dX7_tells_41) (xcons (s_getR (f := 5) xC7 (by decide) xw_331 rfl dX7_tells_42) (xcons (s_iload_n rfl dX7_tells_45) (xcons (s_aald dX7_tells_46) (xcons (s_getI (f := 1) xC1 (by decide) xw_332 rfl dX7_tells_47) (xcons (s_iconst dX7_tells_50 rfl) (xcons (s_icne dX7_tells_51 rfl) (xcons (s_aload_n rfl dX7_tells_54) (xcons (s_getR (f := 0) xC7 (by decide) xw_320 rfl dX7_tells_55) (xcons (s_iload_n rfl dX7_tells_58) (xcons (s_inv (mid := 53) xC6 cal_53 xw_334 xw_131 xw_132 dX7_tells_59) (xcons (s_ifne dX7_tells_62 rfl) (xcons (s_ldcw dX7_tells_65 xw_460) (xcons (s_iret dX7_tells_68 rfl) (xcons (s_aload_n rfl dX7_tells_69) (xcons (s_getR (f := 0) xC7 (by decide) xw_320 rfl dX7_tells_70) (xcons (s_getR (f := 0) xC6 (by decide) xw_366 rfl dX7_tells_73) (xcons (s_iload_n rfl dX7_tells_76) (xnil))))))))))))))))))))
theorem dX7_tells_77 : decode cX7_tells 77 = .ok (.aaload, 1) := by decide +kernel
theorem dX7_tells_78 : decode cX7_tells 78 = .ok (.astore 4, 2) := by decide +kernel
theorem dX7_tells_80 : decode cX7_tells 80 = .ok (.aload_n 0, 1) := by decide +kernel
theorem dX7_tells_81 : decode cX7_tells 81 = .ok (.getfield 10, 3) := by decide +kernel
theorem dX7_tells_84 : decode cX7_tells 84 = .ok (.iload_n 3, 1) := by decide +kernel
theorem dX7_tells_85 : decode cX7_tells 85 = .ok (.invokevirtual 124, 3) := by decide +kernel
theorem dX7_tells_88 : decode cX7_tells 88 = .ok (.istore 5, 2) := by decide +kernel
theorem dX7_tells_90 : decode cX7_tells 90 = .ok (.iload_n 2, 1) := by decide +kernel
theorem dX7_tells_91 : decode cX7_tells 91 = .ok (.tableswitch 101 1 3 #[25, 42, 67], 25) := by decide +kernel
theorem dX7_tells_116 : decode cX7_tells 116 = .ok (.iload 5, 2) := by decide +kernel
theorem dX7_tells_118 : decode cX7_tells 118 = .ok (.ifCond .ne 11, 3) := by decide +kernel
theorem dX7_tells_121 : decode cX7_tells 121 = .ok (.aload 4, 2) := by decide +kernel
theorem dX7_tells_123 : decode cX7_tells 123 = .ok (.getfield 127, 3) := by decide +kernel
theorem dX7_tells_126 : decode cX7_tells 126 = .ok (.goto 6, 3) := by decide +kernel
theorem dX7_tells_129 : decode cX7_tells 129 = .ok (.ldc_w 257, 3) := by decide +kernel
theorem dX7_tells_132 : decode cX7_tells 132 = .ok (.ireturn, 1) := by decide +kernel
theorem dX7_tells_133 : decode cX7_tells 133 = .ok (.iload 5, 2) := by decide +kernel
theorem dX7_tells_135 : decode cX7_tells 135 = .ok (.ifCond .eq 19, 3) := by decide +kernel
theorem dX7_tells_138 : decode cX7_tells 138 = .ok (.iload 5, 2) := by decide +kernel
theorem dX7_tells_140 : decode cX7_tells 140 = .ok (.aload_n 0, 1) := by decide +kernel
def k103_2 : List (Nat × XI) := [(77, x_aald 78), (78, x_astore 4 80), (80, x_aload 0 81), (81, x_getR 7 0 84), (84, x_iload 3 85), (85, x_inv 41 6 1 88), (88, x_istore 5 90), (90, x_iload 2 91), (91, x_tsw (1) (3) [116, 133, 158] 192), (116, x_iload 5 118), (118, x_ifne 129 121), (121, x_aload 4 123), (123, x_getI 0 5 126), (126, x_goto 132), (129, x_push (-2000000012) 132), (132, x_iret), (133, x_iload 5 135), (135, x_ifeq 154 138), (138, x_iload 5 140), (140, x_aload 0 141)]
theorem o103_2 (scr : Nat × (Nat → Int32)) : ∀ q ∈ k103_2, XSnd xm scr Y103 q.1 q.2 := xcons (s_aald dX7_tells_77) (xcons (s_astore dX7_tells_78 (by decide)) (xcons (s_aload_n rfl dX7_tells_80) (xcons (s_getR (f := 0) xC7 (by decide) xw_320 rfl dX7_tells_81) (xcons (s_iload_n rfl dX7_tells_84) (xcons (s_inv (mid := 41) xC6 cal_41 xw_427 xw_428 xw_429 dX7_tells_85) (xcons (s_istore dX7_tells_88 (by decide)) (xcons (s_iload_n rfl dX7_tells_90) (xcons (s_tsw dX7_tells_91 rfl rfl) (xcons (s_iload dX7_tells_116) (xcons (s_ifne dX7_tells_118 rfl) (xcons (s_aload dX7_tells_121) (xcons (s_getI (f := 5) xC0 (by decide) xw_367 rfl dX7_tells_123) (xcons (s_goto dX7_tells_126 rfl) (xcons (s_ldcw dX7_tells_129 xw_460) (xcons (s_iret dX7_tells_132 rfl) (xcons (s_iload dX7_tells_133) (xcons (s_ifeq dX7_tells_135 rfl) (xcons (s_iload dX7_tells_138) (xcons (s_aload_n rfl dX7_tells_140) (xnil))))))))))))))))))))
theorem dX7_tells_141 : decode cX7_tells 141 = .ok (.getfield 10, 3) := by decide +kernel
theorem dX7_tells_144 : decode cX7_tells 144 = .ok (.invokevirtual 176, 3) := by decide +kernel
theorem dX7_tells_147 : decode cX7_tells 147 = .ok (.iand, 1) := by decide +kernel
theorem dX7_tells_148 : decode cX7_tells 148 = .ok (.invokestatic 258, 3) := by decide +kernel
theorem dX7_tells_151 : decode cX7_tells 151 = .ok (.goto 6, 3) := by decide +kernel
theorem dX7_tells_154 : decode cX7_tells 154 = .ok (.ldc_w 257, 3) := by decide +kernel
theorem dX7_tells_157 : decode cX7_tells 157 = .ok (.ireturn, 1) := by decide +kernel
theorem dX7_tells_158 : decode cX7_tells 158 = .ok (.aload 4, 2) := by decide +kernel
theorem dX7_tells_160 : decode cX7_tells 160 = .ok (.getfield 85, 3) := by decide +kernel
theorem dX7_tells_163 : decode cX7_tells 163 = .ok (.ifCond .eq 25, 3) := by decide +kernel
theorem dX7_tells_166 : decode cX7_tells 166 = .ok (.aload 4, 2) := by decide +kernel
theorem dX7_tells_168 : decode cX7_tells 168 = .ok (.getfield 58, 3) := by decide +kernel
theorem dX7_tells_171 : decode cX7_tells 171 = .ok (.getfield 64, 3) := by decide +kernel
theorem dX7_tells_174 : decode cX7_tells 174 = .ok (.ifCond .ne 14, 3) := by decide +kernel
theorem dX7_tells_177 : decode cX7_tells 177 = .ok (.aload 4, 2) := by decide +kernel
theorem dX7_tells_179 : decode cX7_tells 179 = .ok (.getfield 100, 3) := by decide +kernel
theorem dX7_tells_182 : decode cX7_tells 182 = .ok (.getfield 64, 3) := by decide +kernel
theorem dX7_tells_185 : decode cX7_tells 185 = .ok (.goto 6, 3) := by decide +kernel
theorem dX7_tells_188 : decode cX7_tells 188 = .ok (.ldc_w 257, 3) := by decide +kernel
theorem dX7_tells_191 : decode cX7_tells 191 = .ok (.ireturn, 1) := by decide +kernel
def k103_3 : List (Nat × XI) := [(141, x_getR 7 0 144), (144, x_inv 58 6 0 147), (147, x_iand 148), (148, x_invS 189 1 151), (151, x_goto 157), (154, x_push (-2000000012) 157), (157, x_iret), (158, x_aload 4 160), (160, x_getI 0 6 163), (163, x_ifeq 188 166), (166, x_aload 4 168), (168, x_getR 0 8 171), (171, x_getI 3 2 174), (174, x_ifne 188 177), (177, x_aload 4 179), (179, x_getR 0 9 182), (182, x_getI 3 2 185), (185, x_goto 191), (188, x_push (-2000000012) 191), (191, x_iret)]
theorem o103_3 (scr : Nat × (Nat → Int32)) : ∀ q ∈ k103_3, XSnd xm scr Y103 q.1 q.2 := xcons (s_getR (f := 0) xC7 (by decide) xw_320 rfl dX7_tells_141) (xcons (s_inv (mid := 58) xC6 cal_58 xw_342 xw_343 xw_344 dX7_tells_144) (xcons (s_iand dX7_tells_147) (xcons (s_invS (mid := 189) cal_189 xw_351 xw_352 dX7_tells_148) (xcons (s_goto dX7_tells_151 rfl) (xcons (s_ldcw dX7_tells_154 xw_460) (xcons (s_iret dX7_tells_157 rfl) (xcons (s_aload dX7_tells_158) (xcons (s_getI (f := 6) xC0 (by decide) xw_414 rfl dX7_tells_160) (xcons (s_ifeq dX7_tells_163 rfl) (xcons (s_aload dX7_tells_166) (xcons (s_getR (f := 8) xC0 (by decide) xw_408 rfl dX7_tells_168) (xcons (s_getI (f := 2) xC3 (by decide) xw_346 rfl dX7_tells_171) (xcons (s_ifne dX7_tells_174 rfl) (xcons (s_aload dX7_tells_177) (xcons (s_getR (f := 9) xC0 (by decide) xw_407 rfl dX7_tells_179) (xcons (s_getI (f := 2) xC3 (by decide) xw_346 rfl dX7_tells_182) (xcons (s_goto dX7_tells_185 rfl) (xcons (s_ldcw dX7_tells_188 xw_460) (xcons (s_iret dX7_tells_191 rfl) (xnil))))))))))))))))))))
theorem dX7_tells_192 : decode cX7_tells 192 = .ok (.iload_n 3, 1) := by decide +kernel
theorem dX7_tells_193 : decode cX7_tells 193 = .ok (.ireturn, 1) := by decide +kernel
def k103_4 : List (Nat × XI) := [(192, x_iload 3 193), (193, x_iret)]
theorem o103_4 (scr : Nat × (Nat → Int32)) : ∀ q ∈ k103_4, XSnd xm scr Y103 q.1 q.2 := xcons (s_iload_n rfl dX7_tells_192) (xcons (s_iret dX7_tells_193 rfl) (xnil))
def k103 (pc : Nat) : XI := if pc < 77 then if pc < 37 then xlk k103_0 pc else xlk k103_1 pc else if pc < 141 then xlk k103_2 pc else if pc < 192 then xlk k103_3 pc else xlk k103_4 pc
theorem o103 (scr : Nat × (Nat → Int32)) (pc : Nat) : XSnd xm scr Y103 pc (k103 pc) := by
  unfold k103
  exact xite (xite (xlk_ok (o103_0 scr) pc) (xlk_ok (o103_1 scr) pc)) (xite (xlk_ok (o103_2 scr) pc) (xite (xlk_ok (o103_3 scr) pc) (xlk_ok (o103_4 scr) pc)))
theorem dX7_timer_0 : decode cX7_timer 0 = .ok (.iload_n 1, 1) := by decide +kernel
theorem dX7_timer_1 : decode cX7_timer 1 = .ok (.ifCond .lt 12, 3) := by decide +kernel
theorem dX7_timer_4 : decode cX7_timer 4 = .ok (.iload_n 2, 1) := by decide +kernel
theorem dX7_timer_5 : decode cX7_timer 5 = .ok (.ifCond .lt 8, 3) := by decide +kernel
theorem dX7_timer_8 : decode cX7_timer 8 = .ok (.iload_n 2, 1) := by decide +kernel
theorem dX7_timer_9 : decode cX7_timer 9 = .ok (.iconst 2, 1) := by decide +kernel
theorem dX7_timer_10 : decode cX7_timer 10 = .ok (.if_icmp .le 5, 3) := by decide +kernel
theorem dX7_timer_13 : decode cX7_timer 13 = .ok (.iconst (-1), 1) := by decide +kernel
theorem dX7_timer_14 : decode cX7_timer 14 = .ok (.ireturn, 1) := by decide +kernel
theorem dX7_timer_15 : decode cX7_timer 15 = .ok (.aload_n 0, 1) := by decide +kernel
theorem dX7_timer_16 : decode cX7_timer 16 = .ok (.getfield 10, 3) := by decide +kernel
theorem dX7_timer_19 : decode cX7_timer 19 = .ok (.getfield 106, 3) := by decide +kernel
theorem dX7_timer_22 : decode cX7_timer 22 = .ok (.astore_n 3, 1) := by decide +kernel
theorem dX7_timer_23 : decode cX7_timer 23 = .ok (.iload_n 1, 1) := by decide +kernel
theorem dX7_timer_24 : decode cX7_timer 24 = .ok (.aload_n 3, 1) := by decide +kernel
theorem dX7_timer_25 : decode cX7_timer 25 = .ok (.getfield 141, 3) := by decide +kernel
theorem dX7_timer_28 : decode cX7_timer 28 = .ok (.if_icmp .lt 6, 3) := by decide +kernel
theorem dX7_timer_31 : decode cX7_timer 31 = .ok (.bipush (-2), 2) := by decide +kernel
theorem dX7_timer_33 : decode cX7_timer 33 = .ok (.ireturn, 1) := by decide +kernel
theorem dX7_timer_34 : decode cX7_timer 34 = .ok (.iload_n 2, 1) := by decide +kernel
def k104_0 : List (Nat × XI) := [(0, x_iload 1 1), (1, x_iflt 13 4), (4, x_iload 2 5), (5, x_iflt 13 8), (8, x_iload 2 9), (9, x_push (2) 10), (10, x_icle 15 13), (13, x_push (-1) 14), (14, x_iret), (15, x_aload 0 16), (16, x_getR 7 0 19), (19, x_getR 6 1 22), (22, x_astore 3 23), (23, x_iload 1 24), (24, x_aload 3 25), (25, x_getI 5 3 28), (28, x_iclt 34 31), (31, x_push (-2) 33), (33, x_iret), (34, x_iload 2 35)]
theorem o104_0 (scr : Nat × (Nat → Int32)) : ∀ q ∈ k104_0, XSnd xm scr Y104 q.1 q.2 := xcons (s_iload_n rfl dX7_timer_0) (xcons (s_iflt dX7_timer_1 rfl) (xcons (s_iload_n rfl dX7_timer_4) (xcons (s_iflt dX7_timer_5 rfl) (xcons (s_iload_n rfl dX7_timer_8) (xcons (s_iconst dX7_timer_9 rfl) (xcons (s_icle dX7_timer_10 rfl) (xcons (s_iconst dX7_timer_13 rfl) (xcons (s_iret dX7_timer_14 rfl) (xcons (s_aload_n rfl dX7_timer_15) (xcons (s_getR (f := 0) xC7 (by decide) xw_320 rfl dX7_timer_16) (xcons (s_getR (f := 1) xC6 (by decide) xw_357 rfl dX7_timer_19) (xcons (s_astore_n rfl dX7_timer_22 (by decide)) (xcons (s_iload_n rfl dX7_timer_23) (xcons (s_aload_n rfl dX7_timer_24) (xcons (s_getI (f := 3) xC5 (by decide) xw_358 rfl dX7_timer_25) (xcons (s_iclt dX7_timer_28 rfl) (xcons (s_bipush dX7_timer_31 rfl) (xcons (s_iret dX7_timer_33 rfl) (xcons (s_iload_n rfl dX7_timer_34) (xnil))))))))))))))))))))
theorem dX7_timer_35 : decode cX7_timer 35 = .ok (.ifCond .ne 11, 3) := by decide +kernel
theorem dX7_timer_38 : decode cX7_timer 38 = .ok (.aload_n 3, 1) := by decide +kernel
theorem dX7_timer_39 : decode cX7_timer 39 = .ok (.iload_n 1, 1) := by decide +kernel
theorem dX7_timer_40 : decode cX7_timer 40 = .ok (.invokevirtual 142, 3) := by decide +kernel
theorem dX7_timer_43 : decode cX7_timer 43 = .ok (.goto 24, 3) := by decide +kernel
theorem dX7_timer_46 : decode cX7_timer 46 = .ok (.iload_n 2, 1) := by decide +kernel
theorem dX7_timer_47 : decode cX7_timer 47 = .ok (.iconst 1, 1) := by decide +kernel
theorem dX7_timer_48 : decode cX7_timer 48 = .ok (.if_icmp .ne 11, 3) := by decide +kernel
theorem dX7_timer_51 : decode cX7_timer 51 = .ok (.aload_n 3, 1) := by decide +kernel
theorem dX7_timer_52 : decode cX7_timer 52 = .ok (.iload_n 1, 1) := by decide +kernel
theorem dX7_timer_53 : decode cX7_timer 53 = .ok (.invokevirtual 145, 3) := by decide +kernel
theorem dX7_timer_56 : decode cX7_timer 56 = .ok (.goto 11, 3) := by decide +kernel
theorem dX7_timer_59 : decode cX7_timer 59 = .ok (.bipush 100, 2) := by decide +kernel
theorem dX7_timer_61 : decode cX7_timer 61 = .ok (.aload_n 3, 1) := by decide +kernel
theorem dX7_timer_62 : decode cX7_timer 62 = .ok (.iload_n 1, 1) := by decide +kernel
theorem dX7_timer_63 : decode cX7_timer 63 = .ok (.invokevirtual 148, 3) := by decide +kernel
theorem dX7_timer_66 : decode cX7_timer 66 = .ok (.iadd, 1) := by decide +kernel
theorem dX7_timer_67 : decode cX7_timer 67 = .ok (.ireturn, 1) := by decide +kernel
def k104_1 : List (Nat × XI) := [(35, x_ifne 46 38), (38, x_aload 3 39), (39, x_iload 1 40), (40, x_inv 36 5 1 43), (43, x_goto 67), (46, x_iload 2 47), (47, x_push (1) 48), (48, x_icne 59 51), (51, x_aload 3 52), (52, x_iload 1 53), (53, x_inv 32 5 1 56), (56, x_goto 67), (59, x_push (100) 61), (61, x_aload 3 62), (62, x_iload 1 63), (63, x_inv 35 5 1 66), (66, x_iadd 67), (67, x_iret)]
theorem o104_1 (scr : Nat × (Nat → Int32)) : ∀ q ∈ k104_1, XSnd xm scr Y104 q.1 q.2 := xcons (s_ifne dX7_timer_35 rfl) (xcons (s_aload_n rfl dX7_timer_38) (xcons (s_iload_n rfl dX7_timer_39) (xcons (s_inv (mid := 36) xC5 cal_36 xw_461 xw_220 xw_221 dX7_timer_40) (xcons (s_goto dX7_timer_43 rfl) (xcons (s_iload_n rfl dX7_timer_46) (xcons (s_iconst dX7_timer_47 rfl) (xcons (s_icne dX7_timer_48 rfl) (xcons (s_aload_n rfl dX7_timer_51) (xcons (s_iload_n rfl dX7_timer_52) (xcons (s_inv (mid := 32) xC5 cal_32 xw_462 xw_228 xw_229 dX7_timer_53) (xcons (s_goto dX7_timer_56 rfl) (xcons (s_bipush dX7_timer_59 rfl) (xcons (s_aload_n rfl dX7_timer_61) (xcons (s_iload_n rfl dX7_timer_62) (xcons (s_inv (mid := 35) xC5 cal_35 xw_463 xw_224 xw_225 dX7_timer_63) (xcons (s_iadd dX7_timer_66) (xcons (s_iret dX7_timer_67 rfl) (xnil))))))))))))))))))
def k104 (pc : Nat) : XI := if pc < 35 then xlk k104_0 pc else xlk k104_1 pc
theorem o104 (scr : Nat × (Nat → Int32)) (pc : Nat) : XSnd xm scr Y104 pc (k104 pc) := by
  unfold k104
  exact xite (xlk_ok (o104_0 scr) pc) (xlk_ok (o104_1 scr) pc)
theorem dX7_watcher_0 : decode cX7_watcher 0 = .ok (.aload_n 0, 1) := by decide +kernel
theorem dX7_watcher_1 : decode cX7_watcher 1 = .ok (.getfield 10, 3) := by decide +kernel
theorem dX7_watcher_4 : decode cX7_watcher 4 = .ok (.iload_n 1, 1) := by decide +kernel
theorem dX7_watcher_5 : decode cX7_watcher 5 = .ok (.invokevirtual 43, 3) := by decide +kernel
theorem dX7_watcher_8 : decode cX7_watcher 8 = .ok (.ifCond .eq 22, 3) := by decide +kernel
theorem dX7_watcher_11 : decode cX7_watcher 11 = .ok (.aload_n 0, 1) := by decide +kernel
theorem dX7_watcher_12 : decode cX7_watcher 12 = .ok (.getfield 10, 3) := by decide +kernel
theorem dX7_watcher_15 : decode cX7_watcher 15 = .ok (.getfield 54, 3) := by decide +kernel
theorem dX7_watcher_18 : decode cX7_watcher 18 = .ok (.iload_n 1, 1) := by decide +kernel
theorem dX7_watcher_19 : decode cX7_watcher 19 = .ok (.aaload, 1) := by decide +kernel
theorem dX7_watcher_20 : decode cX7_watcher 20 = .ok (.getfield 103, 3) := by decide +kernel
theorem dX7_watcher_23 : decode cX7_watcher 23 = .ok (.iload_n 2, 1) := by decide +kernel
theorem dX7_watcher_24 : decode cX7_watcher 24 = .ok (.invokestatic 137, 3) := by decide +kernel
theorem dX7_watcher_27 : decode cX7_watcher 27 = .ok (.goto 4, 3) := by decide +kernel
theorem dX7_watcher_30 : decode cX7_watcher 30 = .ok (.iconst (-1), 1) := by decide +kernel
theorem dX7_watcher_31 : decode cX7_watcher 31 = .ok (.ireturn, 1) := by decide +kernel
def k105_0 : List (Nat × XI) := [(0, x_aload 0 1), (1, x_getR 7 0 4), (4, x_iload 1 5), (5, x_inv 53 6 1 8), (8, x_ifeq 30 11), (11, x_aload 0 12), (12, x_getR 7 0 15), (15, x_getR 6 0 18), (18, x_iload 1 19), (19, x_aald 20), (20, x_getR 0 10 23), (23, x_iload 2 24), (24, x_invS 87 2 27), (27, x_goto 31), (30, x_push (-1) 31), (31, x_iret)]
theorem o105_0 (scr : Nat × (Nat → Int32)) : ∀ q ∈ k105_0, XSnd xm scr Y105 q.1 q.2 := xcons (s_aload_n rfl dX7_watcher_0) (xcons (s_getR (f := 0) xC7 (by decide) xw_320 rfl dX7_watcher_1) (xcons (s_iload_n rfl dX7_watcher_4) (xcons (s_inv (mid := 53) xC6 cal_53 xw_334 xw_131 xw_132 dX7_watcher_5) (xcons (s_ifeq dX7_watcher_8 rfl) (xcons (s_aload_n rfl dX7_watcher_11) (xcons (s_getR (f := 0) xC7 (by decide) xw_320 rfl dX7_watcher_12) (xcons (s_getR (f := 0) xC6 (by decide) xw_366 rfl dX7_watcher_15) (xcons (s_iload_n rfl dX7_watcher_18) (xcons (s_aald dX7_watcher_19) (xcons (s_getR (f := 10) xC0 (by decide) xw_416 rfl dX7_watcher_20) (xcons (s_iload_n rfl dX7_watcher_23) (xcons (s_invS (mid := 87) cal_87 xw_454 xw_455 dX7_watcher_24) (xcons (s_goto dX7_watcher_27 rfl) (xcons (s_iconst dX7_watcher_30 rfl) (xcons (s_iret dX7_watcher_31 rfl) (xnil))))))))))))))))
def k105 (pc : Nat) : XI := xlk k105_0 pc
theorem o105 (scr : Nat × (Nat → Int32)) (pc : Nat) : XSnd xm scr Y105 pc (k105 pc) := by
  unfold k105
  exact xlk_ok (o105_0 scr) pc
theorem dX7_would_0 : decode cX7_would 0 = .ok (.aload_n 0, 1) := by decide +kernel
theorem dX7_would_1 : decode cX7_would 1 = .ok (.getfield 10, 3) := by decide +kernel
theorem dX7_would_4 : decode cX7_would 4 = .ok (.iload_n 1, 1) := by decide +kernel
theorem dX7_would_5 : decode cX7_would 5 = .ok (.invokevirtual 151, 3) := by decide +kernel
theorem dX7_would_8 : decode cX7_would 8 = .ok (.ifCond .eq 19, 3) := by decide +kernel
theorem dX7_would_11 : decode cX7_would 11 = .ok (.iload_n 2, 1) := by decide +kernel
theorem dX7_would_12 : decode cX7_would 12 = .ok (.invokestatic 47, 3) := by decide +kernel
theorem dX7_would_15 : decode cX7_would 15 = .ok (.ifCond .eq 12, 3) := by decide +kernel
theorem dX7_would_18 : decode cX7_would 18 = .ok (.iload_n 3, 1) := by decide +kernel
theorem dX7_would_19 : decode cX7_would 19 = .ok (.ifCond .lt 8, 3) := by decide +kernel
theorem dX7_would_22 : decode cX7_would 22 = .ok (.iload_n 3, 1) := by decide +kernel
theorem dX7_would_23 : decode cX7_would 23 = .ok (.iconst 2, 1) := by decide +kernel
theorem dX7_would_24 : decode cX7_would 24 = .ok (.if_icmp .le 6, 3) := by decide +kernel
theorem dX7_would_27 : decode cX7_would 27 = .ok (.ldc 130, 2) := by decide +kernel
theorem dX7_would_29 : decode cX7_would 29 = .ok (.ireturn, 1) := by decide +kernel
theorem dX7_would_30 : decode cX7_would 30 = .ok (.aload_n 0, 1) := by decide +kernel
theorem dX7_would_31 : decode cX7_would 31 = .ok (.getfield 16, 3) := by decide +kernel
theorem dX7_would_34 : decode cX7_would 34 = .ok (.aload_n 0, 1) := by decide +kernel
theorem dX7_would_35 : decode cX7_would 35 = .ok (.getfield 10, 3) := by decide +kernel
theorem dX7_would_38 : decode cX7_would 38 = .ok (.invokevirtual 172, 3) := by decide +kernel
def k106_0 : List (Nat × XI) := [(0, x_aload 0 1), (1, x_getR 7 0 4), (4, x_iload 1 5), (5, x_inv 54 6 1 8), (8, x_ifeq 27 11), (11, x_iload 2 12), (12, x_invS 85 1 15), (15, x_ifeq 27 18), (18, x_iload 3 19), (19, x_iflt 27 22), (22, x_iload 3 23), (23, x_push (2) 24), (24, x_icle 30 27), (27, x_push (-2000000000) 29), (29, x_iret), (30, x_aload 0 31), (31, x_getR 7 1 34), (34, x_aload 0 35), (35, x_getR 7 0 38), (38, x_inv 42 6 1 41)]
theorem o106_0 (scr : Nat × (Nat → Int32)) : ∀ q ∈ k106_0, XSnd xm scr Y106 q.1 q.2 := xcons (s_aload_n rfl dX7_would_0) (xcons (s_getR (f := 0) xC7 (by decide) xw_320 rfl dX7_would_1) (xcons (s_iload_n rfl dX7_would_4) (xcons (s_inv (mid := 54) xC6 cal_54 xw_336 xw_135 xw_136 dX7_would_5) (xcons (s_ifeq dX7_would_8 rfl) (xcons (s_iload_n rfl dX7_would_11) (xcons (s_invS (mid := 85) cal_85 xw_458 xw_459 dX7_would_12) (xcons (s_ifeq dX7_would_15 rfl) (xcons (s_iload_n rfl dX7_would_18) (xcons (s_iflt dX7_would_19 rfl) (xcons (s_iload_n rfl dX7_would_22) (xcons (s_iconst dX7_would_23 rfl) (xcons (s_icle dX7_would_24 rfl) (xcons (s_ldc dX7_would_27 xw_337) (xcons (s_iret dX7_would_29 rfl) (xcons (s_aload_n rfl dX7_would_30) (xcons (s_getR (f := 1) xC7 (by decide) xw_338 rfl dX7_would_31) (xcons (s_aload_n rfl dX7_would_34) (xcons (s_getR (f := 0) xC7 (by decide) xw_320 rfl dX7_would_35) (xcons (s_inv (mid := 42) xC6 cal_42 xw_328 xw_329 xw_330 dX7_would_38) (xnil))))))))))))))))))))
theorem dX7_would_41 : decode cX7_would 41 = .ok (.aload_n 0, 1) := by decide +kernel
theorem dX7_would_42 : decode cX7_would 42 = .ok (.getfield 16, 3) := by decide +kernel
theorem dX7_would_45 : decode cX7_would 45 = .ok (.iload_n 1, 1) := by decide +kernel
theorem dX7_would_46 : decode cX7_would 46 = .ok (.iconst (-1), 1) := by decide +kernel
theorem dX7_would_47 : decode cX7_would 47 = .ok (.iload_n 2, 1) := by decide +kernel
theorem dX7_would_48 : decode cX7_would 48 = .ok (.invokevirtual 196, 3) := by decide +kernel
theorem dX7_would_51 : decode cX7_would 51 = .ok (.istore 4, 2) := by decide +kernel
theorem dX7_would_53 : decode cX7_would 53 = .ok (.iload 4, 2) := by decide +kernel
theorem dX7_would_55 : decode cX7_would 55 = .ok (.ifCond .eq 13, 3) := by decide +kernel
theorem dX7_would_58 : decode cX7_would 58 = .ok (.aload_n 0, 1) := by decide +kernel
theorem dX7_would_59 : decode cX7_would 59 = .ok (.getfield 16, 3) := by decide +kernel
theorem dX7_would_62 : decode cX7_would 62 = .ok (.iload_n 1, 1) := by decide +kernel
theorem dX7_would_63 : decode cX7_would 63 = .ok (.iload 4, 2) := by decide +kernel
theorem dX7_would_65 : decode cX7_would 65 = .ok (.invokevirtual 200, 3) := by decide +kernel
theorem dX7_would_68 : decode cX7_would 68 = .ok (.iload_n 3, 1) := by decide +kernel
theorem dX7_would_69 : decode cX7_would 69 = .ok (.ifCond .ne 16, 3) := by decide +kernel
theorem dX7_would_72 : decode cX7_would 72 = .ok (.aload_n 0, 1) := by decide +kernel
theorem dX7_would_73 : decode cX7_would 73 = .ok (.getfield 16, 3) := by decide +kernel
theorem dX7_would_76 : decode cX7_would 76 = .ok (.getfield 54, 3) := by decide +kernel
theorem dX7_would_79 : decode cX7_would 79 = .ok (.iload_n 1, 1) := by decide +kernel
def k106_1 : List (Nat × XI) := [(41, x_aload 0 42), (42, x_getR 7 1 45), (45, x_iload 1 46), (46, x_push (-1) 47), (47, x_iload 2 48), (48, x_inv 43 6 3 51), (51, x_istore 4 53), (53, x_iload 4 55), (55, x_ifeq 68 58), (58, x_aload 0 59), (59, x_getR 7 1 62), (62, x_iload 1 63), (63, x_iload 4 65), (65, x_inv 46 6 2 68), (68, x_iload 3 69), (69, x_ifne 85 72), (72, x_aload 0 73), (73, x_getR 7 1 76), (76, x_getR 6 0 79), (79, x_iload 1 80)]
theorem o106_1 (scr : Nat × (Nat → Int32)) : ∀ q ∈ k106_1, XSnd xm scr Y106 q.1 q.2 := xcons (s_aload_n rfl dX7_would_41) (xcons (s_getR (f := 1) xC7 (by decide) xw_338 rfl dX7_would_42) (xcons (s_iload_n rfl dX7_would_45) (xcons (s_iconst dX7_would_46 rfl) (xcons (s_iload_n rfl dX7_would_47) (xcons (s_inv (mid := 43) xC6 cal_43 xw_464 xw_306 xw_307 dX7_would_48) (xcons (s_istore dX7_would_51 (by decide)) (xcons (s_iload dX7_would_53) (xcons (s_ifeq dX7_would_55 rfl) (xcons (s_aload_n rfl dX7_would_58) (xcons (s_getR (f := 1) xC7 (by decide) xw_338 rfl dX7_would_59) (xcons (s_iload_n rfl dX7_would_62) (xcons (s_iload dX7_would_63) (xcons (s_inv (mid := 46) xC6 cal_46 xw_340 xw_310 xw_311 dX7_would_65) (xcons (s_iload_n rfl dX7_would_68) (xcons (s_ifne dX7_would_69 rfl) (xcons (s_aload_n rfl dX7_would_72) (xcons (s_getR (f := 1) xC7 (by decide) xw_338 rfl dX7_would_73) (xcons (s_getR (f := 0) xC6 (by decide) xw_366 rfl dX7_would_76) (xcons (s_iload_n rfl dX7_would_79) (xnil))))))))))))))))))))
theorem dX7_would_80 : decode cX7_would 80 = .ok (.aaload, 1) := by decide +kernel
theorem dX7_would_81 : decode cX7_would 81 = .ok (.getfield 127, 3) := by decide +kernel
theorem dX7_would_84 : decode cX7_would 84 = .ok (.ireturn, 1) := by decide +kernel
theorem dX7_would_85 : decode cX7_would 85 = .ok (.iload_n 3, 1) := by decide +kernel
theorem dX7_would_86 : decode cX7_would 86 = .ok (.iconst 2, 1) := by decide +kernel
theorem dX7_would_87 : decode cX7_would 87 = .ok (.if_icmp .ne 8, 3) := by decide +kernel
theorem dX7_would_90 : decode cX7_would 90 = .ok (.iload 4, 2) := by decide +kernel
theorem dX7_would_92 : decode cX7_would 92 = .ok (.goto 19, 3) := by decide +kernel
theorem dX7_would_95 : decode cX7_would 95 = .ok (.aload_n 0, 1) := by decide +kernel
theorem dX7_would_96 : decode cX7_would 96 = .ok (.getfield 16, 3) := by decide +kernel
theorem dX7_would_99 : decode cX7_would 99 = .ok (.iload_n 1, 1) := by decide +kernel
theorem dX7_would_100 : decode cX7_would 100 = .ok (.invokevirtual 151, 3) := by decide +kernel
theorem dX7_would_103 : decode cX7_would 103 = .ok (.ifCond .eq 7, 3) := by decide +kernel
theorem dX7_would_106 : decode cX7_would 106 = .ok (.iconst 1, 1) := by decide +kernel
theorem dX7_would_107 : decode cX7_would 107 = .ok (.goto 4, 3) := by decide +kernel
theorem dX7_would_110 : decode cX7_would 110 = .ok (.iconst 0, 1) := by decide +kernel
theorem dX7_would_111 : decode cX7_would 111 = .ok (.ireturn, 1) := by decide +kernel
def k106_2 : List (Nat × XI) := [(80, x_aald 81), (81, x_getI 0 5 84), (84, x_iret), (85, x_iload 3 86), (86, x_push (2) 87), (87, x_icne 95 90), (90, x_iload 4 92), (92, x_goto 111), (95, x_aload 0 96), (96, x_getR 7 1 99), (99, x_iload 1 100), (100, x_inv 54 6 1 103), (103, x_ifeq 110 106), (106, x_push (1) 107), (107, x_goto 111), (110, x_push (0) 111), (111, x_iret)]
theorem o106_2 (scr : Nat × (Nat → Int32)) : ∀ q ∈ k106_2, XSnd xm scr Y106 q.1 q.2 := xcons (s_aald dX7_would_80) (xcons (s_getI (f := 5) xC0 (by decide) xw_367 rfl dX7_would_81) (xcons (s_iret dX7_would_84 rfl) (xcons (s_iload_n rfl dX7_would_85) (xcons (s_iconst dX7_would_86 rfl) (xcons (s_icne dX7_would_87 rfl) (xcons (s_iload dX7_would_90) (xcons (s_goto dX7_would_92 rfl) (xcons (s_aload_n rfl dX7_would_95) (xcons (s_getR (f := 1) xC7 (by decide) xw_338 rfl dX7_would_96) (xcons (s_iload_n rfl dX7_would_99) (xcons (s_inv (mid := 54) xC6 cal_54 xw_336 xw_135 xw_136 dX7_would_100) (xcons (s_ifeq dX7_would_103 rfl) (xcons (s_iconst dX7_would_106 rfl) (xcons (s_goto dX7_would_107 rfl) (xcons (s_iconst dX7_would_110 rfl) (xcons (s_iret dX7_would_111 rfl) (xnil)))))))))))))))))
def k106 (pc : Nat) : XI := if pc < 41 then xlk k106_0 pc else if pc < 80 then xlk k106_1 pc else xlk k106_2 pc
theorem o106 (scr : Nat × (Nat → Int32)) (pc : Nat) : XSnd xm scr Y106 pc (k106 pc) := by
  unfold k106
  exact xite (xlk_ok (o106_0 scr) pc) (xite (xlk_ok (o106_1 scr) pc) (xlk_ok (o106_2 scr) pc))
theorem dX8_actor_0 : decode cX8_actor 0 = .ok (.aload_n 0, 1) := by decide +kernel
theorem dX8_actor_1 : decode cX8_actor 1 = .ok (.iload_n 1, 1) := by decide +kernel
theorem dX8_actor_2 : decode cX8_actor 2 = .ok (.iload_n 2, 1) := by decide +kernel
theorem dX8_actor_3 : decode cX8_actor 3 = .ok (.iload_n 3, 1) := by decide +kernel
theorem dX8_actor_4 : decode cX8_actor 4 = .ok (.invokevirtual 173, 3) := by decide +kernel
theorem dX8_actor_7 : decode cX8_actor 7 = .ok (.istore 4, 2) := by decide +kernel
theorem dX8_actor_9 : decode cX8_actor 9 = .ok (.iload 4, 2) := by decide +kernel
theorem dX8_actor_11 : decode cX8_actor 11 = .ok (.ifCond .eq 6, 3) := by decide +kernel
theorem dX8_actor_14 : decode cX8_actor 14 = .ok (.iload 4, 2) := by decide +kernel
theorem dX8_actor_16 : decode cX8_actor 16 = .ok (.ireturn, 1) := by decide +kernel
theorem dX8_actor_17 : decode cX8_actor 17 = .ok (.aload_n 0, 1) := by decide +kernel
theorem dX8_actor_18 : decode cX8_actor 18 = .ok (.getfield 9, 3) := by decide +kernel
theorem dX8_actor_21 : decode cX8_actor 21 = .ok (.sipush 924, 3) := by decide +kernel
theorem dX8_actor_24 : decode cX8_actor 24 = .ok (.dup2, 1) := by decide +kernel
theorem dX8_actor_25 : decode cX8_actor 25 = .ok (.iaload, 1) := by decide +kernel
theorem dX8_actor_26 : decode cX8_actor 26 = .ok (.dup_x2, 1) := by decide +kernel
theorem dX8_actor_27 : decode cX8_actor 27 = .ok (.iconst 1, 1) := by decide +kernel
theorem dX8_actor_28 : decode cX8_actor 28 = .ok (.iadd, 1) := by decide +kernel
theorem dX8_actor_29 : decode cX8_actor 29 = .ok (.iastore, 1) := by decide +kernel
theorem dX8_actor_30 : decode cX8_actor 30 = .ok (.istore 5, 2) := by decide +kernel
def k107_0 : List (Nat × XI) := [(0, x_aload 0 1), (1, x_iload 1 2), (2, x_iload 2 3), (3, x_iload 3 4), (4, x_inv 112 8 3 7), (7, x_istore 4 9), (9, x_iload 4 11), (11, x_ifeq 17 14), (14, x_iload 4 16), (16, x_iret), (17, x_aload 0 18), (18, x_getR 8 0 21), (21, x_push (924) 24), (24, x_dup2 25), (25, x_iald 26), (26, x_dup_x2 27), (27, x_push (1) 28), (28, x_iadd 29), (29, x_iast 30), (30, x_istore 5 32)]
theorem o107_0 (scr : Nat × (Nat → Int32)) : ∀ q ∈ k107_0, XSnd xm scr Y107 q.1 q.2 := xcons (s_aload_n rfl dX8_actor_0) (xcons (s_iload_n rfl dX8_actor_1) (xcons (s_iload_n rfl dX8_actor_2) (xcons (s_iload_n rfl dX8_actor_3) (xcons (s_inv (mid := 112) xC8 cal_112 xw_467 xw_468 xw_469 dX8_actor_4) (xcons (s_istore dX8_actor_7 (by decide)) (xcons (s_iload dX8_actor_9) (xcons (s_ifeq dX8_actor_11 rfl) (xcons (s_iload dX8_actor_14) (xcons (s_iret dX8_actor_16 rfl) (xcons (s_aload_n rfl dX8_actor_17) (xcons (s_getR (f := 0) xC8 (by decide) xw_470 rfl dX8_actor_18) (xcons (s_sipush dX8_actor_21 rfl) (xcons (s_dup2 dX8_actor_24) (xcons (s_iald dX8_actor_25) (xcons (s_dup_x2 dX8_actor_26) (xcons (s_iconst dX8_actor_27 rfl) (xcons (s_iadd dX8_actor_28) (xcons (s_iast dX8_actor_29) (xcons (s_istore dX8_actor_30 (by decide)) (xnil))))))))))))))))))))
theorem dX8_actor_32 : decode cX8_actor 32 = .ok (.iconst 0, 1) := by decide +kernel
theorem dX8_actor_33 : decode cX8_actor 33 = .ok (.istore 6, 2) := by decide +kernel
theorem dX8_actor_35 : decode cX8_actor 35 = .ok (.iload 6, 2) := by decide +kernel
theorem dX8_actor_37 : decode cX8_actor 37 = .ok (.bipush 77, 2) := by decide +kernel
theorem dX8_actor_39 : decode cX8_actor 39 = .ok (.if_icmp .ge 18, 3) := by decide +kernel
theorem dX8_actor_42 : decode cX8_actor 42 = .ok (.aload_n 0, 1) := by decide +kernel
theorem dX8_actor_43 : decode cX8_actor 43 = .ok (.iload 5, 2) := by decide +kernel
theorem dX8_actor_45 : decode cX8_actor 45 = .ok (.iload 6, 2) := by decide +kernel
theorem dX8_actor_47 : decode cX8_actor 47 = .ok (.iconst 0, 1) := by decide +kernel
theorem dX8_actor_48 : decode cX8_actor 48 = .ok (.invokevirtual 63, 3) := by decide +kernel
theorem dX8_actor_51 : decode cX8_actor 51 = .ok (.iinc 6 1, 3) := by decide +kernel
theorem dX8_actor_54 : decode cX8_actor 54 = .ok (.goto (-19), 3) := by decide +kernel
theorem dX8_actor_57 : decode cX8_actor 57 = .ok (.aload_n 0, 1) := by decide +kernel
theorem dX8_actor_58 : decode cX8_actor 58 = .ok (.iload 5, 2) := by decide +kernel
theorem dX8_actor_60 : decode cX8_actor 60 = .ok (.iconst 0, 1) := by decide +kernel
theorem dX8_actor_61 : decode cX8_actor 61 = .ok (.iload_n 1, 1) := by decide +kernel
theorem dX8_actor_62 : decode cX8_actor 62 = .ok (.invokevirtual 63, 3) := by decide +kernel
theorem dX8_actor_65 : decode cX8_actor 65 = .ok (.aload_n 0, 1) := by decide +kernel
theorem dX8_actor_66 : decode cX8_actor 66 = .ok (.iload 5, 2) := by decide +kernel
theorem dX8_actor_68 : decode cX8_actor 68 = .ok (.iconst 1, 1) := by decide +kernel
def k107_1 : List (Nat × XI) := [(32, x_push (0) 33), (33, x_istore 6 35), (35, x_iload 6 37), (37, x_push (77) 39), (39, x_icge 57 42), (42, x_aload 0 43), (43, x_iload 5 45), (45, x_iload 6 47), (47, x_push (0) 48), (48, x_inv 172 8 3 51), (51, x_iinc 6 (1) 54), (54, x_goto 35), (57, x_aload 0 58), (58, x_iload 5 60), (60, x_push (0) 61), (61, x_iload 1 62), (62, x_inv 172 8 3 65), (65, x_aload 0 66), (66, x_iload 5 68), (68, x_push (1) 69)]
theorem o107_1 (scr : Nat × (Nat → Int32)) : ∀ q ∈ k107_1, XSnd xm scr Y107 q.1 q.2 := xcons (s_iconst dX8_actor_32 rfl) (xcons (s_istore dX8_actor_33 (by decide)) (xcons (s_iload dX8_actor_35) (xcons (s_bipush dX8_actor_37 rfl) (xcons (s_icge dX8_actor_39 rfl) (xcons (s_aload_n rfl dX8_actor_42) (xcons (s_iload dX8_actor_43) (xcons (s_iload dX8_actor_45) (xcons (s_iconst dX8_actor_47 rfl) (xcons (s_inv (mid := 172) xC8 cal_172 xw_472 xw_473 xw_474 dX8_actor_48) (xcons (s_iinc dX8_actor_51 rfl (by decide)) (xcons (s_goto dX8_actor_54 rfl) (xcons (s_aload_n rfl dX8_actor_57) (xcons (s_iload dX8_actor_58) (xcons (s_iconst dX8_actor_60 rfl) (xcons (s_iload_n rfl dX8_actor_61) (xcons (s_inv (mid := 172) xC8 cal_172 xw_472 xw_473 xw_474 dX8_actor_62) (xcons (s_aload_n rfl dX8_actor_65) (xcons (s_iload dX8_actor_66) (xcons (s_iconst dX8_actor_68 rfl) (xnil))))))))))))))))))))
theorem dX8_actor_69 : decode cX8_actor 69 = .ok (.iload_n 2, 1) := by decide +kernel
theorem dX8_actor_70 : decode cX8_actor 70 = .ok (.invokevirtual 63, 3) := by decide +kernel
theorem dX8_actor_73 : decode cX8_actor 73 = .ok (.aload_n 0, 1) := by decide +kernel
theorem dX8_actor_74 : decode cX8_actor 74 = .ok (.iload 5, 2) := by decide +kernel
theorem dX8_actor_76 : decode cX8_actor 76 = .ok (.iconst 2, 1) := by decide +kernel
theorem dX8_actor_77 : decode cX8_actor 77 = .ok (.iload_n 3, 1) := by decide +kernel
theorem dX8_actor_78 : decode cX8_actor 78 = .ok (.sipush 1000, 3) := by decide +kernel
theorem dX8_actor_81 : decode cX8_actor 81 = .ok (.idiv, 1) := by decide +kernel
theorem dX8_actor_82 : decode cX8_actor 82 = .ok (.invokevirtual 63, 3) := by decide +kernel
theorem dX8_actor_85 : decode cX8_actor 85 = .ok (.aload_n 0, 1) := by decide +kernel
theorem dX8_actor_86 : decode cX8_actor 86 = .ok (.iload 5, 2) := by decide +kernel
theorem dX8_actor_88 : decode cX8_actor 88 = .ok (.iconst 3, 1) := by decide +kernel
theorem dX8_actor_89 : decode cX8_actor 89 = .ok (.iload_n 3, 1) := by decide +kernel
theorem dX8_actor_90 : decode cX8_actor 90 = .ok (.bipush 100, 2) := by decide +kernel
theorem dX8_actor_92 : decode cX8_actor 92 = .ok (.idiv, 1) := by decide +kernel
theorem dX8_actor_93 : decode cX8_actor 93 = .ok (.bipush 10, 2) := by decide +kernel
theorem dX8_actor_95 : decode cX8_actor 95 = .ok (.irem, 1) := by decide +kernel
theorem dX8_actor_96 : decode cX8_actor 96 = .ok (.invokevirtual 63, 3) := by decide +kernel
theorem dX8_actor_99 : decode cX8_actor 99 = .ok (.aload_n 0, 1) := by decide +kernel
theorem dX8_actor_100 : decode cX8_actor 100 = .ok (.iload 5, 2) := by decide +kernel
def k107_2 : List (Nat × XI) := [(69, x_iload 2 70), (70, x_inv 172 8 3 73), (73, x_aload 0 74), (74, x_iload 5 76), (76, x_push (2) 77), (77, x_iload 3 78), (78, x_push (1000) 81), (81, x_idiv 82), (82, x_inv 172 8 3 85), (85, x_aload 0 86), (86, x_iload 5 88), (88, x_push (3) 89), (89, x_iload 3 90), (90, x_push (100) 92), (92, x_idiv 93), (93, x_push (10) 95), (95, x_irem 96), (96, x_inv 172 8 3 99), (99, x_aload 0 100), (100, x_iload 5 102)]
theorem o107_2 (scr : Nat × (Nat → Int32)) : ∀ q ∈ k107_2, XSnd xm scr Y107 q.1 q.2 := xcons (s_iload_n rfl dX8_actor_69) (xcons (s_inv (mid := 172) xC8 cal_172 xw_472 xw_473 xw_474 dX8_actor_70) (xcons (s_aload_n rfl dX8_actor_73) (xcons (s_iload dX8_actor_74) (xcons (s_iconst dX8_actor_76 rfl) (xcons (s_iload_n rfl dX8_actor_77) (xcons (s_sipush dX8_actor_78 rfl) (xcons (s_idiv dX8_actor_81) (xcons (s_inv (mid := 172) xC8 cal_172 xw_472 xw_473 xw_474 dX8_actor_82) (xcons (s_aload_n rfl dX8_actor_85) (xcons (s_iload dX8_actor_86) (xcons (s_iconst dX8_actor_88 rfl) (xcons (s_iload_n rfl dX8_actor_89) (xcons (s_bipush dX8_actor_90 rfl) (xcons (s_idiv dX8_actor_92) (xcons (s_bipush dX8_actor_93 rfl) (xcons (s_irem dX8_actor_95) (xcons (s_inv (mid := 172) xC8 cal_172 xw_472 xw_473 xw_474 dX8_actor_96) (xcons (s_aload_n rfl dX8_actor_99) (xcons (s_iload dX8_actor_100) (xnil))))))))))))))))))))
theorem dX8_actor_102 : decode cX8_actor 102 = .ok (.iconst 4, 1) := by decide +kernel
theorem dX8_actor_103 : decode cX8_actor 103 = .ok (.iload_n 3, 1) := by decide +kernel
theorem dX8_actor_104 : decode cX8_actor 104 = .ok (.bipush 100, 2) := by decide +kernel
theorem dX8_actor_106 : decode cX8_actor 106 = .ok (.irem, 1) := by decide +kernel
theorem dX8_actor_107 : decode cX8_actor 107 = .ok (.invokevirtual 63, 3) := by decide +kernel
theorem dX8_actor_110 : decode cX8_actor 110 = .ok (.aload_n 0, 1) := by decide +kernel
theorem dX8_actor_111 : decode cX8_actor 111 = .ok (.iload 5, 2) := by decide +kernel
theorem dX8_actor_113 : decode cX8_actor 113 = .ok (.iconst 5, 1) := by decide +kernel
theorem dX8_actor_114 : decode cX8_actor 114 = .ok (.iconst 1, 1) := by decide +kernel
theorem dX8_actor_115 : decode cX8_actor 115 = .ok (.invokevirtual 63, 3) := by decide +kernel
theorem dX8_actor_118 : decode cX8_actor 118 = .ok (.aload_n 0, 1) := by decide +kernel
theorem dX8_actor_119 : decode cX8_actor 119 = .ok (.iload 5, 2) := by decide +kernel
theorem dX8_actor_121 : decode cX8_actor 121 = .ok (.bipush 7, 2) := by decide +kernel
theorem dX8_actor_123 : decode cX8_actor 123 = .ok (.iconst 1, 1) := by decide +kernel
theorem dX8_actor_124 : decode cX8_actor 124 = .ok (.invokevirtual 63, 3) := by decide +kernel
theorem dX8_actor_127 : decode cX8_actor 127 = .ok (.aload_n 0, 1) := by decide +kernel
theorem dX8_actor_128 : decode cX8_actor 128 = .ok (.iload 5, 2) := by decide +kernel
theorem dX8_actor_130 : decode cX8_actor 130 = .ok (.bipush 8, 2) := by decide +kernel
theorem dX8_actor_132 : decode cX8_actor 132 = .ok (.iload_n 2, 1) := by decide +kernel
theorem dX8_actor_133 : decode cX8_actor 133 = .ok (.invokevirtual 63, 3) := by decide +kernel
def k107_3 : List (Nat × XI) := [(102, x_push (4) 103), (103, x_iload 3 104), (104, x_push (100) 106), (106, x_irem 107), (107, x_inv 172 8 3 110), (110, x_aload 0 111), (111, x_iload 5 113), (113, x_push (5) 114), (114, x_push (1) 115), (115, x_inv 172 8 3 118), (118, x_aload 0 119), (119, x_iload 5 121), (121, x_push (7) 123), (123, x_push (1) 124), (124, x_inv 172 8 3 127), (127, x_aload 0 128), (128, x_iload 5 130), (130, x_push (8) 132), (132, x_iload 2 133), (133, x_inv 172 8 3 136)]
theorem o107_3 (scr : Nat × (Nat → Int32)) : ∀ q ∈ k107_3, XSnd xm scr Y107 q.1 q.2 := xcons (s_iconst dX8_actor_102 rfl) (xcons (s_iload_n rfl dX8_actor_103) (xcons (s_bipush dX8_actor_104 rfl) (xcons (s_irem dX8_actor_106) (xcons (s_inv (mid := 172) xC8 cal_172 xw_472 xw_473 xw_474 dX8_actor_107) (xcons (s_aload_n rfl dX8_actor_110) (xcons (s_iload dX8_actor_111) (xcons (s_iconst dX8_actor_113 rfl) (xcons (s_iconst dX8_actor_114 rfl) (xcons (s_inv (mid := 172) xC8 cal_172 xw_472 xw_473 xw_474 dX8_actor_115) (xcons (s_aload_n rfl dX8_actor_118) (xcons (s_iload dX8_actor_119) (xcons (s_bipush dX8_actor_121 rfl) (xcons (s_iconst dX8_actor_123 rfl) (xcons (s_inv (mid := 172) xC8 cal_172 xw_472 xw_473 xw_474 dX8_actor_124) (xcons (s_aload_n rfl dX8_actor_127) (xcons (s_iload dX8_actor_128) (xcons (s_bipush dX8_actor_130 rfl) (xcons (s_iload_n rfl dX8_actor_132) (xcons (s_inv (mid := 172) xC8 cal_172 xw_472 xw_473 xw_474 dX8_actor_133) (xnil))))))))))))))))))))
theorem dX8_actor_136 : decode cX8_actor 136 = .ok (.iload 5, 2) := by decide +kernel
theorem dX8_actor_138 : decode cX8_actor 138 = .ok (.ireturn, 1) := by decide +kernel
def k107_4 : List (Nat × XI) := [(136, x_iload 5 138), (138, x_iret)]
theorem o107_4 (scr : Nat × (Nat → Int32)) : ∀ q ∈ k107_4, XSnd xm scr Y107 q.1 q.2 := xcons (s_iload dX8_actor_136) (xcons (s_iret dX8_actor_138 rfl) (xnil))
def k107 (pc : Nat) : XI := if pc < 69 then if pc < 32 then xlk k107_0 pc else xlk k107_1 pc else if pc < 102 then xlk k107_2 pc else if pc < 136 then xlk k107_3 pc else xlk k107_4 pc
theorem o107 (scr : Nat × (Nat → Int32)) (pc : Nat) : XSnd xm scr Y107 pc (k107 pc) := by
  unfold k107
  exact xite (xite (xlk_ok (o107_0 scr) pc) (xlk_ok (o107_1 scr) pc)) (xite (xlk_ok (o107_2 scr) pc) (xite (xlk_ok (o107_3 scr) pc) (xlk_ok (o107_4 scr) pc)))
theorem dX8_at_0 : decode cX8_at 0 = .ok (.aload_n 0, 1) := by decide +kernel
theorem dX8_at_1 : decode cX8_at 1 = .ok (.getfield 9, 3) := by decide +kernel
theorem dX8_at_4 : decode cX8_at 4 = .ok (.iload_n 1, 1) := by decide +kernel
theorem dX8_at_5 : decode cX8_at 5 = .ok (.bipush 77, 2) := by decide +kernel
theorem dX8_at_7 : decode cX8_at 7 = .ok (.imul, 1) := by decide +kernel
theorem dX8_at_8 : decode cX8_at 8 = .ok (.iload_n 2, 1) := by decide +kernel
theorem dX8_at_9 : decode cX8_at 9 = .ok (.iadd, 1) := by decide +kernel
theorem dX8_at_10 : decode cX8_at 10 = .ok (.iaload, 1) := by decide +kernel
theorem dX8_at_11 : decode cX8_at 11 = .ok (.ireturn, 1) := by decide +kernel
def k108_0 : List (Nat × XI) := [(0, x_aload 0 1), (1, x_getR 8 0 4), (4, x_iload 1 5), (5, x_push (77) 7), (7, x_imul 8), (8, x_iload 2 9), (9, x_iadd 10), (10, x_iald 11), (11, x_iret)]
theorem o108_0 (scr : Nat × (Nat → Int32)) : ∀ q ∈ k108_0, XSnd xm scr Y108 q.1 q.2 := xcons (s_aload_n rfl dX8_at_0) (xcons (s_getR (f := 0) xC8 (by decide) xw_470 rfl dX8_at_1) (xcons (s_iload_n rfl dX8_at_4) (xcons (s_bipush dX8_at_5 rfl) (xcons (s_imul dX8_at_7) (xcons (s_iload_n rfl dX8_at_8) (xcons (s_iadd dX8_at_9) (xcons (s_iald dX8_at_10) (xcons (s_iret dX8_at_11 rfl) (xnil)))))))))
def k108 (pc : Nat) : XI := xlk k108_0 pc
theorem o108 (scr : Nat × (Nat → Int32)) (pc : Nat) : XSnd xm scr Y108 pc (k108 pc) := by
  unfold k108
  exact xlk_ok (o108_0 scr) pc
theorem dX8_back_0 : decode cX8_back 0 = .ok (.aload_n 0, 1) := by decide +kernel
theorem dX8_back_1 : decode cX8_back 1 = .ok (.getfield 248, 3) := by decide +kernel
theorem dX8_back_4 : decode cX8_back 4 = .ok (.ifCond .ne 6, 3) := by decide +kernel
theorem dX8_back_7 : decode cX8_back 7 = .ok (.bipush (-5), 2) := by decide +kernel
theorem dX8_back_9 : decode cX8_back 9 = .ok (.ireturn, 1) := by decide +kernel
theorem dX8_back_10 : decode cX8_back 10 = .ok (.aload_n 0, 1) := by decide +kernel
theorem dX8_back_11 : decode cX8_back 11 = .ok (.getfield 19, 3) := by decide +kernel
theorem dX8_back_14 : decode cX8_back 14 = .ok (.aload_n 0, 1) := by decide +kernel
theorem dX8_back_15 : decode cX8_back 15 = .ok (.getfield 9, 3) := by decide +kernel
theorem dX8_back_18 : decode cX8_back 18 = .ok (.invokestatic 200, 3) := by decide +kernel
theorem dX8_back_21 : decode cX8_back 21 = .ok (.iconst 0, 1) := by decide +kernel
theorem dX8_back_22 : decode cX8_back 22 = .ok (.istore_n 1, 1) := by decide +kernel
theorem dX8_back_23 : decode cX8_back 23 = .ok (.iload_n 1, 1) := by decide +kernel
theorem dX8_back_24 : decode cX8_back 24 = .ok (.bipush 6, 2) := by decide +kernel
theorem dX8_back_26 : decode cX8_back 26 = .ok (.if_icmp .ge 52, 3) := by decide +kernel
theorem dX8_back_29 : decode cX8_back 29 = .ok (.aload_n 0, 1) := by decide +kernel
theorem dX8_back_30 : decode cX8_back 30 = .ok (.getfield 28, 3) := by decide +kernel
theorem dX8_back_33 : decode cX8_back 33 = .ok (.iload_n 1, 1) := by decide +kernel
theorem dX8_back_34 : decode cX8_back 34 = .ok (.aload_n 0, 1) := by decide +kernel
theorem dX8_back_35 : decode cX8_back 35 = .ok (.getfield 28, 3) := by decide +kernel
def k109_0 : List (Nat × XI) := [(0, x_aload 0 1), (1, x_getI 8 4 4), (4, x_ifne 10 7), (7, x_push (-5) 9), (9, x_iret), (10, x_aload 0 11), (11, x_getR 8 3 14), (14, x_aload 0 15), (15, x_getR 8 0 18), (18, x_invS 179 2 21), (21, x_push (0) 22), (22, x_istore 1 23), (23, x_iload 1 24), (24, x_push (6) 26), (26, x_icge 78 29), (29, x_aload 0 30), (30, x_getR 8 12 33), (33, x_iload 1 34), (34, x_aload 0 35), (35, x_getR 8 12 38)]
theorem o109_0 (scr : Nat × (Nat → Int32)) : ∀ q ∈ k109_0, XSnd xm scr Y109 q.1 q.2 := xcons (s_aload_n rfl dX8_back_0) (xcons (s_getI (f := 4) xC8 (by decide) xw_475 rfl dX8_back_1) (xcons (s_ifne dX8_back_4 rfl) (xcons (s_bipush dX8_back_7 rfl) (xcons (s_iret dX8_back_9 rfl) (xcons (s_aload_n rfl dX8_back_10) (xcons (s_getR (f := 3) xC8 (by decide) xw_476 rfl dX8_back_11) (xcons (s_aload_n rfl dX8_back_14) (xcons (s_getR (f := 0) xC8 (by decide) xw_470 rfl dX8_back_15) (xcons (s_invS (mid := 179) cal_179 xw_478 xw_479 dX8_back_18) (xcons (s_iconst dX8_back_21 rfl) (xcons (s_istore_n rfl dX8_back_22 (by decide)) (xcons (s_iload_n rfl dX8_back_23) (xcons (s_bipush dX8_back_24 rfl) (xcons (s_icge dX8_back_26 rfl) (xcons (s_aload_n rfl dX8_back_29) (xcons (s_getR (f := 12) xC8 (by decide) xw_480 rfl dX8_back_30) (xcons (s_iload_n rfl dX8_back_33) (xcons (s_aload_n rfl dX8_back_34) (xcons (s_getR (f := 12) xC8 (by decide) xw_480 rfl dX8_back_35) (xnil))))))))))))))))))))
theorem dX8_back_38 : decode cX8_back 38 = .ok (.iload_n 1, 1) := by decide +kernel
theorem dX8_back_39 : decode cX8_back 39 = .ok (.iaload, 1) := by decide +kernel
theorem dX8_back_40 : decode cX8_back 40 = .ok (.iconst 1, 1) := by decide +kernel
theorem dX8_back_41 : decode cX8_back 41 = .ok (.if_icmp .ne 24, 3) := by decide +kernel
theorem dX8_back_44 : decode cX8_back 44 = .ok (.aload_n 0, 1) := by decide +kernel
theorem dX8_back_45 : decode cX8_back 45 = .ok (.getfield 31, 3) := by decide +kernel
theorem dX8_back_48 : decode cX8_back 48 = .ok (.iload_n 1, 1) := by decide +kernel
theorem dX8_back_49 : decode cX8_back 49 = .ok (.iaload, 1) := by decide +kernel
theorem dX8_back_50 : decode cX8_back 50 = .ok (.aload_n 0, 1) := by decide +kernel
theorem dX8_back_51 : decode cX8_back 51 = .ok (.getfield 9, 3) := by decide +kernel
theorem dX8_back_54 : decode cX8_back 54 = .ok (.sipush 924, 3) := by decide +kernel
theorem dX8_back_57 : decode cX8_back 57 = .ok (.iaload, 1) := by decide +kernel
theorem dX8_back_58 : decode cX8_back 58 = .ok (.if_icmp .lt 7, 3) := by decide +kernel
theorem dX8_back_61 : decode cX8_back 61 = .ok (.iconst 0, 1) := by decide +kernel
theorem dX8_back_62 : decode cX8_back 62 = .ok (.goto 9, 3) := by decide +kernel
theorem dX8_back_65 : decode cX8_back 65 = .ok (.aload_n 0, 1) := by decide +kernel
theorem dX8_back_66 : decode cX8_back 66 = .ok (.getfield 28, 3) := by decide +kernel
theorem dX8_back_69 : decode cX8_back 69 = .ok (.iload_n 1, 1) := by decide +kernel
theorem dX8_back_70 : decode cX8_back 70 = .ok (.iaload, 1) := by decide +kernel
theorem dX8_back_71 : decode cX8_back 71 = .ok (.iastore, 1) := by decide +kernel
def k109_1 : List (Nat × XI) := [(38, x_iload 1 39), (39, x_iald 40), (40, x_push (1) 41), (41, x_icne 65 44), (44, x_aload 0 45), (45, x_getR 8 13 48), (48, x_iload 1 49), (49, x_iald 50), (50, x_aload 0 51), (51, x_getR 8 0 54), (54, x_push (924) 57), (57, x_iald 58), (58, x_iclt 65 61), (61, x_push (0) 62), (62, x_goto 71), (65, x_aload 0 66), (66, x_getR 8 12 69), (69, x_iload 1 70), (70, x_iald 71), (71, x_iast 72)]
theorem o109_1 (scr : Nat × (Nat → Int32)) : ∀ q ∈ k109_1, XSnd xm scr Y109 q.1 q.2 := xcons (s_iload_n rfl dX8_back_38) (xcons (s_iald dX8_back_39) (xcons (s_iconst dX8_back_40 rfl) (xcons (s_icne dX8_back_41 rfl) (xcons (s_aload_n rfl dX8_back_44) (xcons (s_getR (f := 13) xC8 (by decide) xw_481 rfl dX8_back_45) (xcons (s_iload_n rfl dX8_back_48) (xcons (s_iald dX8_back_49) (xcons (s_aload_n rfl dX8_back_50) (xcons (s_getR (f := 0) xC8 (by decide) xw_470 rfl dX8_back_51) (xcons (s_sipush dX8_back_54 rfl) (xcons (s_iald dX8_back_57) (xcons (s_iclt dX8_back_58 rfl) (xcons (s_iconst dX8_back_61 rfl) (xcons (s_goto dX8_back_62 rfl) (xcons (s_aload_n rfl dX8_back_65) (xcons (s_getR (f := 12) xC8 (by decide) xw_480 rfl dX8_back_66) (xcons (s_iload_n rfl dX8_back_69) (xcons (s_iald dX8_back_70) (xcons (s_iast dX8_back_71) (xnil))))))))))))))))))))
theorem dX8_back_72 : decode cX8_back 72 = .ok (.iinc 1 1, 3) := by decide +kernel
theorem dX8_back_75 : decode cX8_back 75 = .ok (.goto (-52), 3) := by decide +kernel
theorem dX8_back_78 : decode cX8_back 78 = .ok (.aload_n 0, 1) := by decide +kernel
theorem dX8_back_79 : decode cX8_back 79 = .ok (.getfield 9, 3) := by decide +kernel
theorem dX8_back_82 : decode cX8_back 82 = .ok (.sipush 924, 3) := by decide +kernel
theorem dX8_back_85 : decode cX8_back 85 = .ok (.iaload, 1) := by decide +kernel
theorem dX8_back_86 : decode cX8_back 86 = .ok (.ireturn, 1) := by decide +kernel
def k109_2 : List (Nat × XI) := [(72, x_iinc 1 (1) 75), (75, x_goto 23), (78, x_aload 0 79), (79, x_getR 8 0 82), (82, x_push (924) 85), (85, x_iald 86), (86, x_iret)]
theorem o109_2 (scr : Nat × (Nat → Int32)) : ∀ q ∈ k109_2, XSnd xm scr Y109 q.1 q.2 := xcons (s_iinc dX8_back_72 rfl (by decide)) (xcons (s_goto dX8_back_75 rfl) (xcons (s_aload_n rfl dX8_back_78) (xcons (s_getR (f := 0) xC8 (by decide) xw_470 rfl dX8_back_79) (xcons (s_sipush dX8_back_82 rfl) (xcons (s_iald dX8_back_85) (xcons (s_iret dX8_back_86 rfl) (xnil)))))))
def k109 (pc : Nat) : XI := if pc < 38 then xlk k109_0 pc else if pc < 72 then xlk k109_1 pc else xlk k109_2 pc
theorem o109 (scr : Nat × (Nat → Int32)) (pc : Nat) : XSnd xm scr Y109 pc (k109 pc) := by
  unfold k109
  exact xite (xlk_ok (o109_0 scr) pc) (xite (xlk_ok (o109_1 scr) pc) (xlk_ok (o109_2 scr) pc))
theorem dX8_bits_0 : decode cX8_bits 0 = .ok (.iconst 0, 1) := by decide +kernel
theorem dX8_bits_1 : decode cX8_bits 1 = .ok (.istore_n 1, 1) := by decide +kernel
theorem dX8_bits_2 : decode cX8_bits 2 = .ok (.iload_n 0, 1) := by decide +kernel
theorem dX8_bits_3 : decode cX8_bits 3 = .ok (.istore_n 2, 1) := by decide +kernel
theorem dX8_bits_4 : decode cX8_bits 4 = .ok (.iload_n 2, 1) := by decide +kernel
theorem dX8_bits_5 : decode cX8_bits 5 = .ok (.ifCond .eq 15, 3) := by decide +kernel
theorem dX8_bits_8 : decode cX8_bits 8 = .ok (.iinc 1 1, 3) := by decide +kernel
theorem dX8_bits_11 : decode cX8_bits 11 = .ok (.iload_n 2, 1) := by decide +kernel
theorem dX8_bits_12 : decode cX8_bits 12 = .ok (.iload_n 2, 1) := by decide +kernel
theorem dX8_bits_13 : decode cX8_bits 13 = .ok (.iconst 1, 1) := by decide +kernel
theorem dX8_bits_14 : decode cX8_bits 14 = .ok (.isub, 1) := by decide +kernel
theorem dX8_bits_15 : decode cX8_bits 15 = .ok (.iand, 1) := by decide +kernel
theorem dX8_bits_16 : decode cX8_bits 16 = .ok (.istore_n 2, 1) := by decide +kernel
theorem dX8_bits_17 : decode cX8_bits 17 = .ok (.goto (-13), 3) := by decide +kernel
theorem dX8_bits_20 : decode cX8_bits 20 = .ok (.iload_n 1, 1) := by decide +kernel
theorem dX8_bits_21 : decode cX8_bits 21 = .ok (.ireturn, 1) := by decide +kernel
def k110_0 : List (Nat × XI) := [(0, x_push (0) 1), (1, x_istore 1 2), (2, x_iload 0 3), (3, x_istore 2 4), (4, x_iload 2 5), (5, x_ifeq 20 8), (8, x_iinc 1 (1) 11), (11, x_iload 2 12), (12, x_iload 2 13), (13, x_push (1) 14), (14, x_isub 15), (15, x_iand 16), (16, x_istore 2 17), (17, x_goto 4), (20, x_iload 1 21), (21, x_iret)]
theorem o110_0 (scr : Nat × (Nat → Int32)) : ∀ q ∈ k110_0, XSnd xm scr Y110 q.1 q.2 := xcons (s_iconst dX8_bits_0 rfl) (xcons (s_istore_n rfl dX8_bits_1 (by decide)) (xcons (s_iload_n rfl dX8_bits_2) (xcons (s_istore_n rfl dX8_bits_3 (by decide)) (xcons (s_iload_n rfl dX8_bits_4) (xcons (s_ifeq dX8_bits_5 rfl) (xcons (s_iinc dX8_bits_8 rfl (by decide)) (xcons (s_iload_n rfl dX8_bits_11) (xcons (s_iload_n rfl dX8_bits_12) (xcons (s_iconst dX8_bits_13 rfl) (xcons (s_isub dX8_bits_14) (xcons (s_iand dX8_bits_15) (xcons (s_istore_n rfl dX8_bits_16 (by decide)) (xcons (s_goto dX8_bits_17 rfl) (xcons (s_iload_n rfl dX8_bits_20) (xcons (s_iret dX8_bits_21 rfl) (xnil))))))))))))))))
def k110 (pc : Nat) : XI := xlk k110_0 pc
theorem o110 (scr : Nat × (Nat → Int32)) (pc : Nat) : XSnd xm scr Y110 pc (k110 pc) := by
  unfold k110
  exact xlk_ok (o110_0 scr) pc
theorem dX8_brings_0 : decode cX8_brings 0 = .ok (.aload_n 0, 1) := by decide +kernel
theorem dX8_brings_1 : decode cX8_brings 1 = .ok (.iload_n 1, 1) := by decide +kernel
theorem dX8_brings_2 : decode cX8_brings 2 = .ok (.invokevirtual 167, 3) := by decide +kernel
theorem dX8_brings_5 : decode cX8_brings 5 = .ok (.ifCond .eq 20, 3) := by decide +kernel
theorem dX8_brings_8 : decode cX8_brings 8 = .ok (.iload_n 2, 1) := by decide +kernel
theorem dX8_brings_9 : decode cX8_brings 9 = .ok (.iconst 0, 1) := by decide +kernel
theorem dX8_brings_10 : decode cX8_brings 10 = .ok (.iconst 2, 1) := by decide +kernel
theorem dX8_brings_11 : decode cX8_brings 11 = .ok (.invokestatic 51, 3) := by decide +kernel
theorem dX8_brings_14 : decode cX8_brings 14 = .ok (.ifCond .eq 11, 3) := by decide +kernel
theorem dX8_brings_17 : decode cX8_brings 17 = .ok (.aload_n 0, 1) := by decide +kernel
theorem dX8_brings_18 : decode cX8_brings 18 = .ok (.iload_n 1, 1) := by decide +kernel
theorem dX8_brings_19 : decode cX8_brings 19 = .ok (.invokevirtual 59, 3) := by decide +kernel
theorem dX8_brings_22 : decode cX8_brings 22 = .ok (.ifCond .ne 6, 3) := by decide +kernel
theorem dX8_brings_25 : decode cX8_brings 25 = .ok (.ldc 186, 2) := by decide +kernel
theorem dX8_brings_27 : decode cX8_brings 27 = .ok (.ireturn, 1) := by decide +kernel
theorem dX8_brings_28 : decode cX8_brings 28 = .ok (.aload_n 0, 1) := by decide +kernel
theorem dX8_brings_29 : decode cX8_brings 29 = .ok (.getfield 9, 3) := by decide +kernel
theorem dX8_brings_32 : decode cX8_brings 32 = .ok (.aload_n 0, 1) := by decide +kernel
theorem dX8_brings_33 : decode cX8_brings 33 = .ok (.getfield 13, 3) := by decide +kernel
theorem dX8_brings_36 : decode cX8_brings 36 = .ok (.invokestatic 200, 3) := by decide +kernel
def k111_0 : List (Nat × XI) := [(0, x_aload 0 1), (1, x_iload 1 2), (2, x_inv 136 8 1 5), (5, x_ifeq 25 8), (8, x_iload 2 9), (9, x_push (0) 10), (10, x_push (2) 11), (11, x_invS 134 3 14), (14, x_ifeq 25 17), (17, x_aload 0 18), (18, x_iload 1 19), (19, x_inv 140 8 1 22), (22, x_ifne 28 25), (25, x_push (-2000000000) 27), (27, x_iret), (28, x_aload 0 29), (29, x_getR 8 0 32), (32, x_aload 0 33), (33, x_getR 8 1 36), (36, x_invS 179 2 39)]
theorem o111_0 (scr : Nat × (Nat → Int32)) : ∀ q ∈ k111_0, XSnd xm scr Y111 q.1 q.2 := xcons (s_aload_n rfl dX8_brings_0) (xcons (s_iload_n rfl dX8_brings_1) (xcons (s_inv (mid := 136) xC8 cal_136 xw_483 xw_484 xw_485 dX8_brings_2) (xcons (s_ifeq dX8_brings_5 rfl) (xcons (s_iload_n rfl dX8_brings_8) (xcons (s_iconst dX8_brings_9 rfl) (xcons (s_iconst dX8_brings_10 rfl) (xcons (s_invS (mid := 134) cal_134 xw_487 xw_488 dX8_brings_11) (xcons (s_ifeq dX8_brings_14 rfl) (xcons (s_aload_n rfl dX8_brings_17) (xcons (s_iload_n rfl dX8_brings_18) (xcons (s_inv (mid := 140) xC8 cal_140 xw_490 xw_491 xw_492 dX8_brings_19) (xcons (s_ifne dX8_brings_22 rfl) (xcons (s_ldc dX8_brings_25 xw_493) (xcons (s_iret dX8_brings_27 rfl) (xcons (s_aload_n rfl dX8_brings_28) (xcons (s_getR (f := 0) xC8 (by decide) xw_470 rfl dX8_brings_29) (xcons (s_aload_n rfl dX8_brings_32) (xcons (s_getR (f := 1) xC8 (by decide) xw_494 rfl dX8_brings_33) (xcons (s_invS (mid := 179) cal_179 xw_478 xw_479 dX8_brings_36) (xnil))))))))))))))))))))
theorem dX8_brings_39 : decode cX8_brings 39 = .ok (.aload_n 0, 1) := by decide +kernel
theorem dX8_brings_40 : decode cX8_brings 40 = .ok (.invokevirtual 191, 3) := by decide +kernel
theorem dX8_brings_43 : decode cX8_brings 43 = .ok (.istore_n 3, 1) := by decide +kernel
theorem dX8_brings_44 : decode cX8_brings 44 = .ok (.aload_n 0, 1) := by decide +kernel
theorem dX8_brings_45 : decode cX8_brings 45 = .ok (.iconst 0, 1) := by decide +kernel
theorem dX8_brings_46 : decode cX8_brings 46 = .ok (.putfield 90, 3) := by decide +kernel
theorem dX8_brings_49 : decode cX8_brings 49 = .ok (.aload_n 0, 1) := by decide +kernel
theorem dX8_brings_50 : decode cX8_brings 50 = .ok (.iload_n 1, 1) := by decide +kernel
theorem dX8_brings_51 : decode cX8_brings 51 = .ok (.iconst 5, 1) := by decide +kernel
theorem dX8_brings_52 : decode cX8_brings 52 = .ok (.invokevirtual 111, 3) := by decide +kernel
theorem dX8_brings_55 : decode cX8_brings 55 = .ok (.iload_n 2, 1) := by decide +kernel
theorem dX8_brings_56 : decode cX8_brings 56 = .ok (.ifCond .ne 10, 3) := by decide +kernel
theorem dX8_brings_59 : decode cX8_brings 59 = .ok (.aload_n 0, 1) := by decide +kernel
theorem dX8_brings_60 : decode cX8_brings 60 = .ok (.getfield 90, 3) := by decide +kernel
theorem dX8_brings_63 : decode cX8_brings 63 = .ok (.goto 27, 3) := by decide +kernel
theorem dX8_brings_66 : decode cX8_brings 66 = .ok (.iload_n 2, 1) := by decide +kernel
theorem dX8_brings_67 : decode cX8_brings 67 = .ok (.iconst 1, 1) := by decide +kernel
theorem dX8_brings_68 : decode cX8_brings 68 = .ok (.if_icmp .ne 14, 3) := by decide +kernel
theorem dX8_brings_71 : decode cX8_brings 71 = .ok (.iload_n 3, 1) := by decide +kernel
theorem dX8_brings_72 : decode cX8_brings 72 = .ok (.aload_n 0, 1) := by decide +kernel
def k111_1 : List (Nat × XI) := [(39, x_aload 0 40), (40, x_inv 147 8 0 43), (43, x_istore 3 44), (44, x_aload 0 45), (45, x_push (0) 46), (46, x_putI 8 6 49), (49, x_aload 0 50), (50, x_iload 1 51), (51, x_push (5) 52), (52, x_inv 125 8 2 55), (55, x_iload 2 56), (56, x_ifne 66 59), (59, x_aload 0 60), (60, x_getI 8 6 63), (63, x_goto 90), (66, x_iload 2 67), (67, x_push (1) 68), (68, x_icne 82 71), (71, x_iload 3 72), (72, x_aload 0 73)]
theorem o111_1 (scr : Nat × (Nat → Int32)) : ∀ q ∈ k111_1, XSnd xm scr Y111 q.1 q.2 := xcons (s_aload_n rfl dX8_brings_39) (xcons (s_inv (mid := 147) xC8 cal_147 xw_496 xw_497 xw_498 dX8_brings_40) (xcons (s_istore_n rfl dX8_brings_43 (by decide)) (xcons (s_aload_n rfl dX8_brings_44) (xcons (s_iconst dX8_brings_45 rfl) (xcons (s_putI (f := 6) xC8 (by decide) xw_499 rfl (Or.inl rfl) dX8_brings_46) (xcons (s_aload_n rfl dX8_brings_49) (xcons (s_iload_n rfl dX8_brings_50) (xcons (s_iconst dX8_brings_51 rfl) (xcons (s_inv (mid := 125) xC8 cal_125 xw_501 xw_502 xw_503 dX8_brings_52) (xcons (s_iload_n rfl dX8_brings_55) (xcons (s_ifne dX8_brings_56 rfl) (xcons (s_aload_n rfl dX8_brings_59) (xcons (s_getI (f := 6) xC8 (by decide) xw_499 rfl dX8_brings_60) (xcons (s_goto dX8_brings_63 rfl) (xcons (s_iload_n rfl dX8_brings_66) (xcons (s_iconst dX8_brings_67 rfl) (xcons (s_icne dX8_brings_68 rfl) (xcons (s_iload_n rfl dX8_brings_71) (xcons (s_aload_n rfl dX8_brings_72) (xnil))))))))))))))))))))
theorem dX8_brings_73 : decode cX8_brings 73 = .ok (.invokevirtual 191, 3) := by decide +kernel
theorem dX8_brings_76 : decode cX8_brings 76 = .ok (.iconst (-1), 1) := by decide +kernel
theorem dX8_brings_77 : decode cX8_brings 77 = .ok (.ixor, 1) := by decide +kernel
theorem dX8_brings_78 : decode cX8_brings 78 = .ok (.iand, 1) := by decide +kernel
theorem dX8_brings_79 : decode cX8_brings 79 = .ok (.goto 11, 3) := by decide +kernel
theorem dX8_brings_82 : decode cX8_brings 82 = .ok (.aload_n 0, 1) := by decide +kernel
theorem dX8_brings_83 : decode cX8_brings 83 = .ok (.getfield 9, 3) := by decide +kernel
theorem dX8_brings_86 : decode cX8_brings 86 = .ok (.sipush 994, 3) := by decide +kernel
theorem dX8_brings_89 : decode cX8_brings 89 = .ok (.iaload, 1) := by decide +kernel
theorem dX8_brings_90 : decode cX8_brings 90 = .ok (.istore 4, 2) := by decide +kernel
theorem dX8_brings_92 : decode cX8_brings 92 = .ok (.aload_n 0, 1) := by decide +kernel
theorem dX8_brings_93 : decode cX8_brings 93 = .ok (.getfield 13, 3) := by decide +kernel
theorem dX8_brings_96 : decode cX8_brings 96 = .ok (.aload_n 0, 1) := by decide +kernel
theorem dX8_brings_97 : decode cX8_brings 97 = .ok (.getfield 9, 3) := by decide +kernel
theorem dX8_brings_100 : decode cX8_brings 100 = .ok (.invokestatic 200, 3) := by decide +kernel
theorem dX8_brings_103 : decode cX8_brings 103 = .ok (.iload 4, 2) := by decide +kernel
theorem dX8_brings_105 : decode cX8_brings 105 = .ok (.ireturn, 1) := by decide +kernel
def k111_2 : List (Nat × XI) := [(73, x_inv 147 8 0 76), (76, x_push (-1) 77), (77, x_ixor 78), (78, x_iand 79), (79, x_goto 90), (82, x_aload 0 83), (83, x_getR 8 0 86), (86, x_push (994) 89), (89, x_iald 90), (90, x_istore 4 92), (92, x_aload 0 93), (93, x_getR 8 1 96), (96, x_aload 0 97), (97, x_getR 8 0 100), (100, x_invS 179 2 103), (103, x_iload 4 105), (105, x_iret)]
theorem o111_2 (scr : Nat × (Nat → Int32)) : ∀ q ∈ k111_2, XSnd xm scr Y111 q.1 q.2 := xcons (s_inv (mid := 147) xC8 cal_147 xw_496 xw_497 xw_498 dX8_brings_73) (xcons (s_iconst dX8_brings_76 rfl) (xcons (s_ixor dX8_brings_77) (xcons (s_iand dX8_brings_78) (xcons (s_goto dX8_brings_79 rfl) (xcons (s_aload_n rfl dX8_brings_82) (xcons (s_getR (f := 0) xC8 (by decide) xw_470 rfl dX8_brings_83) (xcons (s_sipush dX8_brings_86 rfl) (xcons (s_iald dX8_brings_89) (xcons (s_istore dX8_brings_90 (by decide)) (xcons (s_aload_n rfl dX8_brings_92) (xcons (s_getR (f := 1) xC8 (by decide) xw_494 rfl dX8_brings_93) (xcons (s_aload_n rfl dX8_brings_96) (xcons (s_getR (f := 0) xC8 (by decide) xw_470 rfl dX8_brings_97) (xcons (s_invS (mid := 179) cal_179 xw_478 xw_479 dX8_brings_100) (xcons (s_iload dX8_brings_103) (xcons (s_iret dX8_brings_105 rfl) (xnil)))))))))))))))))
def k111 (pc : Nat) : XI := if pc < 39 then xlk k111_0 pc else if pc < 73 then xlk k111_1 pc else xlk k111_2 pc
theorem o111 (scr : Nat × (Nat → Int32)) (pc : Nat) : XSnd xm scr Y111 pc (k111 pc) := by
  unfold k111
  exact xite (xlk_ok (o111_0 scr) pc) (xite (xlk_ok (o111_1 scr) pc) (xlk_ok (o111_2 scr) pc))
theorem dX8_canBe_0 : decode cX8_canBe 0 = .ok (.iload_n 1, 1) := by decide +kernel
theorem dX8_canBe_1 : decode cX8_canBe 1 = .ok (.iconst (-1), 1) := by decide +kernel
theorem dX8_canBe_2 : decode cX8_canBe 2 = .ok (.if_icmp .ne 17, 3) := by decide +kernel
theorem dX8_canBe_5 : decode cX8_canBe 5 = .ok (.aload_n 0, 1) := by decide +kernel
theorem dX8_canBe_6 : decode cX8_canBe 6 = .ok (.getfield 9, 3) := by decide +kernel
theorem dX8_canBe_9 : decode cX8_canBe 9 = .ok (.sipush 924, 3) := by decide +kernel
theorem dX8_canBe_12 : decode cX8_canBe 12 = .ok (.iaload, 1) := by decide +kernel
theorem dX8_canBe_13 : decode cX8_canBe 13 = .ok (.ifCond .ne 31, 3) := by decide +kernel
theorem dX8_canBe_16 : decode cX8_canBe 16 = .ok (.goto 11, 3) := by decide +kernel
theorem dX8_canBe_19 : decode cX8_canBe 19 = .ok (.aload_n 0, 1) := by decide +kernel
theorem dX8_canBe_20 : decode cX8_canBe 20 = .ok (.iload_n 1, 1) := by decide +kernel
theorem dX8_canBe_21 : decode cX8_canBe 21 = .ok (.invokevirtual 167, 3) := by decide +kernel
theorem dX8_canBe_24 : decode cX8_canBe 24 = .ok (.ifCond .eq 20, 3) := by decide +kernel
theorem dX8_canBe_27 : decode cX8_canBe 27 = .ok (.iload_n 2, 1) := by decide +kernel
theorem dX8_canBe_28 : decode cX8_canBe 28 = .ok (.iconst 0, 1) := by decide +kernel
theorem dX8_canBe_29 : decode cX8_canBe 29 = .ok (.bipush 9, 2) := by decide +kernel
theorem dX8_canBe_31 : decode cX8_canBe 31 = .ok (.invokestatic 51, 3) := by decide +kernel
theorem dX8_canBe_34 : decode cX8_canBe 34 = .ok (.ifCond .eq 10, 3) := by decide +kernel
theorem dX8_canBe_37 : decode cX8_canBe 37 = .ok (.iload_n 3, 1) := by decide +kernel
theorem dX8_canBe_38 : decode cX8_canBe 38 = .ok (.invokestatic 170, 3) := by decide +kernel
def k112_0 : List (Nat × XI) := [(0, x_iload 1 1), (1, x_push (-1) 2), (2, x_icne 19 5), (5, x_aload 0 6), (6, x_getR 8 0 9), (9, x_push (924) 12), (12, x_iald 13), (13, x_ifne 44 16), (16, x_goto 27), (19, x_aload 0 20), (20, x_iload 1 21), (21, x_inv 136 8 1 24), (24, x_ifeq 44 27), (27, x_iload 2 28), (28, x_push (0) 29), (29, x_push (9) 31), (31, x_invS 134 3 34), (34, x_ifeq 44 37), (37, x_iload 3 38), (38, x_invS 145 1 41)]
theorem o112_0 (scr : Nat × (Nat → Int32)) : ∀ q ∈ k112_0, XSnd xm scr Y112 q.1 q.2 := xcons (s_iload_n rfl dX8_canBe_0) (xcons (s_iconst dX8_canBe_1 rfl) (xcons (s_icne dX8_canBe_2 rfl) (xcons (s_aload_n rfl dX8_canBe_5) (xcons (s_getR (f := 0) xC8 (by decide) xw_470 rfl dX8_canBe_6) (xcons (s_sipush dX8_canBe_9 rfl) (xcons (s_iald dX8_canBe_12) (xcons (s_ifne dX8_canBe_13 rfl) (xcons (s_goto dX8_canBe_16 rfl) (xcons (s_aload_n rfl dX8_canBe_19) (xcons (s_iload_n rfl dX8_canBe_20) (xcons (s_inv (mid := 136) xC8 cal_136 xw_483 xw_484 xw_485 dX8_canBe_21) (xcons (s_ifeq dX8_canBe_24 rfl) (xcons (s_iload_n rfl dX8_canBe_27) (xcons (s_iconst dX8_canBe_28 rfl) (xcons (s_bipush dX8_canBe_29 rfl) (xcons (s_invS (mid := 134) cal_134 xw_487 xw_488 dX8_canBe_31) (xcons (s_ifeq dX8_canBe_34 rfl) (xcons (s_iload_n rfl dX8_canBe_37) (xcons (s_invS (mid := 145) cal_145 xw_505 xw_506 dX8_canBe_38) (xnil))))))))))))))))))))
theorem dX8_canBe_41 : decode cX8_canBe 41 = .ok (.ifCond .ne 5, 3) := by decide +kernel
theorem dX8_canBe_44 : decode cX8_canBe 44 = .ok (.iconst (-1), 1) := by decide +kernel
theorem dX8_canBe_45 : decode cX8_canBe 45 = .ok (.ireturn, 1) := by decide +kernel
theorem dX8_canBe_46 : decode cX8_canBe 46 = .ok (.iload_n 1, 1) := by decide +kernel
theorem dX8_canBe_47 : decode cX8_canBe 47 = .ok (.ifCond .lt 16, 3) := by decide +kernel
theorem dX8_canBe_50 : decode cX8_canBe 50 = .ok (.aload_n 0, 1) := by decide +kernel
theorem dX8_canBe_51 : decode cX8_canBe 51 = .ok (.iload_n 1, 1) := by decide +kernel
theorem dX8_canBe_52 : decode cX8_canBe 52 = .ok (.invokevirtual 59, 3) := by decide +kernel
theorem dX8_canBe_55 : decode cX8_canBe 55 = .ok (.ifCond .ne 8, 3) := by decide +kernel
theorem dX8_canBe_58 : decode cX8_canBe 58 = .ok (.bipush (-5), 2) := by decide +kernel
theorem dX8_canBe_60 : decode cX8_canBe 60 = .ok (.goto 22, 3) := by decide +kernel
theorem dX8_canBe_63 : decode cX8_canBe 63 = .ok (.aload_n 0, 1) := by decide +kernel
theorem dX8_canBe_64 : decode cX8_canBe 64 = .ok (.getfield 9, 3) := by decide +kernel
theorem dX8_canBe_67 : decode cX8_canBe 67 = .ok (.sipush 924, 3) := by decide +kernel
theorem dX8_canBe_70 : decode cX8_canBe 70 = .ok (.iaload, 1) := by decide +kernel
theorem dX8_canBe_71 : decode cX8_canBe 71 = .ok (.bipush 12, 2) := by decide +kernel
theorem dX8_canBe_73 : decode cX8_canBe 73 = .ok (.if_icmp .ne 8, 3) := by decide +kernel
theorem dX8_canBe_76 : decode cX8_canBe 76 = .ok (.bipush (-3), 2) := by decide +kernel
theorem dX8_canBe_78 : decode cX8_canBe 78 = .ok (.goto 4, 3) := by decide +kernel
theorem dX8_canBe_81 : decode cX8_canBe 81 = .ok (.iconst 0, 1) := by decide +kernel
def k112_1 : List (Nat × XI) := [(41, x_ifne 46 44), (44, x_push (-1) 45), (45, x_iret), (46, x_iload 1 47), (47, x_iflt 63 50), (50, x_aload 0 51), (51, x_iload 1 52), (52, x_inv 140 8 1 55), (55, x_ifne 63 58), (58, x_push (-5) 60), (60, x_goto 82), (63, x_aload 0 64), (64, x_getR 8 0 67), (67, x_push (924) 70), (70, x_iald 71), (71, x_push (12) 73), (73, x_icne 81 76), (76, x_push (-3) 78), (78, x_goto 82), (81, x_push (0) 82)]
theorem o112_1 (scr : Nat × (Nat → Int32)) : ∀ q ∈ k112_1, XSnd xm scr Y112 q.1 q.2 := xcons (s_ifne dX8_canBe_41 rfl) (xcons (s_iconst dX8_canBe_44 rfl) (xcons (s_iret dX8_canBe_45 rfl) (xcons (s_iload_n rfl dX8_canBe_46) (xcons (s_iflt dX8_canBe_47 rfl) (xcons (s_aload_n rfl dX8_canBe_50) (xcons (s_iload_n rfl dX8_canBe_51) (xcons (s_inv (mid := 140) xC8 cal_140 xw_490 xw_491 xw_492 dX8_canBe_52) (xcons (s_ifne dX8_canBe_55 rfl) (xcons (s_bipush dX8_canBe_58 rfl) (xcons (s_goto dX8_canBe_60 rfl) (xcons (s_aload_n rfl dX8_canBe_63) (xcons (s_getR (f := 0) xC8 (by decide) xw_470 rfl dX8_canBe_64) (xcons (s_sipush dX8_canBe_67 rfl) (xcons (s_iald dX8_canBe_70) (xcons (s_bipush dX8_canBe_71 rfl) (xcons (s_icne dX8_canBe_73 rfl) (xcons (s_bipush dX8_canBe_76 rfl) (xcons (s_goto dX8_canBe_78 rfl) (xcons (s_iconst dX8_canBe_81 rfl) (xnil))))))))))))))))))))
theorem dX8_canBe_82 : decode cX8_canBe 82 = .ok (.ireturn, 1) := by decide +kernel
def k112_2 : List (Nat × XI) := [(82, x_iret)]
theorem o112_2 (scr : Nat × (Nat → Int32)) : ∀ q ∈ k112_2, XSnd xm scr Y112 q.1 q.2 := xcons (s_iret dX8_canBe_82 rfl) (xnil)
def k112 (pc : Nat) : XI := if pc < 41 then xlk k112_0 pc else if pc < 82 then xlk k112_1 pc else xlk k112_2 pc
theorem o112 (scr : Nat × (Nat → Int32)) (pc : Nat) : XSnd xm scr Y112 pc (k112 pc) := by
  unfold k112
  exact xite (xlk_ok (o112_0 scr) pc) (xite (xlk_ok (o112_1 scr) pc) (xlk_ok (o112_2 scr) pc))
