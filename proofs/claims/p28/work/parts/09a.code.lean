/-! 09a: the code, instruction by instruction -/
theorem dX0_begin_0 : decode cX0_begin 0 = .ok (.aload_n 0, 1) := by decide +kernel
theorem dX0_begin_1 : decode cX0_begin 1 = .ok (.iload_n 1, 1) := by decide +kernel
theorem dX0_begin_2 : decode cX0_begin 2 = .ok (.putfield 36, 3) := by decide +kernel
theorem dX0_begin_5 : decode cX0_begin 5 = .ok (.aload_n 0, 1) := by decide +kernel
theorem dX0_begin_6 : decode cX0_begin 6 = .ok (.iload_n 2, 1) := by decide +kernel
theorem dX0_begin_7 : decode cX0_begin 7 = .ok (.putfield 40, 3) := by decide +kernel
theorem dX0_begin_10 : decode cX0_begin 10 = .ok (.aload_n 0, 1) := by decide +kernel
theorem dX0_begin_11 : decode cX0_begin 11 = .ok (.iconst 0, 1) := by decide +kernel
theorem dX0_begin_12 : decode cX0_begin 12 = .ok (.putfield 43, 3) := by decide +kernel
theorem dX0_begin_15 : decode cX0_begin 15 = .ok (.aload_n 0, 1) := by decide +kernel
theorem dX0_begin_16 : decode cX0_begin 16 = .ok (.iconst 1, 1) := by decide +kernel
theorem dX0_begin_17 : decode cX0_begin 17 = .ok (.putfield 46, 3) := by decide +kernel
theorem dX0_begin_20 : decode cX0_begin 20 = .ok (.aload_n 0, 1) := by decide +kernel
theorem dX0_begin_21 : decode cX0_begin 21 = .ok (.getfield 23, 3) := by decide +kernel
theorem dX0_begin_24 : decode cX0_begin 24 = .ok (.iconst 0, 1) := by decide +kernel
theorem dX0_begin_25 : decode cX0_begin 25 = .ok (.putfield 50, 3) := by decide +kernel
theorem dX0_begin_28 : decode cX0_begin 28 = .ok (.aload_n 0, 1) := by decide +kernel
theorem dX0_begin_29 : decode cX0_begin 29 = .ok (.getfield 27, 3) := by decide +kernel
theorem dX0_begin_32 : decode cX0_begin 32 = .ok (.iconst 0, 1) := by decide +kernel
theorem dX0_begin_33 : decode cX0_begin 33 = .ok (.putfield 50, 3) := by decide +kernel
def k0_0 : List (Nat × XI) := [(0, x_aload 0 1), (1, x_iload 1 2), (2, x_putI 0 0 5), (5, x_aload 0 6), (6, x_iload 2 7), (7, x_putI 0 1 10), (10, x_aload 0 11), (11, x_push (0) 12), (12, x_putI 0 5 15), (15, x_aload 0 16), (16, x_push (1) 17), (17, x_putZ 0 6 20), (20, x_aload 0 21), (21, x_getR 0 8 24), (24, x_push (0) 25), (25, x_putI 3 2 28), (28, x_aload 0 29), (29, x_getR 0 9 32), (32, x_push (0) 33), (33, x_putI 3 2 36)]
theorem o0_0 (scr : Nat × (Nat → Int32)) : ∀ q ∈ k0_0, XSnd xm scr Y0 q.1 q.2 := xcons (s_aload_n rfl dX0_begin_0) (xcons (s_iload_n rfl dX0_begin_1) (xcons (s_putI (f := 0) xC0 (by decide) xw_0 rfl (Or.inl rfl) dX0_begin_2) (xcons (s_aload_n rfl dX0_begin_5) (xcons (s_iload_n rfl dX0_begin_6) (xcons (s_putI (f := 1) xC0 (by decide) xw_1 rfl (Or.inl rfl) dX0_begin_7) (xcons (s_aload_n rfl dX0_begin_10) (xcons (s_iconst dX0_begin_11 rfl) (xcons (s_putI (f := 5) xC0 (by decide) xw_2 rfl (Or.inl rfl) dX0_begin_12) (xcons (s_aload_n rfl dX0_begin_15) (xcons (s_iconst dX0_begin_16 rfl) (xcons (s_putZ (f := 6) xC0 (by decide) xw_3 rfl (Or.inl rfl) dX0_begin_17) (xcons (s_aload_n rfl dX0_begin_20) (xcons (s_getR (f := 8) xC0 (by decide) xw_4 rfl dX0_begin_21) (xcons (s_iconst dX0_begin_24 rfl) (xcons (s_putI (f := 2) xC3 (by decide) xw_5 rfl (Or.inl rfl) dX0_begin_25) (xcons (s_aload_n rfl dX0_begin_28) (xcons (s_getR (f := 9) xC0 (by decide) xw_6 rfl dX0_begin_29) (xcons (s_iconst dX0_begin_32 rfl) (xcons (s_putI (f := 2) xC3 (by decide) xw_5 rfl (Or.inl rfl) dX0_begin_33) (xnil))))))))))))))))))))
theorem dX0_begin_36 : decode cX0_begin 36 = .ok (.aload_n 0, 1) := by decide +kernel
theorem dX0_begin_37 : decode cX0_begin 37 = .ok (.getfield 30, 3) := by decide +kernel
theorem dX0_begin_40 : decode cX0_begin 40 = .ok (.iconst 0, 1) := by decide +kernel
theorem dX0_begin_41 : decode cX0_begin 41 = .ok (.putfield 53, 3) := by decide +kernel
theorem dX0_begin_44 : decode cX0_begin 44 = .ok (.aload_n 0, 1) := by decide +kernel
theorem dX0_begin_45 : decode cX0_begin 45 = .ok (.invokevirtual 54, 3) := by decide +kernel
theorem dX0_begin_48 : decode cX0_begin 48 = .ok (.return_, 1) := by decide +kernel
def k0_1 : List (Nat × XI) := [(36, x_aload 0 37), (37, x_getR 0 10 40), (40, x_push (0) 41), (41, x_putI 2 1 44), (44, x_aload 0 45), (45, x_inv 3 0 0 48), (48, x_ret)]
theorem o0_1 (scr : Nat × (Nat → Int32)) : ∀ q ∈ k0_1, XSnd xm scr Y0 q.1 q.2 := xcons (s_aload_n rfl dX0_begin_36) (xcons (s_getR (f := 10) xC0 (by decide) xw_7 rfl dX0_begin_37) (xcons (s_iconst dX0_begin_40 rfl) (xcons (s_putI (f := 1) xC2 (by decide) xw_8 rfl (Or.inl rfl) dX0_begin_41) (xcons (s_aload_n rfl dX0_begin_44) (xcons (s_inv (mid := 3) xC0 cal_3 xw_11 xw_12 xw_13 dX0_begin_45) (xcons (s_ret dX0_begin_48 rfl) (xnil)))))))
def k0 (pc : Nat) : XI := if pc < 36 then xlk k0_0 pc else xlk k0_1 pc
theorem o0 (scr : Nat × (Nat → Int32)) (pc : Nat) : XSnd xm scr Y0 pc (k0 pc) := by
  unfold k0
  exact xite (xlk_ok (o0_0 scr) pc) (xlk_ok (o0_1 scr) pc)
theorem dX0_copyFrom_0 : decode cX0_copyFrom 0 = .ok (.aload_n 0, 1) := by decide +kernel
theorem dX0_copyFrom_1 : decode cX0_copyFrom 1 = .ok (.aload_n 1, 1) := by decide +kernel
theorem dX0_copyFrom_2 : decode cX0_copyFrom 2 = .ok (.getfield 36, 3) := by decide +kernel
theorem dX0_copyFrom_5 : decode cX0_copyFrom 5 = .ok (.putfield 36, 3) := by decide +kernel
theorem dX0_copyFrom_8 : decode cX0_copyFrom 8 = .ok (.aload_n 0, 1) := by decide +kernel
theorem dX0_copyFrom_9 : decode cX0_copyFrom 9 = .ok (.aload_n 1, 1) := by decide +kernel
theorem dX0_copyFrom_10 : decode cX0_copyFrom 10 = .ok (.getfield 40, 3) := by decide +kernel
theorem dX0_copyFrom_13 : decode cX0_copyFrom 13 = .ok (.putfield 40, 3) := by decide +kernel
theorem dX0_copyFrom_16 : decode cX0_copyFrom 16 = .ok (.aload_n 0, 1) := by decide +kernel
theorem dX0_copyFrom_17 : decode cX0_copyFrom 17 = .ok (.aload_n 1, 1) := by decide +kernel
theorem dX0_copyFrom_18 : decode cX0_copyFrom 18 = .ok (.getfield 61, 3) := by decide +kernel
theorem dX0_copyFrom_21 : decode cX0_copyFrom 21 = .ok (.putfield 61, 3) := by decide +kernel
theorem dX0_copyFrom_24 : decode cX0_copyFrom 24 = .ok (.aload_n 0, 1) := by decide +kernel
theorem dX0_copyFrom_25 : decode cX0_copyFrom 25 = .ok (.aload_n 1, 1) := by decide +kernel
theorem dX0_copyFrom_26 : decode cX0_copyFrom 26 = .ok (.getfield 64, 3) := by decide +kernel
theorem dX0_copyFrom_29 : decode cX0_copyFrom 29 = .ok (.putfield 64, 3) := by decide +kernel
theorem dX0_copyFrom_32 : decode cX0_copyFrom 32 = .ok (.aload_n 0, 1) := by decide +kernel
theorem dX0_copyFrom_33 : decode cX0_copyFrom 33 = .ok (.aload_n 1, 1) := by decide +kernel
theorem dX0_copyFrom_34 : decode cX0_copyFrom 34 = .ok (.getfield 67, 3) := by decide +kernel
theorem dX0_copyFrom_37 : decode cX0_copyFrom 37 = .ok (.putfield 67, 3) := by decide +kernel
def k1_0 : List (Nat × XI) := [(0, x_aload 0 1), (1, x_aload 1 2), (2, x_getI 0 0 5), (5, x_putI 0 0 8), (8, x_aload 0 9), (9, x_aload 1 10), (10, x_getI 0 1 13), (13, x_putI 0 1 16), (16, x_aload 0 17), (17, x_aload 1 18), (18, x_getI 0 2 21), (21, x_putI 0 2 24), (24, x_aload 0 25), (25, x_aload 1 26), (26, x_getI 0 3 29), (29, x_putI 0 3 32), (32, x_aload 0 33), (33, x_aload 1 34), (34, x_getI 0 4 37), (37, x_putI 0 4 40)]
theorem o1_0 (scr : Nat × (Nat → Int32)) : ∀ q ∈ k1_0, XSnd xm scr Y1 q.1 q.2 := xcons (s_aload_n rfl dX0_copyFrom_0) (xcons (s_aload_n rfl dX0_copyFrom_1) (xcons (s_getI (f := 0) xC0 (by decide) xw_0 rfl dX0_copyFrom_2) (xcons (s_putI (f := 0) xC0 (by decide) xw_0 rfl (Or.inl rfl) dX0_copyFrom_5) (xcons (s_aload_n rfl dX0_copyFrom_8) (xcons (s_aload_n rfl dX0_copyFrom_9) (xcons (s_getI (f := 1) xC0 (by decide) xw_1 rfl dX0_copyFrom_10) (xcons (s_putI (f := 1) xC0 (by decide) xw_1 rfl (Or.inl rfl) dX0_copyFrom_13) (xcons (s_aload_n rfl dX0_copyFrom_16) (xcons (s_aload_n rfl dX0_copyFrom_17) (xcons (s_getI (f := 2) xC0 (by decide) xw_14 rfl dX0_copyFrom_18) (xcons (s_putI (f := 2) xC0 (by decide) xw_14 rfl (Or.inl rfl) dX0_copyFrom_21) (xcons (s_aload_n rfl dX0_copyFrom_24) (xcons (s_aload_n rfl dX0_copyFrom_25) (xcons (s_getI (f := 3) xC0 (by decide) xw_15 rfl dX0_copyFrom_26) (xcons (s_putI (f := 3) xC0 (by decide) xw_15 rfl (Or.inl rfl) dX0_copyFrom_29) (xcons (s_aload_n rfl dX0_copyFrom_32) (xcons (s_aload_n rfl dX0_copyFrom_33) (xcons (s_getI (f := 4) xC0 (by decide) xw_16 rfl dX0_copyFrom_34) (xcons (s_putI (f := 4) xC0 (by decide) xw_16 rfl (Or.inl rfl) dX0_copyFrom_37) (xnil))))))))))))))))))))
theorem dX0_copyFrom_40 : decode cX0_copyFrom 40 = .ok (.aload_n 0, 1) := by decide +kernel
theorem dX0_copyFrom_41 : decode cX0_copyFrom 41 = .ok (.aload_n 1, 1) := by decide +kernel
theorem dX0_copyFrom_42 : decode cX0_copyFrom 42 = .ok (.getfield 43, 3) := by decide +kernel
theorem dX0_copyFrom_45 : decode cX0_copyFrom 45 = .ok (.putfield 43, 3) := by decide +kernel
theorem dX0_copyFrom_48 : decode cX0_copyFrom 48 = .ok (.aload_n 0, 1) := by decide +kernel
theorem dX0_copyFrom_49 : decode cX0_copyFrom 49 = .ok (.aload_n 1, 1) := by decide +kernel
theorem dX0_copyFrom_50 : decode cX0_copyFrom 50 = .ok (.getfield 46, 3) := by decide +kernel
theorem dX0_copyFrom_53 : decode cX0_copyFrom 53 = .ok (.putfield 46, 3) := by decide +kernel
theorem dX0_copyFrom_56 : decode cX0_copyFrom 56 = .ok (.aload_n 0, 1) := by decide +kernel
theorem dX0_copyFrom_57 : decode cX0_copyFrom 57 = .ok (.getfield 14, 3) := by decide +kernel
theorem dX0_copyFrom_60 : decode cX0_copyFrom 60 = .ok (.aload_n 1, 1) := by decide +kernel
theorem dX0_copyFrom_61 : decode cX0_copyFrom 61 = .ok (.getfield 14, 3) := by decide +kernel
theorem dX0_copyFrom_64 : decode cX0_copyFrom 64 = .ok (.invokevirtual 70, 3) := by decide +kernel
theorem dX0_copyFrom_67 : decode cX0_copyFrom 67 = .ok (.aload_n 0, 1) := by decide +kernel
theorem dX0_copyFrom_68 : decode cX0_copyFrom 68 = .ok (.getfield 23, 3) := by decide +kernel
theorem dX0_copyFrom_71 : decode cX0_copyFrom 71 = .ok (.aload_n 1, 1) := by decide +kernel
theorem dX0_copyFrom_72 : decode cX0_copyFrom 72 = .ok (.getfield 23, 3) := by decide +kernel
theorem dX0_copyFrom_75 : decode cX0_copyFrom 75 = .ok (.invokevirtual 74, 3) := by decide +kernel
theorem dX0_copyFrom_78 : decode cX0_copyFrom 78 = .ok (.aload_n 0, 1) := by decide +kernel
theorem dX0_copyFrom_79 : decode cX0_copyFrom 79 = .ok (.getfield 27, 3) := by decide +kernel
def k1_1 : List (Nat × XI) := [(40, x_aload 0 41), (41, x_aload 1 42), (42, x_getI 0 5 45), (45, x_putI 0 5 48), (48, x_aload 0 49), (49, x_aload 1 50), (50, x_getI 0 6 53), (53, x_putZ 0 6 56), (56, x_aload 0 57), (57, x_getR 0 7 60), (60, x_aload 1 61), (61, x_getR 0 7 64), (64, x_inv 8 2 1 67), (67, x_aload 0 68), (68, x_getR 0 8 71), (71, x_aload 1 72), (72, x_getR 0 8 75), (75, x_inv 17 3 1 78), (78, x_aload 0 79), (79, x_getR 0 9 82)]
theorem o1_1 (scr : Nat × (Nat → Int32)) : ∀ q ∈ k1_1, XSnd xm scr Y1 q.1 q.2 := xcons (s_aload_n rfl dX0_copyFrom_40) (xcons (s_aload_n rfl dX0_copyFrom_41) (xcons (s_getI (f := 5) xC0 (by decide) xw_2 rfl dX0_copyFrom_42) (xcons (s_putI (f := 5) xC0 (by decide) xw_2 rfl (Or.inl rfl) dX0_copyFrom_45) (xcons (s_aload_n rfl dX0_copyFrom_48) (xcons (s_aload_n rfl dX0_copyFrom_49) (xcons (s_getI (f := 6) xC0 (by decide) xw_3 rfl dX0_copyFrom_50) (xcons (s_putZ (f := 6) xC0 (by decide) xw_3 rfl (Or.inl rfl) dX0_copyFrom_53) (xcons (s_aload_n rfl dX0_copyFrom_56) (xcons (s_getR (f := 7) xC0 (by decide) xw_17 rfl dX0_copyFrom_57) (xcons (s_aload_n rfl dX0_copyFrom_60) (xcons (s_getR (f := 7) xC0 (by decide) xw_17 rfl dX0_copyFrom_61) (xcons (s_inv (mid := 8) xC2 cal_8 xw_20 xw_21 xw_22 dX0_copyFrom_64) (xcons (s_aload_n rfl dX0_copyFrom_67) (xcons (s_getR (f := 8) xC0 (by decide) xw_4 rfl dX0_copyFrom_68) (xcons (s_aload_n rfl dX0_copyFrom_71) (xcons (s_getR (f := 8) xC0 (by decide) xw_4 rfl dX0_copyFrom_72) (xcons (s_inv (mid := 17) xC3 cal_17 xw_25 xw_26 xw_27 dX0_copyFrom_75) (xcons (s_aload_n rfl dX0_copyFrom_78) (xcons (s_getR (f := 9) xC0 (by decide) xw_6 rfl dX0_copyFrom_79) (xnil))))))))))))))))))))
theorem dX0_copyFrom_82 : decode cX0_copyFrom 82 = .ok (.aload_n 1, 1) := by decide +kernel
theorem dX0_copyFrom_83 : decode cX0_copyFrom 83 = .ok (.getfield 27, 3) := by decide +kernel
theorem dX0_copyFrom_86 : decode cX0_copyFrom 86 = .ok (.invokevirtual 74, 3) := by decide +kernel
theorem dX0_copyFrom_89 : decode cX0_copyFrom 89 = .ok (.aload_n 0, 1) := by decide +kernel
theorem dX0_copyFrom_90 : decode cX0_copyFrom 90 = .ok (.getfield 30, 3) := by decide +kernel
theorem dX0_copyFrom_93 : decode cX0_copyFrom 93 = .ok (.aload_n 1, 1) := by decide +kernel
theorem dX0_copyFrom_94 : decode cX0_copyFrom 94 = .ok (.getfield 30, 3) := by decide +kernel
theorem dX0_copyFrom_97 : decode cX0_copyFrom 97 = .ok (.invokevirtual 70, 3) := by decide +kernel
theorem dX0_copyFrom_100 : decode cX0_copyFrom 100 = .ok (.aload_n 0, 1) := by decide +kernel
theorem dX0_copyFrom_101 : decode cX0_copyFrom 101 = .ok (.getfield 33, 3) := by decide +kernel
theorem dX0_copyFrom_104 : decode cX0_copyFrom 104 = .ok (.aload_n 1, 1) := by decide +kernel
theorem dX0_copyFrom_105 : decode cX0_copyFrom 105 = .ok (.getfield 33, 3) := by decide +kernel
theorem dX0_copyFrom_108 : decode cX0_copyFrom 108 = .ok (.invokevirtual 70, 3) := by decide +kernel
theorem dX0_copyFrom_111 : decode cX0_copyFrom 111 = .ok (.return_, 1) := by decide +kernel
def k1_2 : List (Nat × XI) := [(82, x_aload 1 83), (83, x_getR 0 9 86), (86, x_inv 17 3 1 89), (89, x_aload 0 90), (90, x_getR 0 10 93), (93, x_aload 1 94), (94, x_getR 0 10 97), (97, x_inv 8 2 1 100), (100, x_aload 0 101), (101, x_getR 0 11 104), (104, x_aload 1 105), (105, x_getR 0 11 108), (108, x_inv 8 2 1 111), (111, x_ret)]
theorem o1_2 (scr : Nat × (Nat → Int32)) : ∀ q ∈ k1_2, XSnd xm scr Y1 q.1 q.2 := xcons (s_aload_n rfl dX0_copyFrom_82) (xcons (s_getR (f := 9) xC0 (by decide) xw_6 rfl dX0_copyFrom_83) (xcons (s_inv (mid := 17) xC3 cal_17 xw_25 xw_26 xw_27 dX0_copyFrom_86) (xcons (s_aload_n rfl dX0_copyFrom_89) (xcons (s_getR (f := 10) xC0 (by decide) xw_7 rfl dX0_copyFrom_90) (xcons (s_aload_n rfl dX0_copyFrom_93) (xcons (s_getR (f := 10) xC0 (by decide) xw_7 rfl dX0_copyFrom_94) (xcons (s_inv (mid := 8) xC2 cal_8 xw_20 xw_21 xw_22 dX0_copyFrom_97) (xcons (s_aload_n rfl dX0_copyFrom_100) (xcons (s_getR (f := 11) xC0 (by decide) xw_28 rfl dX0_copyFrom_101) (xcons (s_aload_n rfl dX0_copyFrom_104) (xcons (s_getR (f := 11) xC0 (by decide) xw_28 rfl dX0_copyFrom_105) (xcons (s_inv (mid := 8) xC2 cal_8 xw_20 xw_21 xw_22 dX0_copyFrom_108) (xcons (s_ret dX0_copyFrom_111 rfl) (xnil))))))))))))))
def k1 (pc : Nat) : XI := if pc < 40 then xlk k1_0 pc else if pc < 82 then xlk k1_1 pc else xlk k1_2 pc
theorem o1 (scr : Nat × (Nat → Int32)) (pc : Nat) : XSnd xm scr Y1 pc (k1 pc) := by
  unfold k1
  exact xite (xlk_ok (o1_0 scr) pc) (xite (xlk_ok (o1_1 scr) pc) (xlk_ok (o1_2 scr) pc))
theorem dX0_init_0 : decode cX0_init 0 = .ok (.aload_n 0, 1) := by decide +kernel
theorem dX0_init_1 : decode cX0_init 1 = .ok (.invokespecial 3, 3) := by decide +kernel
theorem dX0_init_4 : decode cX0_init 4 = .ok (.aload_n 0, 1) := by decide +kernel
theorem dX0_init_5 : decode cX0_init 5 = .ok (.new 9, 3) := by decide +kernel
theorem dX0_init_8 : decode cX0_init 8 = .ok (.dup, 1) := by decide +kernel
theorem dX0_init_9 : decode cX0_init 9 = .ok (.iconst 5, 1) := by decide +kernel
theorem dX0_init_10 : decode cX0_init 10 = .ok (.invokespecial 11, 3) := by decide +kernel
theorem dX0_init_13 : decode cX0_init 13 = .ok (.putfield 14, 3) := by decide +kernel
theorem dX0_init_16 : decode cX0_init 16 = .ok (.aload_n 0, 1) := by decide +kernel
theorem dX0_init_17 : decode cX0_init 17 = .ok (.new 20, 3) := by decide +kernel
theorem dX0_init_20 : decode cX0_init 20 = .ok (.dup, 1) := by decide +kernel
theorem dX0_init_21 : decode cX0_init 21 = .ok (.bipush 12, 2) := by decide +kernel
theorem dX0_init_23 : decode cX0_init 23 = .ok (.invokespecial 22, 3) := by decide +kernel
theorem dX0_init_26 : decode cX0_init 26 = .ok (.putfield 23, 3) := by decide +kernel
theorem dX0_init_29 : decode cX0_init 29 = .ok (.aload_n 0, 1) := by decide +kernel
theorem dX0_init_30 : decode cX0_init 30 = .ok (.new 20, 3) := by decide +kernel
theorem dX0_init_33 : decode cX0_init 33 = .ok (.dup, 1) := by decide +kernel
theorem dX0_init_34 : decode cX0_init 34 = .ok (.bipush 6, 2) := by decide +kernel
theorem dX0_init_36 : decode cX0_init 36 = .ok (.invokespecial 22, 3) := by decide +kernel
theorem dX0_init_39 : decode cX0_init 39 = .ok (.putfield 27, 3) := by decide +kernel
def k2_0 : List (Nat × XI) := [(0, x_aload 0 1), (1, x_obj 4), (4, x_aload 0 5), (5, x_new 2 8), (8, x_dup 9), (9, x_push (5) 10), (10, x_inv 12 2 1 13), (13, x_putR 0 7 16), (16, x_aload 0 17), (17, x_new 3 20), (20, x_dup 21), (21, x_push (12) 23), (23, x_inv 19 3 1 26), (26, x_putR 0 8 29), (29, x_aload 0 30), (30, x_new 3 33), (33, x_dup 34), (34, x_push (6) 36), (36, x_inv 19 3 1 39), (39, x_putR 0 9 42)]
theorem o2_0 (scr : Nat × (Nat → Int32)) : ∀ q ∈ k2_0, XSnd xm scr Y2 q.1 q.2 := xcons (s_aload_n rfl dX0_init_0) (xcons (s_obj xw_29 xw_30 xw_31 dX0_init_1) (xcons (s_aload_n rfl dX0_init_4) (xcons (s_new xC2 xw_32 xw_33 xw_19 (by decide +kernel) dX0_init_5) (xcons (s_dup dX0_init_8) (xcons (s_iconst dX0_init_9 rfl) (xcons (s_init (mid := 12) xC2 cal_12 rfl rfl xw_35 xw_36 dX0_init_10) (xcons (s_putR (f := 7) xC0 (by decide) xw_17 rfl (Or.inr ⟨rfl, rfl, rfl⟩) dX0_init_13) (xcons (s_aload_n rfl dX0_init_16) (xcons (s_new xC3 xw_37 xw_38 xw_24 (by decide +kernel) dX0_init_17) (xcons (s_dup dX0_init_20) (xcons (s_bipush dX0_init_21 rfl) (xcons (s_init (mid := 19) xC3 cal_19 rfl rfl xw_40 xw_41 dX0_init_23) (xcons (s_putR (f := 8) xC0 (by decide) xw_4 rfl (Or.inr ⟨rfl, rfl, rfl⟩) dX0_init_26) (xcons (s_aload_n rfl dX0_init_29) (xcons (s_new xC3 xw_37 xw_38 xw_24 (by decide +kernel) dX0_init_30) (xcons (s_dup dX0_init_33) (xcons (s_bipush dX0_init_34 rfl) (xcons (s_init (mid := 19) xC3 cal_19 rfl rfl xw_40 xw_41 dX0_init_36) (xcons (s_putR (f := 9) xC0 (by decide) xw_6 rfl (Or.inr ⟨rfl, rfl, rfl⟩) dX0_init_39) (xnil))))))))))))))))))))
theorem dX0_init_42 : decode cX0_init 42 = .ok (.aload_n 0, 1) := by decide +kernel
theorem dX0_init_43 : decode cX0_init 43 = .ok (.new 9, 3) := by decide +kernel
theorem dX0_init_46 : decode cX0_init 46 = .ok (.dup, 1) := by decide +kernel
theorem dX0_init_47 : decode cX0_init 47 = .ok (.bipush 12, 2) := by decide +kernel
theorem dX0_init_49 : decode cX0_init 49 = .ok (.invokespecial 11, 3) := by decide +kernel
theorem dX0_init_52 : decode cX0_init 52 = .ok (.putfield 30, 3) := by decide +kernel
theorem dX0_init_55 : decode cX0_init 55 = .ok (.aload_n 0, 1) := by decide +kernel
theorem dX0_init_56 : decode cX0_init 56 = .ok (.new 9, 3) := by decide +kernel
theorem dX0_init_59 : decode cX0_init 59 = .ok (.dup, 1) := by decide +kernel
theorem dX0_init_60 : decode cX0_init 60 = .ok (.bipush 10, 2) := by decide +kernel
theorem dX0_init_62 : decode cX0_init 62 = .ok (.invokespecial 11, 3) := by decide +kernel
theorem dX0_init_65 : decode cX0_init 65 = .ok (.putfield 33, 3) := by decide +kernel
theorem dX0_init_68 : decode cX0_init 68 = .ok (.return_, 1) := by decide +kernel
def k2_1 : List (Nat × XI) := [(42, x_aload 0 43), (43, x_new 2 46), (46, x_dup 47), (47, x_push (12) 49), (49, x_inv 12 2 1 52), (52, x_putR 0 10 55), (55, x_aload 0 56), (56, x_new 2 59), (59, x_dup 60), (60, x_push (10) 62), (62, x_inv 12 2 1 65), (65, x_putR 0 11 68), (68, x_ret)]
theorem o2_1 (scr : Nat × (Nat → Int32)) : ∀ q ∈ k2_1, XSnd xm scr Y2 q.1 q.2 := xcons (s_aload_n rfl dX0_init_42) (xcons (s_new xC2 xw_32 xw_33 xw_19 (by decide +kernel) dX0_init_43) (xcons (s_dup dX0_init_46) (xcons (s_bipush dX0_init_47 rfl) (xcons (s_init (mid := 12) xC2 cal_12 rfl rfl xw_35 xw_36 dX0_init_49) (xcons (s_putR (f := 10) xC0 (by decide) xw_7 rfl (Or.inr ⟨rfl, rfl, rfl⟩) dX0_init_52) (xcons (s_aload_n rfl dX0_init_55) (xcons (s_new xC2 xw_32 xw_33 xw_19 (by decide +kernel) dX0_init_56) (xcons (s_dup dX0_init_59) (xcons (s_bipush dX0_init_60 rfl) (xcons (s_init (mid := 12) xC2 cal_12 rfl rfl xw_35 xw_36 dX0_init_62) (xcons (s_putR (f := 11) xC0 (by decide) xw_28 rfl (Or.inr ⟨rfl, rfl, rfl⟩) dX0_init_65) (xcons (s_ret dX0_init_68 rfl) (xnil)))))))))))))
def k2 (pc : Nat) : XI := if pc < 42 then xlk k2_0 pc else xlk k2_1 pc
theorem o2 (scr : Nat × (Nat → Int32)) (pc : Nat) : XSnd xm scr Y2 pc (k2 pc) := by
  unfold k2
  exact xite (xlk_ok (o2_0 scr) pc) (xlk_ok (o2_1 scr) pc)
theorem dX0_keepOwnOnly_0 : decode cX0_keepOwnOnly 0 = .ok (.aload_n 0, 1) := by decide +kernel
theorem dX0_keepOwnOnly_1 : decode cX0_keepOwnOnly 1 = .ok (.getfield 14, 3) := by decide +kernel
theorem dX0_keepOwnOnly_4 : decode cX0_keepOwnOnly 4 = .ok (.iconst 0, 1) := by decide +kernel
theorem dX0_keepOwnOnly_5 : decode cX0_keepOwnOnly 5 = .ok (.putfield 53, 3) := by decide +kernel
theorem dX0_keepOwnOnly_8 : decode cX0_keepOwnOnly 8 = .ok (.aload_n 0, 1) := by decide +kernel
theorem dX0_keepOwnOnly_9 : decode cX0_keepOwnOnly 9 = .ok (.getfield 14, 3) := by decide +kernel
theorem dX0_keepOwnOnly_12 : decode cX0_keepOwnOnly 12 = .ok (.aload_n 0, 1) := by decide +kernel
theorem dX0_keepOwnOnly_13 : decode cX0_keepOwnOnly 13 = .ok (.getfield 40, 3) := by decide +kernel
theorem dX0_keepOwnOnly_16 : decode cX0_keepOwnOnly 16 = .ok (.invokevirtual 57, 3) := by decide +kernel
theorem dX0_keepOwnOnly_19 : decode cX0_keepOwnOnly 19 = .ok (.pop, 1) := by decide +kernel
theorem dX0_keepOwnOnly_20 : decode cX0_keepOwnOnly 20 = .ok (.aload_n 0, 1) := by decide +kernel
theorem dX0_keepOwnOnly_21 : decode cX0_keepOwnOnly 21 = .ok (.getfield 33, 3) := by decide +kernel
theorem dX0_keepOwnOnly_24 : decode cX0_keepOwnOnly 24 = .ok (.iconst 0, 1) := by decide +kernel
theorem dX0_keepOwnOnly_25 : decode cX0_keepOwnOnly 25 = .ok (.putfield 53, 3) := by decide +kernel
theorem dX0_keepOwnOnly_28 : decode cX0_keepOwnOnly 28 = .ok (.return_, 1) := by decide +kernel
def k3_0 : List (Nat × XI) := [(0, x_aload 0 1), (1, x_getR 0 7 4), (4, x_push (0) 5), (5, x_putI 2 1 8), (8, x_aload 0 9), (9, x_getR 0 7 12), (12, x_aload 0 13), (13, x_getI 0 1 16), (16, x_inv 5 2 1 19), (19, x_pop 20), (20, x_aload 0 21), (21, x_getR 0 11 24), (24, x_push (0) 25), (25, x_putI 2 1 28), (28, x_ret)]
theorem o3_0 (scr : Nat × (Nat → Int32)) : ∀ q ∈ k3_0, XSnd xm scr Y3 q.1 q.2 := xcons (s_aload_n rfl dX0_keepOwnOnly_0) (xcons (s_getR (f := 7) xC0 (by decide) xw_17 rfl dX0_keepOwnOnly_1) (xcons (s_iconst dX0_keepOwnOnly_4 rfl) (xcons (s_putI (f := 1) xC2 (by decide) xw_8 rfl (Or.inl rfl) dX0_keepOwnOnly_5) (xcons (s_aload_n rfl dX0_keepOwnOnly_8) (xcons (s_getR (f := 7) xC0 (by decide) xw_17 rfl dX0_keepOwnOnly_9) (xcons (s_aload_n rfl dX0_keepOwnOnly_12) (xcons (s_getI (f := 1) xC0 (by decide) xw_1 rfl dX0_keepOwnOnly_13) (xcons (s_inv (mid := 5) xC2 cal_5 xw_43 xw_44 xw_45 dX0_keepOwnOnly_16) (xcons (s_pop dX0_keepOwnOnly_19) (xcons (s_aload_n rfl dX0_keepOwnOnly_20) (xcons (s_getR (f := 11) xC0 (by decide) xw_28 rfl dX0_keepOwnOnly_21) (xcons (s_iconst dX0_keepOwnOnly_24 rfl) (xcons (s_putI (f := 1) xC2 (by decide) xw_8 rfl (Or.inl rfl) dX0_keepOwnOnly_25) (xcons (s_ret dX0_keepOwnOnly_28 rfl) (xnil)))))))))))))))
def k3 (pc : Nat) : XI := xlk k3_0 pc
theorem o3 (scr : Nat × (Nat → Int32)) (pc : Nat) : XSnd xm scr Y3 pc (k3 pc) := by
  unfold k3
  exact xlk_ok (o3_0 scr) pc
theorem dX1_init_0 : decode cX1_init 0 = .ok (.aload_n 0, 1) := by decide +kernel
theorem dX1_init_1 : decode cX1_init 1 = .ok (.invokespecial 3, 3) := by decide +kernel
theorem dX1_init_4 : decode cX1_init 4 = .ok (.aload_n 0, 1) := by decide +kernel
theorem dX1_init_5 : decode cX1_init 5 = .ok (.new 9, 3) := by decide +kernel
theorem dX1_init_8 : decode cX1_init 8 = .ok (.dup, 1) := by decide +kernel
theorem dX1_init_9 : decode cX1_init 9 = .ok (.bipush 60, 2) := by decide +kernel
theorem dX1_init_11 : decode cX1_init 11 = .ok (.invokespecial 11, 3) := by decide +kernel
theorem dX1_init_14 : decode cX1_init 14 = .ok (.putfield 14, 3) := by decide +kernel
theorem dX1_init_17 : decode cX1_init 17 = .ok (.return_, 1) := by decide +kernel
def k4_0 : List (Nat × XI) := [(0, x_aload 0 1), (1, x_obj 4), (4, x_aload 0 5), (5, x_new 2 8), (8, x_dup 9), (9, x_push (60) 11), (11, x_inv 12 2 1 14), (14, x_putR 1 0 17), (17, x_ret)]
theorem o4_0 (scr : Nat × (Nat → Int32)) : ∀ q ∈ k4_0, XSnd xm scr Y4 q.1 q.2 := xcons (s_aload_n rfl dX1_init_0) (xcons (s_obj xw_46 xw_30 xw_31 dX1_init_1) (xcons (s_aload_n rfl dX1_init_4) (xcons (s_new xC2 xw_47 xw_33 xw_19 (by decide +kernel) dX1_init_5) (xcons (s_dup dX1_init_8) (xcons (s_bipush dX1_init_9 rfl) (xcons (s_init (mid := 12) xC2 cal_12 rfl rfl xw_48 xw_36 dX1_init_11) (xcons (s_putR (f := 0) xC1 (by decide) xw_49 rfl (Or.inr ⟨rfl, rfl, rfl⟩) dX1_init_14) (xcons (s_ret dX1_init_17 rfl) (xnil)))))))))
def k4 (pc : Nat) : XI := xlk k4_0 pc
theorem o4 (scr : Nat × (Nat → Int32)) (pc : Nat) : XSnd xm scr Y4 pc (k4 pc) := by
  unfold k4
  exact xlk_ok (o4_0 scr) pc
theorem dX2_add_0 : decode cX2_add 0 = .ok (.aload_n 0, 1) := by decide +kernel
theorem dX2_add_1 : decode cX2_add 1 = .ok (.getfield 13, 3) := by decide +kernel
theorem dX2_add_4 : decode cX2_add 4 = .ok (.ifCond .lt 15, 3) := by decide +kernel
theorem dX2_add_7 : decode cX2_add 7 = .ok (.aload_n 0, 1) := by decide +kernel
theorem dX2_add_8 : decode cX2_add 8 = .ok (.getfield 13, 3) := by decide +kernel
theorem dX2_add_11 : decode cX2_add 11 = .ok (.aload_n 0, 1) := by decide +kernel
theorem dX2_add_12 : decode cX2_add 12 = .ok (.getfield 7, 3) := by decide +kernel
theorem dX2_add_15 : decode cX2_add 15 = .ok (.arraylength, 1) := by decide +kernel
theorem dX2_add_16 : decode cX2_add 16 = .ok (.if_icmp .lt 5, 3) := by decide +kernel
theorem dX2_add_19 : decode cX2_add 19 = .ok (.iconst 0, 1) := by decide +kernel
theorem dX2_add_20 : decode cX2_add 20 = .ok (.ireturn, 1) := by decide +kernel
theorem dX2_add_21 : decode cX2_add 21 = .ok (.aload_n 0, 1) := by decide +kernel
theorem dX2_add_22 : decode cX2_add 22 = .ok (.getfield 7, 3) := by decide +kernel
theorem dX2_add_25 : decode cX2_add 25 = .ok (.aload_n 0, 1) := by decide +kernel
theorem dX2_add_26 : decode cX2_add 26 = .ok (.getfield 13, 3) := by decide +kernel
theorem dX2_add_29 : decode cX2_add 29 = .ok (.iload_n 1, 1) := by decide +kernel
theorem dX2_add_30 : decode cX2_add 30 = .ok (.iastore, 1) := by decide +kernel
theorem dX2_add_31 : decode cX2_add 31 = .ok (.aload_n 0, 1) := by decide +kernel
theorem dX2_add_32 : decode cX2_add 32 = .ok (.dup, 1) := by decide +kernel
theorem dX2_add_33 : decode cX2_add 33 = .ok (.getfield 13, 3) := by decide +kernel
def k5_0 : List (Nat × XI) := [(0, x_aload 0 1), (1, x_getI 2 1 4), (4, x_iflt 19 7), (7, x_aload 0 8), (8, x_getI 2 1 11), (11, x_aload 0 12), (12, x_getR 2 0 15), (15, x_len 16), (16, x_iclt 21 19), (19, x_push (0) 20), (20, x_zret), (21, x_aload 0 22), (22, x_getR 2 0 25), (25, x_aload 0 26), (26, x_getI 2 1 29), (29, x_iload 1 30), (30, x_iast 31), (31, x_aload 0 32), (32, x_dup 33), (33, x_getI 2 1 36)]
theorem o5_0 (scr : Nat × (Nat → Int32)) : ∀ q ∈ k5_0, XSnd xm scr Y5 q.1 q.2 := xcons (s_aload_n rfl dX2_add_0) (xcons (s_getI (f := 1) xC2 (by decide) xw_50 rfl dX2_add_1) (xcons (s_iflt dX2_add_4 rfl) (xcons (s_aload_n rfl dX2_add_7) (xcons (s_getI (f := 1) xC2 (by decide) xw_50 rfl dX2_add_8) (xcons (s_aload_n rfl dX2_add_11) (xcons (s_getR (f := 0) xC2 (by decide) xw_51 rfl dX2_add_12) (xcons (s_len dX2_add_15) (xcons (s_iclt dX2_add_16 rfl) (xcons (s_iconst dX2_add_19 rfl) (xcons (s_zret dX2_add_20 rfl) (xcons (s_aload_n rfl dX2_add_21) (xcons (s_getR (f := 0) xC2 (by decide) xw_51 rfl dX2_add_22) (xcons (s_aload_n rfl dX2_add_25) (xcons (s_getI (f := 1) xC2 (by decide) xw_50 rfl dX2_add_26) (xcons (s_iload_n rfl dX2_add_29) (xcons (s_iast dX2_add_30) (xcons (s_aload_n rfl dX2_add_31) (xcons (s_dup dX2_add_32) (xcons (s_getI (f := 1) xC2 (by decide) xw_50 rfl dX2_add_33) (xnil))))))))))))))))))))
theorem dX2_add_36 : decode cX2_add 36 = .ok (.iconst 1, 1) := by decide +kernel
theorem dX2_add_37 : decode cX2_add 37 = .ok (.iadd, 1) := by decide +kernel
theorem dX2_add_38 : decode cX2_add 38 = .ok (.putfield 13, 3) := by decide +kernel
theorem dX2_add_41 : decode cX2_add 41 = .ok (.iconst 1, 1) := by decide +kernel
theorem dX2_add_42 : decode cX2_add 42 = .ok (.ireturn, 1) := by decide +kernel
def k5_1 : List (Nat × XI) := [(36, x_push (1) 37), (37, x_iadd 38), (38, x_putI 2 1 41), (41, x_push (1) 42), (42, x_zret)]
theorem o5_1 (scr : Nat × (Nat → Int32)) : ∀ q ∈ k5_1, XSnd xm scr Y5 q.1 q.2 := xcons (s_iconst dX2_add_36 rfl) (xcons (s_iadd dX2_add_37) (xcons (s_putI (f := 1) xC2 (by decide) xw_50 rfl (Or.inl rfl) dX2_add_38) (xcons (s_iconst dX2_add_41 rfl) (xcons (s_zret dX2_add_42 rfl) (xnil)))))
def k5 (pc : Nat) : XI := if pc < 36 then xlk k5_0 pc else xlk k5_1 pc
theorem o5 (scr : Nat × (Nat → Int32)) (pc : Nat) : XSnd xm scr Y5 pc (k5 pc) := by
  unfold k5
  exact xite (xlk_ok (o5_0 scr) pc) (xlk_ok (o5_1 scr) pc)
theorem dX2_at_0 : decode cX2_at 0 = .ok (.iload_n 1, 1) := by decide +kernel
theorem dX2_at_1 : decode cX2_at 1 = .ok (.ifCond .lt 21, 3) := by decide +kernel
theorem dX2_at_4 : decode cX2_at 4 = .ok (.iload_n 1, 1) := by decide +kernel
theorem dX2_at_5 : decode cX2_at 5 = .ok (.aload_n 0, 1) := by decide +kernel
theorem dX2_at_6 : decode cX2_at 6 = .ok (.getfield 7, 3) := by decide +kernel
theorem dX2_at_9 : decode cX2_at 9 = .ok (.arraylength, 1) := by decide +kernel
theorem dX2_at_10 : decode cX2_at 10 = .ok (.if_icmp .ge 12, 3) := by decide +kernel
theorem dX2_at_13 : decode cX2_at 13 = .ok (.aload_n 0, 1) := by decide +kernel
theorem dX2_at_14 : decode cX2_at 14 = .ok (.getfield 7, 3) := by decide +kernel
theorem dX2_at_17 : decode cX2_at 17 = .ok (.iload_n 1, 1) := by decide +kernel
theorem dX2_at_18 : decode cX2_at 18 = .ok (.iaload, 1) := by decide +kernel
theorem dX2_at_19 : decode cX2_at 19 = .ok (.goto 4, 3) := by decide +kernel
theorem dX2_at_22 : decode cX2_at 22 = .ok (.iconst 0, 1) := by decide +kernel
theorem dX2_at_23 : decode cX2_at 23 = .ok (.ireturn, 1) := by decide +kernel
def k6_0 : List (Nat × XI) := [(0, x_iload 1 1), (1, x_iflt 22 4), (4, x_iload 1 5), (5, x_aload 0 6), (6, x_getR 2 0 9), (9, x_len 10), (10, x_icge 22 13), (13, x_aload 0 14), (14, x_getR 2 0 17), (17, x_iload 1 18), (18, x_iald 19), (19, x_goto 23), (22, x_push (0) 23), (23, x_iret)]
theorem o6_0 (scr : Nat × (Nat → Int32)) : ∀ q ∈ k6_0, XSnd xm scr Y6 q.1 q.2 := xcons (s_iload_n rfl dX2_at_0) (xcons (s_iflt dX2_at_1 rfl) (xcons (s_iload_n rfl dX2_at_4) (xcons (s_aload_n rfl dX2_at_5) (xcons (s_getR (f := 0) xC2 (by decide) xw_51 rfl dX2_at_6) (xcons (s_len dX2_at_9) (xcons (s_icge dX2_at_10 rfl) (xcons (s_aload_n rfl dX2_at_13) (xcons (s_getR (f := 0) xC2 (by decide) xw_51 rfl dX2_at_14) (xcons (s_iload_n rfl dX2_at_17) (xcons (s_iald dX2_at_18) (xcons (s_goto dX2_at_19 rfl) (xcons (s_iconst dX2_at_22 rfl) (xcons (s_iret dX2_at_23 rfl) (xnil))))))))))))))
def k6 (pc : Nat) : XI := xlk k6_0 pc
theorem o6 (scr : Nat × (Nat → Int32)) (pc : Nat) : XSnd xm scr Y6 pc (k6 pc) := by
  unfold k6
  exact xlk_ok (o6_0 scr) pc
theorem dX2_change_0 : decode cX2_change 0 = .ok (.iload_n 1, 1) := by decide +kernel
theorem dX2_change_1 : decode cX2_change 1 = .ok (.ifCond .lt 19, 3) := by decide +kernel
theorem dX2_change_4 : decode cX2_change 4 = .ok (.iload_n 1, 1) := by decide +kernel
theorem dX2_change_5 : decode cX2_change 5 = .ok (.aload_n 0, 1) := by decide +kernel
theorem dX2_change_6 : decode cX2_change 6 = .ok (.getfield 7, 3) := by decide +kernel
theorem dX2_change_9 : decode cX2_change 9 = .ok (.arraylength, 1) := by decide +kernel
theorem dX2_change_10 : decode cX2_change 10 = .ok (.if_icmp .ge 10, 3) := by decide +kernel
theorem dX2_change_13 : decode cX2_change 13 = .ok (.aload_n 0, 1) := by decide +kernel
theorem dX2_change_14 : decode cX2_change 14 = .ok (.getfield 7, 3) := by decide +kernel
theorem dX2_change_17 : decode cX2_change 17 = .ok (.iload_n 1, 1) := by decide +kernel
theorem dX2_change_18 : decode cX2_change 18 = .ok (.iload_n 2, 1) := by decide +kernel
theorem dX2_change_19 : decode cX2_change 19 = .ok (.iastore, 1) := by decide +kernel
theorem dX2_change_20 : decode cX2_change 20 = .ok (.return_, 1) := by decide +kernel
def k7_0 : List (Nat × XI) := [(0, x_iload 1 1), (1, x_iflt 20 4), (4, x_iload 1 5), (5, x_aload 0 6), (6, x_getR 2 0 9), (9, x_len 10), (10, x_icge 20 13), (13, x_aload 0 14), (14, x_getR 2 0 17), (17, x_iload 1 18), (18, x_iload 2 19), (19, x_iast 20), (20, x_ret)]
theorem o7_0 (scr : Nat × (Nat → Int32)) : ∀ q ∈ k7_0, XSnd xm scr Y7 q.1 q.2 := xcons (s_iload_n rfl dX2_change_0) (xcons (s_iflt dX2_change_1 rfl) (xcons (s_iload_n rfl dX2_change_4) (xcons (s_aload_n rfl dX2_change_5) (xcons (s_getR (f := 0) xC2 (by decide) xw_51 rfl dX2_change_6) (xcons (s_len dX2_change_9) (xcons (s_icge dX2_change_10 rfl) (xcons (s_aload_n rfl dX2_change_13) (xcons (s_getR (f := 0) xC2 (by decide) xw_51 rfl dX2_change_14) (xcons (s_iload_n rfl dX2_change_17) (xcons (s_iload_n rfl dX2_change_18) (xcons (s_iast dX2_change_19) (xcons (s_ret dX2_change_20 rfl) (xnil)))))))))))))
def k7 (pc : Nat) : XI := xlk k7_0 pc
theorem o7 (scr : Nat × (Nat → Int32)) (pc : Nat) : XSnd xm scr Y7 pc (k7 pc) := by
  unfold k7
  exact xlk_ok (o7_0 scr) pc
theorem dX2_copyFrom_0 : decode cX2_copyFrom 0 = .ok (.aload_n 0, 1) := by decide +kernel
theorem dX2_copyFrom_1 : decode cX2_copyFrom 1 = .ok (.iconst 0, 1) := by decide +kernel
theorem dX2_copyFrom_2 : decode cX2_copyFrom 2 = .ok (.aload_n 1, 1) := by decide +kernel
theorem dX2_copyFrom_3 : decode cX2_copyFrom 3 = .ok (.getfield 13, 3) := by decide +kernel
theorem dX2_copyFrom_6 : decode cX2_copyFrom 6 = .ok (.aload_n 0, 1) := by decide +kernel
theorem dX2_copyFrom_7 : decode cX2_copyFrom 7 = .ok (.getfield 7, 3) := by decide +kernel
theorem dX2_copyFrom_10 : decode cX2_copyFrom 10 = .ok (.arraylength, 1) := by decide +kernel
theorem dX2_copyFrom_11 : decode cX2_copyFrom 11 = .ok (.aload_n 1, 1) := by decide +kernel
theorem dX2_copyFrom_12 : decode cX2_copyFrom 12 = .ok (.getfield 7, 3) := by decide +kernel
theorem dX2_copyFrom_15 : decode cX2_copyFrom 15 = .ok (.arraylength, 1) := by decide +kernel
theorem dX2_copyFrom_16 : decode cX2_copyFrom 16 = .ok (.invokestatic 17, 3) := by decide +kernel
theorem dX2_copyFrom_19 : decode cX2_copyFrom 19 = .ok (.invokestatic 17, 3) := by decide +kernel
theorem dX2_copyFrom_22 : decode cX2_copyFrom 22 = .ok (.invokestatic 23, 3) := by decide +kernel
theorem dX2_copyFrom_25 : decode cX2_copyFrom 25 = .ok (.putfield 13, 3) := by decide +kernel
theorem dX2_copyFrom_28 : decode cX2_copyFrom 28 = .ok (.aload_n 1, 1) := by decide +kernel
theorem dX2_copyFrom_29 : decode cX2_copyFrom 29 = .ok (.getfield 7, 3) := by decide +kernel
theorem dX2_copyFrom_32 : decode cX2_copyFrom 32 = .ok (.iconst 0, 1) := by decide +kernel
theorem dX2_copyFrom_33 : decode cX2_copyFrom 33 = .ok (.aload_n 0, 1) := by decide +kernel
theorem dX2_copyFrom_34 : decode cX2_copyFrom 34 = .ok (.getfield 7, 3) := by decide +kernel
theorem dX2_copyFrom_37 : decode cX2_copyFrom 37 = .ok (.iconst 0, 1) := by decide +kernel
def k8_0 : List (Nat × XI) := [(0, x_aload 0 1), (1, x_push (0) 2), (2, x_aload 1 3), (3, x_getI 2 1 6), (6, x_aload 0 7), (7, x_getR 2 0 10), (10, x_len 11), (11, x_aload 1 12), (12, x_getR 2 0 15), (15, x_len 16), (16, x_mmin 19), (19, x_mmin 22), (22, x_mmax 25), (25, x_putI 2 1 28), (28, x_aload 1 29), (29, x_getR 2 0 32), (32, x_push (0) 33), (33, x_aload 0 34), (34, x_getR 2 0 37), (37, x_push (0) 38)]
theorem o8_0 (scr : Nat × (Nat → Int32)) : ∀ q ∈ k8_0, XSnd xm scr Y8 q.1 q.2 := xcons (s_aload_n rfl dX2_copyFrom_0) (xcons (s_iconst dX2_copyFrom_1 rfl) (xcons (s_aload_n rfl dX2_copyFrom_2) (xcons (s_getI (f := 1) xC2 (by decide) xw_50 rfl dX2_copyFrom_3) (xcons (s_aload_n rfl dX2_copyFrom_6) (xcons (s_getR (f := 0) xC2 (by decide) xw_51 rfl dX2_copyFrom_7) (xcons (s_len dX2_copyFrom_10) (xcons (s_aload_n rfl dX2_copyFrom_11) (xcons (s_getR (f := 0) xC2 (by decide) xw_51 rfl dX2_copyFrom_12) (xcons (s_len dX2_copyFrom_15) (xcons (s_mmin xw_52 xw_53 xw_54 xw_55 dX2_copyFrom_16) (xcons (s_mmin xw_52 xw_53 xw_54 xw_55 dX2_copyFrom_19) (xcons (s_mmax xw_56 xw_57 xw_54 xw_58 dX2_copyFrom_22) (xcons (s_putI (f := 1) xC2 (by decide) xw_50 rfl (Or.inl rfl) dX2_copyFrom_25) (xcons (s_aload_n rfl dX2_copyFrom_28) (xcons (s_getR (f := 0) xC2 (by decide) xw_51 rfl dX2_copyFrom_29) (xcons (s_iconst dX2_copyFrom_32 rfl) (xcons (s_aload_n rfl dX2_copyFrom_33) (xcons (s_getR (f := 0) xC2 (by decide) xw_51 rfl dX2_copyFrom_34) (xcons (s_iconst dX2_copyFrom_37 rfl) (xnil))))))))))))))))))))
theorem dX2_copyFrom_38 : decode cX2_copyFrom 38 = .ok (.aload_n 0, 1) := by decide +kernel
theorem dX2_copyFrom_39 : decode cX2_copyFrom 39 = .ok (.getfield 13, 3) := by decide +kernel
theorem dX2_copyFrom_42 : decode cX2_copyFrom 42 = .ok (.invokestatic 26, 3) := by decide +kernel
theorem dX2_copyFrom_45 : decode cX2_copyFrom 45 = .ok (.return_, 1) := by decide +kernel
def k8_1 : List (Nat × XI) := [(38, x_aload 0 39), (39, x_getI 2 1 42), (42, x_copy 45), (45, x_ret)]
theorem o8_1 (scr : Nat × (Nat → Int32)) : ∀ q ∈ k8_1, XSnd xm scr Y8 q.1 q.2 := xcons (s_aload_n rfl dX2_copyFrom_38) (xcons (s_getI (f := 1) xC2 (by decide) xw_50 rfl dX2_copyFrom_39) (xcons (s_copy xw_59 xw_60 xw_61 xw_62 dX2_copyFrom_42) (xcons (s_ret dX2_copyFrom_45 rfl) (xnil))))
def k8 (pc : Nat) : XI := if pc < 38 then xlk k8_0 pc else xlk k8_1 pc
theorem o8 (scr : Nat × (Nat → Int32)) (pc : Nat) : XSnd xm scr Y8 pc (k8 pc) := by
  unfold k8
  exact xite (xlk_ok (o8_0 scr) pc) (xlk_ok (o8_1 scr) pc)
theorem dX2_countFrom_0 : decode cX2_countFrom 0 = .ok (.iconst 0, 1) := by decide +kernel
theorem dX2_countFrom_1 : decode cX2_countFrom 1 = .ok (.istore_n 2, 1) := by decide +kernel
theorem dX2_countFrom_2 : decode cX2_countFrom 2 = .ok (.iconst 0, 1) := by decide +kernel
theorem dX2_countFrom_3 : decode cX2_countFrom 3 = .ok (.istore_n 3, 1) := by decide +kernel
theorem dX2_countFrom_4 : decode cX2_countFrom 4 = .ok (.iload_n 3, 1) := by decide +kernel
theorem dX2_countFrom_5 : decode cX2_countFrom 5 = .ok (.aload_n 0, 1) := by decide +kernel
theorem dX2_countFrom_6 : decode cX2_countFrom 6 = .ok (.getfield 13, 3) := by decide +kernel
theorem dX2_countFrom_9 : decode cX2_countFrom 9 = .ok (.if_icmp .ge 36, 3) := by decide +kernel
theorem dX2_countFrom_12 : decode cX2_countFrom 12 = .ok (.iload_n 3, 1) := by decide +kernel
theorem dX2_countFrom_13 : decode cX2_countFrom 13 = .ok (.aload_n 0, 1) := by decide +kernel
theorem dX2_countFrom_14 : decode cX2_countFrom 14 = .ok (.getfield 7, 3) := by decide +kernel
theorem dX2_countFrom_17 : decode cX2_countFrom 17 = .ok (.arraylength, 1) := by decide +kernel
theorem dX2_countFrom_18 : decode cX2_countFrom 18 = .ok (.if_icmp .ge 27, 3) := by decide +kernel
theorem dX2_countFrom_21 : decode cX2_countFrom 21 = .ok (.iload_n 2, 1) := by decide +kernel
theorem dX2_countFrom_22 : decode cX2_countFrom 22 = .ok (.aload_n 0, 1) := by decide +kernel
theorem dX2_countFrom_23 : decode cX2_countFrom 23 = .ok (.getfield 7, 3) := by decide +kernel
theorem dX2_countFrom_26 : decode cX2_countFrom 26 = .ok (.iload_n 3, 1) := by decide +kernel
theorem dX2_countFrom_27 : decode cX2_countFrom 27 = .ok (.iaload, 1) := by decide +kernel
theorem dX2_countFrom_28 : decode cX2_countFrom 28 = .ok (.iload_n 1, 1) := by decide +kernel
theorem dX2_countFrom_29 : decode cX2_countFrom 29 = .ok (.if_icmp .lt 7, 3) := by decide +kernel
def k9_0 : List (Nat × XI) := [(0, x_push (0) 1), (1, x_istore 2 2), (2, x_push (0) 3), (3, x_istore 3 4), (4, x_iload 3 5), (5, x_aload 0 6), (6, x_getI 2 1 9), (9, x_icge 45 12), (12, x_iload 3 13), (13, x_aload 0 14), (14, x_getR 2 0 17), (17, x_len 18), (18, x_icge 45 21), (21, x_iload 2 22), (22, x_aload 0 23), (23, x_getR 2 0 26), (26, x_iload 3 27), (27, x_iald 28), (28, x_iload 1 29), (29, x_iclt 36 32)]
theorem o9_0 (scr : Nat × (Nat → Int32)) : ∀ q ∈ k9_0, XSnd xm scr Y9 q.1 q.2 := xcons (s_iconst dX2_countFrom_0 rfl) (xcons (s_istore_n rfl dX2_countFrom_1 (by decide)) (xcons (s_iconst dX2_countFrom_2 rfl) (xcons (s_istore_n rfl dX2_countFrom_3 (by decide)) (xcons (s_iload_n rfl dX2_countFrom_4) (xcons (s_aload_n rfl dX2_countFrom_5) (xcons (s_getI (f := 1) xC2 (by decide) xw_50 rfl dX2_countFrom_6) (xcons (s_icge dX2_countFrom_9 rfl) (xcons (s_iload_n rfl dX2_countFrom_12) (xcons (s_aload_n rfl dX2_countFrom_13) (xcons (s_getR (f := 0) xC2 (by decide) xw_51 rfl dX2_countFrom_14) (xcons (s_len dX2_countFrom_17) (xcons (s_icge dX2_countFrom_18 rfl) (xcons (s_iload_n rfl dX2_countFrom_21) (xcons (s_aload_n rfl dX2_countFrom_22) (xcons (s_getR (f := 0) xC2 (by decide) xw_51 rfl dX2_countFrom_23) (xcons (s_iload_n rfl dX2_countFrom_26) (xcons (s_iald dX2_countFrom_27) (xcons (s_iload_n rfl dX2_countFrom_28) (xcons (s_iclt dX2_countFrom_29 rfl) (xnil))))))))))))))))))))
theorem dX2_countFrom_32 : decode cX2_countFrom 32 = .ok (.iconst 1, 1) := by decide +kernel
theorem dX2_countFrom_33 : decode cX2_countFrom 33 = .ok (.goto 4, 3) := by decide +kernel
theorem dX2_countFrom_36 : decode cX2_countFrom 36 = .ok (.iconst 0, 1) := by decide +kernel
theorem dX2_countFrom_37 : decode cX2_countFrom 37 = .ok (.iadd, 1) := by decide +kernel
theorem dX2_countFrom_38 : decode cX2_countFrom 38 = .ok (.istore_n 2, 1) := by decide +kernel
theorem dX2_countFrom_39 : decode cX2_countFrom 39 = .ok (.iinc 3 1, 3) := by decide +kernel
theorem dX2_countFrom_42 : decode cX2_countFrom 42 = .ok (.goto (-38), 3) := by decide +kernel
theorem dX2_countFrom_45 : decode cX2_countFrom 45 = .ok (.iload_n 2, 1) := by decide +kernel
theorem dX2_countFrom_46 : decode cX2_countFrom 46 = .ok (.ireturn, 1) := by decide +kernel
def k9_1 : List (Nat × XI) := [(32, x_push (1) 33), (33, x_goto 37), (36, x_push (0) 37), (37, x_iadd 38), (38, x_istore 2 39), (39, x_iinc 3 (1) 42), (42, x_goto 4), (45, x_iload 2 46), (46, x_iret)]
theorem o9_1 (scr : Nat × (Nat → Int32)) : ∀ q ∈ k9_1, XSnd xm scr Y9 q.1 q.2 := xcons (s_iconst dX2_countFrom_32 rfl) (xcons (s_goto dX2_countFrom_33 rfl) (xcons (s_iconst dX2_countFrom_36 rfl) (xcons (s_iadd dX2_countFrom_37) (xcons (s_istore_n rfl dX2_countFrom_38 (by decide)) (xcons (s_iinc dX2_countFrom_39 rfl (by decide)) (xcons (s_goto dX2_countFrom_42 rfl) (xcons (s_iload_n rfl dX2_countFrom_45) (xcons (s_iret dX2_countFrom_46 rfl) (xnil)))))))))
def k9 (pc : Nat) : XI := if pc < 32 then xlk k9_0 pc else xlk k9_1 pc
theorem o9 (scr : Nat × (Nat → Int32)) (pc : Nat) : XSnd xm scr Y9 pc (k9 pc) := by
  unfold k9
  exact xite (xlk_ok (o9_0 scr) pc) (xlk_ok (o9_1 scr) pc)
theorem dX2_fillWithZeros_0 : decode cX2_fillWithZeros 0 = .ok (.iconst 0, 1) := by decide +kernel
theorem dX2_fillWithZeros_1 : decode cX2_fillWithZeros 1 = .ok (.istore_n 2, 1) := by decide +kernel
theorem dX2_fillWithZeros_2 : decode cX2_fillWithZeros 2 = .ok (.iload_n 2, 1) := by decide +kernel
theorem dX2_fillWithZeros_3 : decode cX2_fillWithZeros 3 = .ok (.aload_n 0, 1) := by decide +kernel
theorem dX2_fillWithZeros_4 : decode cX2_fillWithZeros 4 = .ok (.getfield 7, 3) := by decide +kernel
theorem dX2_fillWithZeros_7 : decode cX2_fillWithZeros 7 = .ok (.arraylength, 1) := by decide +kernel
theorem dX2_fillWithZeros_8 : decode cX2_fillWithZeros 8 = .ok (.if_icmp .ge 16, 3) := by decide +kernel
theorem dX2_fillWithZeros_11 : decode cX2_fillWithZeros 11 = .ok (.aload_n 0, 1) := by decide +kernel
theorem dX2_fillWithZeros_12 : decode cX2_fillWithZeros 12 = .ok (.getfield 7, 3) := by decide +kernel
theorem dX2_fillWithZeros_15 : decode cX2_fillWithZeros 15 = .ok (.iload_n 2, 1) := by decide +kernel
theorem dX2_fillWithZeros_16 : decode cX2_fillWithZeros 16 = .ok (.iconst 0, 1) := by decide +kernel
theorem dX2_fillWithZeros_17 : decode cX2_fillWithZeros 17 = .ok (.iastore, 1) := by decide +kernel
theorem dX2_fillWithZeros_18 : decode cX2_fillWithZeros 18 = .ok (.iinc 2 1, 3) := by decide +kernel
theorem dX2_fillWithZeros_21 : decode cX2_fillWithZeros 21 = .ok (.goto (-19), 3) := by decide +kernel
theorem dX2_fillWithZeros_24 : decode cX2_fillWithZeros 24 = .ok (.aload_n 0, 1) := by decide +kernel
theorem dX2_fillWithZeros_25 : decode cX2_fillWithZeros 25 = .ok (.iconst 0, 1) := by decide +kernel
theorem dX2_fillWithZeros_26 : decode cX2_fillWithZeros 26 = .ok (.iload_n 1, 1) := by decide +kernel
theorem dX2_fillWithZeros_27 : decode cX2_fillWithZeros 27 = .ok (.aload_n 0, 1) := by decide +kernel
theorem dX2_fillWithZeros_28 : decode cX2_fillWithZeros 28 = .ok (.getfield 7, 3) := by decide +kernel
theorem dX2_fillWithZeros_31 : decode cX2_fillWithZeros 31 = .ok (.arraylength, 1) := by decide +kernel
def k10_0 : List (Nat × XI) := [(0, x_push (0) 1), (1, x_istore 2 2), (2, x_iload 2 3), (3, x_aload 0 4), (4, x_getR 2 0 7), (7, x_len 8), (8, x_icge 24 11), (11, x_aload 0 12), (12, x_getR 2 0 15), (15, x_iload 2 16), (16, x_push (0) 17), (17, x_iast 18), (18, x_iinc 2 (1) 21), (21, x_goto 2), (24, x_aload 0 25), (25, x_push (0) 26), (26, x_iload 1 27), (27, x_aload 0 28), (28, x_getR 2 0 31), (31, x_len 32)]
theorem o10_0 (scr : Nat × (Nat → Int32)) : ∀ q ∈ k10_0, XSnd xm scr Y10 q.1 q.2 := xcons (s_iconst dX2_fillWithZeros_0 rfl) (xcons (s_istore_n rfl dX2_fillWithZeros_1 (by decide)) (xcons (s_iload_n rfl dX2_fillWithZeros_2) (xcons (s_aload_n rfl dX2_fillWithZeros_3) (xcons (s_getR (f := 0) xC2 (by decide) xw_51 rfl dX2_fillWithZeros_4) (xcons (s_len dX2_fillWithZeros_7) (xcons (s_icge dX2_fillWithZeros_8 rfl) (xcons (s_aload_n rfl dX2_fillWithZeros_11) (xcons (s_getR (f := 0) xC2 (by decide) xw_51 rfl dX2_fillWithZeros_12) (xcons (s_iload_n rfl dX2_fillWithZeros_15) (xcons (s_iconst dX2_fillWithZeros_16 rfl) (xcons (s_iast dX2_fillWithZeros_17) (xcons (s_iinc dX2_fillWithZeros_18 rfl (by decide)) (xcons (s_goto dX2_fillWithZeros_21 rfl) (xcons (s_aload_n rfl dX2_fillWithZeros_24) (xcons (s_iconst dX2_fillWithZeros_25 rfl) (xcons (s_iload_n rfl dX2_fillWithZeros_26) (xcons (s_aload_n rfl dX2_fillWithZeros_27) (xcons (s_getR (f := 0) xC2 (by decide) xw_51 rfl dX2_fillWithZeros_28) (xcons (s_len dX2_fillWithZeros_31) (xnil))))))))))))))))))))
theorem dX2_fillWithZeros_32 : decode cX2_fillWithZeros 32 = .ok (.invokestatic 17, 3) := by decide +kernel
theorem dX2_fillWithZeros_35 : decode cX2_fillWithZeros 35 = .ok (.invokestatic 23, 3) := by decide +kernel
theorem dX2_fillWithZeros_38 : decode cX2_fillWithZeros 38 = .ok (.putfield 13, 3) := by decide +kernel
theorem dX2_fillWithZeros_41 : decode cX2_fillWithZeros 41 = .ok (.return_, 1) := by decide +kernel
def k10_1 : List (Nat × XI) := [(32, x_mmin 35), (35, x_mmax 38), (38, x_putI 2 1 41), (41, x_ret)]
theorem o10_1 (scr : Nat × (Nat → Int32)) : ∀ q ∈ k10_1, XSnd xm scr Y10 q.1 q.2 := xcons (s_mmin xw_52 xw_53 xw_54 xw_55 dX2_fillWithZeros_32) (xcons (s_mmax xw_56 xw_57 xw_54 xw_58 dX2_fillWithZeros_35) (xcons (s_putI (f := 1) xC2 (by decide) xw_50 rfl (Or.inl rfl) dX2_fillWithZeros_38) (xcons (s_ret dX2_fillWithZeros_41 rfl) (xnil))))
def k10 (pc : Nat) : XI := if pc < 32 then xlk k10_0 pc else xlk k10_1 pc
theorem o10 (scr : Nat × (Nat → Int32)) (pc : Nat) : XSnd xm scr Y10 pc (k10 pc) := by
  unfold k10
  exact xite (xlk_ok (o10_0 scr) pc) (xlk_ok (o10_1 scr) pc)
theorem dX2_has_0 : decode cX2_has 0 = .ok (.iconst 0, 1) := by decide +kernel
theorem dX2_has_1 : decode cX2_has 1 = .ok (.istore_n 2, 1) := by decide +kernel
theorem dX2_has_2 : decode cX2_has 2 = .ok (.iload_n 2, 1) := by decide +kernel
theorem dX2_has_3 : decode cX2_has 3 = .ok (.aload_n 0, 1) := by decide +kernel
theorem dX2_has_4 : decode cX2_has 4 = .ok (.getfield 13, 3) := by decide +kernel
theorem dX2_has_7 : decode cX2_has 7 = .ok (.if_icmp .ge 30, 3) := by decide +kernel
theorem dX2_has_10 : decode cX2_has 10 = .ok (.iload_n 2, 1) := by decide +kernel
theorem dX2_has_11 : decode cX2_has 11 = .ok (.aload_n 0, 1) := by decide +kernel
theorem dX2_has_12 : decode cX2_has 12 = .ok (.getfield 7, 3) := by decide +kernel
theorem dX2_has_15 : decode cX2_has 15 = .ok (.arraylength, 1) := by decide +kernel
theorem dX2_has_16 : decode cX2_has 16 = .ok (.if_icmp .ge 21, 3) := by decide +kernel
theorem dX2_has_19 : decode cX2_has 19 = .ok (.aload_n 0, 1) := by decide +kernel
theorem dX2_has_20 : decode cX2_has 20 = .ok (.getfield 7, 3) := by decide +kernel
theorem dX2_has_23 : decode cX2_has 23 = .ok (.iload_n 2, 1) := by decide +kernel
theorem dX2_has_24 : decode cX2_has 24 = .ok (.iaload, 1) := by decide +kernel
theorem dX2_has_25 : decode cX2_has 25 = .ok (.iload_n 1, 1) := by decide +kernel
theorem dX2_has_26 : decode cX2_has 26 = .ok (.if_icmp .ne 5, 3) := by decide +kernel
theorem dX2_has_29 : decode cX2_has 29 = .ok (.iconst 1, 1) := by decide +kernel
theorem dX2_has_30 : decode cX2_has 30 = .ok (.ireturn, 1) := by decide +kernel
theorem dX2_has_31 : decode cX2_has 31 = .ok (.iinc 2 1, 3) := by decide +kernel
def k11_0 : List (Nat × XI) := [(0, x_push (0) 1), (1, x_istore 2 2), (2, x_iload 2 3), (3, x_aload 0 4), (4, x_getI 2 1 7), (7, x_icge 37 10), (10, x_iload 2 11), (11, x_aload 0 12), (12, x_getR 2 0 15), (15, x_len 16), (16, x_icge 37 19), (19, x_aload 0 20), (20, x_getR 2 0 23), (23, x_iload 2 24), (24, x_iald 25), (25, x_iload 1 26), (26, x_icne 31 29), (29, x_push (1) 30), (30, x_zret), (31, x_iinc 2 (1) 34)]
theorem o11_0 (scr : Nat × (Nat → Int32)) : ∀ q ∈ k11_0, XSnd xm scr Y11 q.1 q.2 := xcons (s_iconst dX2_has_0 rfl) (xcons (s_istore_n rfl dX2_has_1 (by decide)) (xcons (s_iload_n rfl dX2_has_2) (xcons (s_aload_n rfl dX2_has_3) (xcons (s_getI (f := 1) xC2 (by decide) xw_50 rfl dX2_has_4) (xcons (s_icge dX2_has_7 rfl) (xcons (s_iload_n rfl dX2_has_10) (xcons (s_aload_n rfl dX2_has_11) (xcons (s_getR (f := 0) xC2 (by decide) xw_51 rfl dX2_has_12) (xcons (s_len dX2_has_15) (xcons (s_icge dX2_has_16 rfl) (xcons (s_aload_n rfl dX2_has_19) (xcons (s_getR (f := 0) xC2 (by decide) xw_51 rfl dX2_has_20) (xcons (s_iload_n rfl dX2_has_23) (xcons (s_iald dX2_has_24) (xcons (s_iload_n rfl dX2_has_25) (xcons (s_icne dX2_has_26 rfl) (xcons (s_iconst dX2_has_29 rfl) (xcons (s_zret dX2_has_30 rfl) (xcons (s_iinc dX2_has_31 rfl (by decide)) (xnil))))))))))))))))))))
theorem dX2_has_34 : decode cX2_has 34 = .ok (.goto (-32), 3) := by decide +kernel
theorem dX2_has_37 : decode cX2_has 37 = .ok (.iconst 0, 1) := by decide +kernel
theorem dX2_has_38 : decode cX2_has 38 = .ok (.ireturn, 1) := by decide +kernel
def k11_1 : List (Nat × XI) := [(34, x_goto 2), (37, x_push (0) 38), (38, x_zret)]
theorem o11_1 (scr : Nat × (Nat → Int32)) : ∀ q ∈ k11_1, XSnd xm scr Y11 q.1 q.2 := xcons (s_goto dX2_has_34 rfl) (xcons (s_iconst dX2_has_37 rfl) (xcons (s_zret dX2_has_38 rfl) (xnil)))
def k11 (pc : Nat) : XI := if pc < 34 then xlk k11_0 pc else xlk k11_1 pc
theorem o11 (scr : Nat × (Nat → Int32)) (pc : Nat) : XSnd xm scr Y11 pc (k11 pc) := by
  unfold k11
  exact xite (xlk_ok (o11_0 scr) pc) (xlk_ok (o11_1 scr) pc)
theorem dX2_init_0 : decode cX2_init 0 = .ok (.aload_n 0, 1) := by decide +kernel
theorem dX2_init_1 : decode cX2_init 1 = .ok (.invokespecial 1, 3) := by decide +kernel
theorem dX2_init_4 : decode cX2_init 4 = .ok (.aload_n 0, 1) := by decide +kernel
theorem dX2_init_5 : decode cX2_init 5 = .ok (.iload_n 1, 1) := by decide +kernel
theorem dX2_init_6 : decode cX2_init 6 = .ok (.ifCond .ge 7, 3) := by decide +kernel
theorem dX2_init_9 : decode cX2_init 9 = .ok (.iconst 0, 1) := by decide +kernel
theorem dX2_init_10 : decode cX2_init 10 = .ok (.goto 4, 3) := by decide +kernel
theorem dX2_init_13 : decode cX2_init 13 = .ok (.iload_n 1, 1) := by decide +kernel
theorem dX2_init_14 : decode cX2_init 14 = .ok (.newarray .int, 2) := by decide +kernel
theorem dX2_init_16 : decode cX2_init 16 = .ok (.putfield 7, 3) := by decide +kernel
theorem dX2_init_19 : decode cX2_init 19 = .ok (.return_, 1) := by decide +kernel
def k12_0 : List (Nat × XI) := [(0, x_aload 0 1), (1, x_obj 4), (4, x_aload 0 5), (5, x_iload 1 6), (6, x_ifge 13 9), (9, x_push (0) 10), (10, x_goto 14), (13, x_iload 1 14), (14, x_newI 16), (16, x_putR 2 0 19), (19, x_ret)]
theorem o12_0 (scr : Nat × (Nat → Int32)) : ∀ q ∈ k12_0, XSnd xm scr Y12 q.1 q.2 := xcons (s_aload_n rfl dX2_init_0) (xcons (s_obj xw_63 xw_30 xw_31 dX2_init_1) (xcons (s_aload_n rfl dX2_init_4) (xcons (s_iload_n rfl dX2_init_5) (xcons (s_ifge dX2_init_6 rfl) (xcons (s_iconst dX2_init_9 rfl) (xcons (s_goto dX2_init_10 rfl) (xcons (s_iload_n rfl dX2_init_13) (xcons (s_newI xw_64 dX2_init_14) (xcons (s_putR (f := 0) xC2 (by decide) xw_51 rfl (Or.inr ⟨rfl, rfl, rfl⟩) dX2_init_16) (xcons (s_ret dX2_init_19 rfl) (xnil)))))))))))
def k12 (pc : Nat) : XI := xlk k12_0 pc
theorem o12 (scr : Nat × (Nat → Int32)) (pc : Nat) : XSnd xm scr Y12 pc (k12 pc) := by
  unfold k12
  exact xlk_ok (o12_0 scr) pc
theorem dX2_remove_0 : decode cX2_remove 0 = .ok (.iconst 0, 1) := by decide +kernel
theorem dX2_remove_1 : decode cX2_remove 1 = .ok (.istore_n 2, 1) := by decide +kernel
theorem dX2_remove_2 : decode cX2_remove 2 = .ok (.iconst 0, 1) := by decide +kernel
theorem dX2_remove_3 : decode cX2_remove 3 = .ok (.istore_n 3, 1) := by decide +kernel
theorem dX2_remove_4 : decode cX2_remove 4 = .ok (.iload_n 3, 1) := by decide +kernel
theorem dX2_remove_5 : decode cX2_remove 5 = .ok (.aload_n 0, 1) := by decide +kernel
theorem dX2_remove_6 : decode cX2_remove 6 = .ok (.getfield 13, 3) := by decide +kernel
theorem dX2_remove_9 : decode cX2_remove 9 = .ok (.if_icmp .ge 43, 3) := by decide +kernel
theorem dX2_remove_12 : decode cX2_remove 12 = .ok (.iload_n 3, 1) := by decide +kernel
theorem dX2_remove_13 : decode cX2_remove 13 = .ok (.aload_n 0, 1) := by decide +kernel
theorem dX2_remove_14 : decode cX2_remove 14 = .ok (.getfield 7, 3) := by decide +kernel
theorem dX2_remove_17 : decode cX2_remove 17 = .ok (.arraylength, 1) := by decide +kernel
theorem dX2_remove_18 : decode cX2_remove 18 = .ok (.if_icmp .ge 34, 3) := by decide +kernel
theorem dX2_remove_21 : decode cX2_remove 21 = .ok (.aload_n 0, 1) := by decide +kernel
theorem dX2_remove_22 : decode cX2_remove 22 = .ok (.getfield 7, 3) := by decide +kernel
theorem dX2_remove_25 : decode cX2_remove 25 = .ok (.iload_n 3, 1) := by decide +kernel
theorem dX2_remove_26 : decode cX2_remove 26 = .ok (.iaload, 1) := by decide +kernel
theorem dX2_remove_27 : decode cX2_remove 27 = .ok (.iload_n 1, 1) := by decide +kernel
theorem dX2_remove_28 : decode cX2_remove 28 = .ok (.if_icmp .eq 18, 3) := by decide +kernel
theorem dX2_remove_31 : decode cX2_remove 31 = .ok (.aload_n 0, 1) := by decide +kernel
def k13_0 : List (Nat × XI) := [(0, x_push (0) 1), (1, x_istore 2 2), (2, x_push (0) 3), (3, x_istore 3 4), (4, x_iload 3 5), (5, x_aload 0 6), (6, x_getI 2 1 9), (9, x_icge 52 12), (12, x_iload 3 13), (13, x_aload 0 14), (14, x_getR 2 0 17), (17, x_len 18), (18, x_icge 52 21), (21, x_aload 0 22), (22, x_getR 2 0 25), (25, x_iload 3 26), (26, x_iald 27), (27, x_iload 1 28), (28, x_iceq 46 31), (31, x_aload 0 32)]
theorem o13_0 (scr : Nat × (Nat → Int32)) : ∀ q ∈ k13_0, XSnd xm scr Y13 q.1 q.2 := xcons (s_iconst dX2_remove_0 rfl) (xcons (s_istore_n rfl dX2_remove_1 (by decide)) (xcons (s_iconst dX2_remove_2 rfl) (xcons (s_istore_n rfl dX2_remove_3 (by decide)) (xcons (s_iload_n rfl dX2_remove_4) (xcons (s_aload_n rfl dX2_remove_5) (xcons (s_getI (f := 1) xC2 (by decide) xw_50 rfl dX2_remove_6) (xcons (s_icge dX2_remove_9 rfl) (xcons (s_iload_n rfl dX2_remove_12) (xcons (s_aload_n rfl dX2_remove_13) (xcons (s_getR (f := 0) xC2 (by decide) xw_51 rfl dX2_remove_14) (xcons (s_len dX2_remove_17) (xcons (s_icge dX2_remove_18 rfl) (xcons (s_aload_n rfl dX2_remove_21) (xcons (s_getR (f := 0) xC2 (by decide) xw_51 rfl dX2_remove_22) (xcons (s_iload_n rfl dX2_remove_25) (xcons (s_iald dX2_remove_26) (xcons (s_iload_n rfl dX2_remove_27) (xcons (s_iceq dX2_remove_28 rfl) (xcons (s_aload_n rfl dX2_remove_31) (xnil))))))))))))))))))))
theorem dX2_remove_32 : decode cX2_remove 32 = .ok (.getfield 7, 3) := by decide +kernel
theorem dX2_remove_35 : decode cX2_remove 35 = .ok (.iload_n 2, 1) := by decide +kernel
theorem dX2_remove_36 : decode cX2_remove 36 = .ok (.aload_n 0, 1) := by decide +kernel
theorem dX2_remove_37 : decode cX2_remove 37 = .ok (.getfield 7, 3) := by decide +kernel
theorem dX2_remove_40 : decode cX2_remove 40 = .ok (.iload_n 3, 1) := by decide +kernel
theorem dX2_remove_41 : decode cX2_remove 41 = .ok (.iaload, 1) := by decide +kernel
theorem dX2_remove_42 : decode cX2_remove 42 = .ok (.iastore, 1) := by decide +kernel
theorem dX2_remove_43 : decode cX2_remove 43 = .ok (.iinc 2 1, 3) := by decide +kernel
theorem dX2_remove_46 : decode cX2_remove 46 = .ok (.iinc 3 1, 3) := by decide +kernel
theorem dX2_remove_49 : decode cX2_remove 49 = .ok (.goto (-45), 3) := by decide +kernel
theorem dX2_remove_52 : decode cX2_remove 52 = .ok (.aload_n 0, 1) := by decide +kernel
theorem dX2_remove_53 : decode cX2_remove 53 = .ok (.iload_n 2, 1) := by decide +kernel
theorem dX2_remove_54 : decode cX2_remove 54 = .ok (.putfield 13, 3) := by decide +kernel
theorem dX2_remove_57 : decode cX2_remove 57 = .ok (.return_, 1) := by decide +kernel
def k13_1 : List (Nat × XI) := [(32, x_getR 2 0 35), (35, x_iload 2 36), (36, x_aload 0 37), (37, x_getR 2 0 40), (40, x_iload 3 41), (41, x_iald 42), (42, x_iast 43), (43, x_iinc 2 (1) 46), (46, x_iinc 3 (1) 49), (49, x_goto 4), (52, x_aload 0 53), (53, x_iload 2 54), (54, x_putI 2 1 57), (57, x_ret)]
theorem o13_1 (scr : Nat × (Nat → Int32)) : ∀ q ∈ k13_1, XSnd xm scr Y13 q.1 q.2 := xcons (s_getR (f := 0) xC2 (by decide) xw_51 rfl dX2_remove_32) (xcons (s_iload_n rfl dX2_remove_35) (xcons (s_aload_n rfl dX2_remove_36) (xcons (s_getR (f := 0) xC2 (by decide) xw_51 rfl dX2_remove_37) (xcons (s_iload_n rfl dX2_remove_40) (xcons (s_iald dX2_remove_41) (xcons (s_iast dX2_remove_42) (xcons (s_iinc dX2_remove_43 rfl (by decide)) (xcons (s_iinc dX2_remove_46 rfl (by decide)) (xcons (s_goto dX2_remove_49 rfl) (xcons (s_aload_n rfl dX2_remove_52) (xcons (s_iload_n rfl dX2_remove_53) (xcons (s_putI (f := 1) xC2 (by decide) xw_50 rfl (Or.inl rfl) dX2_remove_54) (xcons (s_ret dX2_remove_57 rfl) (xnil))))))))))))))
def k13 (pc : Nat) : XI := if pc < 32 then xlk k13_0 pc else xlk k13_1 pc
theorem o13 (scr : Nat × (Nat → Int32)) (pc : Nat) : XSnd xm scr Y13 pc (k13 pc) := by
  unfold k13
  exact xite (xlk_ok (o13_0 scr) pc) (xlk_ok (o13_1 scr) pc)
theorem dX2_removeBelow_0 : decode cX2_removeBelow 0 = .ok (.iconst 0, 1) := by decide +kernel
theorem dX2_removeBelow_1 : decode cX2_removeBelow 1 = .ok (.istore_n 2, 1) := by decide +kernel
theorem dX2_removeBelow_2 : decode cX2_removeBelow 2 = .ok (.iconst 0, 1) := by decide +kernel
theorem dX2_removeBelow_3 : decode cX2_removeBelow 3 = .ok (.istore_n 3, 1) := by decide +kernel
theorem dX2_removeBelow_4 : decode cX2_removeBelow 4 = .ok (.iload_n 3, 1) := by decide +kernel
theorem dX2_removeBelow_5 : decode cX2_removeBelow 5 = .ok (.aload_n 0, 1) := by decide +kernel
theorem dX2_removeBelow_6 : decode cX2_removeBelow 6 = .ok (.getfield 13, 3) := by decide +kernel
theorem dX2_removeBelow_9 : decode cX2_removeBelow 9 = .ok (.if_icmp .ge 43, 3) := by decide +kernel
theorem dX2_removeBelow_12 : decode cX2_removeBelow 12 = .ok (.iload_n 3, 1) := by decide +kernel
theorem dX2_removeBelow_13 : decode cX2_removeBelow 13 = .ok (.aload_n 0, 1) := by decide +kernel
theorem dX2_removeBelow_14 : decode cX2_removeBelow 14 = .ok (.getfield 7, 3) := by decide +kernel
theorem dX2_removeBelow_17 : decode cX2_removeBelow 17 = .ok (.arraylength, 1) := by decide +kernel
theorem dX2_removeBelow_18 : decode cX2_removeBelow 18 = .ok (.if_icmp .ge 34, 3) := by decide +kernel
theorem dX2_removeBelow_21 : decode cX2_removeBelow 21 = .ok (.aload_n 0, 1) := by decide +kernel
theorem dX2_removeBelow_22 : decode cX2_removeBelow 22 = .ok (.getfield 7, 3) := by decide +kernel
theorem dX2_removeBelow_25 : decode cX2_removeBelow 25 = .ok (.iload_n 3, 1) := by decide +kernel
theorem dX2_removeBelow_26 : decode cX2_removeBelow 26 = .ok (.iaload, 1) := by decide +kernel
theorem dX2_removeBelow_27 : decode cX2_removeBelow 27 = .ok (.iload_n 1, 1) := by decide +kernel
theorem dX2_removeBelow_28 : decode cX2_removeBelow 28 = .ok (.if_icmp .lt 18, 3) := by decide +kernel
theorem dX2_removeBelow_31 : decode cX2_removeBelow 31 = .ok (.aload_n 0, 1) := by decide +kernel
def k14_0 : List (Nat × XI) := [(0, x_push (0) 1), (1, x_istore 2 2), (2, x_push (0) 3), (3, x_istore 3 4), (4, x_iload 3 5), (5, x_aload 0 6), (6, x_getI 2 1 9), (9, x_icge 52 12), (12, x_iload 3 13), (13, x_aload 0 14), (14, x_getR 2 0 17), (17, x_len 18), (18, x_icge 52 21), (21, x_aload 0 22), (22, x_getR 2 0 25), (25, x_iload 3 26), (26, x_iald 27), (27, x_iload 1 28), (28, x_iclt 46 31), (31, x_aload 0 32)]
theorem o14_0 (scr : Nat × (Nat → Int32)) : ∀ q ∈ k14_0, XSnd xm scr Y14 q.1 q.2 := xcons (s_iconst dX2_removeBelow_0 rfl) (xcons (s_istore_n rfl dX2_removeBelow_1 (by decide)) (xcons (s_iconst dX2_removeBelow_2 rfl) (xcons (s_istore_n rfl dX2_removeBelow_3 (by decide)) (xcons (s_iload_n rfl dX2_removeBelow_4) (xcons (s_aload_n rfl dX2_removeBelow_5) (xcons (s_getI (f := 1) xC2 (by decide) xw_50 rfl dX2_removeBelow_6) (xcons (s_icge dX2_removeBelow_9 rfl) (xcons (s_iload_n rfl dX2_removeBelow_12) (xcons (s_aload_n rfl dX2_removeBelow_13) (xcons (s_getR (f := 0) xC2 (by decide) xw_51 rfl dX2_removeBelow_14) (xcons (s_len dX2_removeBelow_17) (xcons (s_icge dX2_removeBelow_18 rfl) (xcons (s_aload_n rfl dX2_removeBelow_21) (xcons (s_getR (f := 0) xC2 (by decide) xw_51 rfl dX2_removeBelow_22) (xcons (s_iload_n rfl dX2_removeBelow_25) (xcons (s_iald dX2_removeBelow_26) (xcons (s_iload_n rfl dX2_removeBelow_27) (xcons (s_iclt dX2_removeBelow_28 rfl) (xcons (s_aload_n rfl dX2_removeBelow_31) (xnil))))))))))))))))))))
theorem dX2_removeBelow_32 : decode cX2_removeBelow 32 = .ok (.getfield 7, 3) := by decide +kernel
theorem dX2_removeBelow_35 : decode cX2_removeBelow 35 = .ok (.iload_n 2, 1) := by decide +kernel
theorem dX2_removeBelow_36 : decode cX2_removeBelow 36 = .ok (.aload_n 0, 1) := by decide +kernel
theorem dX2_removeBelow_37 : decode cX2_removeBelow 37 = .ok (.getfield 7, 3) := by decide +kernel
theorem dX2_removeBelow_40 : decode cX2_removeBelow 40 = .ok (.iload_n 3, 1) := by decide +kernel
theorem dX2_removeBelow_41 : decode cX2_removeBelow 41 = .ok (.iaload, 1) := by decide +kernel
theorem dX2_removeBelow_42 : decode cX2_removeBelow 42 = .ok (.iastore, 1) := by decide +kernel
theorem dX2_removeBelow_43 : decode cX2_removeBelow 43 = .ok (.iinc 2 1, 3) := by decide +kernel
theorem dX2_removeBelow_46 : decode cX2_removeBelow 46 = .ok (.iinc 3 1, 3) := by decide +kernel
theorem dX2_removeBelow_49 : decode cX2_removeBelow 49 = .ok (.goto (-45), 3) := by decide +kernel
theorem dX2_removeBelow_52 : decode cX2_removeBelow 52 = .ok (.aload_n 0, 1) := by decide +kernel
theorem dX2_removeBelow_53 : decode cX2_removeBelow 53 = .ok (.iload_n 2, 1) := by decide +kernel
theorem dX2_removeBelow_54 : decode cX2_removeBelow 54 = .ok (.putfield 13, 3) := by decide +kernel
theorem dX2_removeBelow_57 : decode cX2_removeBelow 57 = .ok (.return_, 1) := by decide +kernel
def k14_1 : List (Nat × XI) := [(32, x_getR 2 0 35), (35, x_iload 2 36), (36, x_aload 0 37), (37, x_getR 2 0 40), (40, x_iload 3 41), (41, x_iald 42), (42, x_iast 43), (43, x_iinc 2 (1) 46), (46, x_iinc 3 (1) 49), (49, x_goto 4), (52, x_aload 0 53), (53, x_iload 2 54), (54, x_putI 2 1 57), (57, x_ret)]
theorem o14_1 (scr : Nat × (Nat → Int32)) : ∀ q ∈ k14_1, XSnd xm scr Y14 q.1 q.2 := xcons (s_getR (f := 0) xC2 (by decide) xw_51 rfl dX2_removeBelow_32) (xcons (s_iload_n rfl dX2_removeBelow_35) (xcons (s_aload_n rfl dX2_removeBelow_36) (xcons (s_getR (f := 0) xC2 (by decide) xw_51 rfl dX2_removeBelow_37) (xcons (s_iload_n rfl dX2_removeBelow_40) (xcons (s_iald dX2_removeBelow_41) (xcons (s_iast dX2_removeBelow_42) (xcons (s_iinc dX2_removeBelow_43 rfl (by decide)) (xcons (s_iinc dX2_removeBelow_46 rfl (by decide)) (xcons (s_goto dX2_removeBelow_49 rfl) (xcons (s_aload_n rfl dX2_removeBelow_52) (xcons (s_iload_n rfl dX2_removeBelow_53) (xcons (s_putI (f := 1) xC2 (by decide) xw_50 rfl (Or.inl rfl) dX2_removeBelow_54) (xcons (s_ret dX2_removeBelow_57 rfl) (xnil))))))))))))))
def k14 (pc : Nat) : XI := if pc < 32 then xlk k14_0 pc else xlk k14_1 pc
theorem o14 (scr : Nat × (Nat → Int32)) (pc : Nat) : XSnd xm scr Y14 pc (k14 pc) := by
  unfold k14
  exact xite (xlk_ok (o14_0 scr) pc) (xlk_ok (o14_1 scr) pc)
theorem dX3_add_0 : decode cX3_add 0 = .ok (.aload_n 0, 1) := by decide +kernel
theorem dX3_add_1 : decode cX3_add 1 = .ok (.getfield 18, 3) := by decide +kernel
theorem dX3_add_4 : decode cX3_add 4 = .ok (.ifCond .lt 27, 3) := by decide +kernel
theorem dX3_add_7 : decode cX3_add 7 = .ok (.aload_n 0, 1) := by decide +kernel
theorem dX3_add_8 : decode cX3_add 8 = .ok (.getfield 18, 3) := by decide +kernel
theorem dX3_add_11 : decode cX3_add 11 = .ok (.aload_n 0, 1) := by decide +kernel
theorem dX3_add_12 : decode cX3_add 12 = .ok (.getfield 9, 3) := by decide +kernel
theorem dX3_add_15 : decode cX3_add 15 = .ok (.arraylength, 1) := by decide +kernel
theorem dX3_add_16 : decode cX3_add 16 = .ok (.if_icmp .ge 15, 3) := by decide +kernel
theorem dX3_add_19 : decode cX3_add 19 = .ok (.aload_n 0, 1) := by decide +kernel
theorem dX3_add_20 : decode cX3_add 20 = .ok (.getfield 18, 3) := by decide +kernel
theorem dX3_add_23 : decode cX3_add 23 = .ok (.aload_n 0, 1) := by decide +kernel
theorem dX3_add_24 : decode cX3_add 24 = .ok (.getfield 15, 3) := by decide +kernel
theorem dX3_add_27 : decode cX3_add 27 = .ok (.arraylength, 1) := by decide +kernel
theorem dX3_add_28 : decode cX3_add 28 = .ok (.if_icmp .lt 5, 3) := by decide +kernel
theorem dX3_add_31 : decode cX3_add 31 = .ok (.iconst 0, 1) := by decide +kernel
theorem dX3_add_32 : decode cX3_add 32 = .ok (.ireturn, 1) := by decide +kernel
theorem dX3_add_33 : decode cX3_add 33 = .ok (.aload_n 0, 1) := by decide +kernel
theorem dX3_add_34 : decode cX3_add 34 = .ok (.getfield 9, 3) := by decide +kernel
theorem dX3_add_37 : decode cX3_add 37 = .ok (.aload_n 0, 1) := by decide +kernel
def k15_0 : List (Nat × XI) := [(0, x_aload 0 1), (1, x_getI 3 2 4), (4, x_iflt 31 7), (7, x_aload 0 8), (8, x_getI 3 2 11), (11, x_aload 0 12), (12, x_getR 3 0 15), (15, x_len 16), (16, x_icge 31 19), (19, x_aload 0 20), (20, x_getI 3 2 23), (23, x_aload 0 24), (24, x_getR 3 1 27), (27, x_len 28), (28, x_iclt 33 31), (31, x_push (0) 32), (32, x_zret), (33, x_aload 0 34), (34, x_getR 3 0 37), (37, x_aload 0 38)]
theorem o15_0 (scr : Nat × (Nat → Int32)) : ∀ q ∈ k15_0, XSnd xm scr Y15 q.1 q.2 := xcons (s_aload_n rfl dX3_add_0) (xcons (s_getI (f := 2) xC3 (by decide) xw_65 rfl dX3_add_1) (xcons (s_iflt dX3_add_4 rfl) (xcons (s_aload_n rfl dX3_add_7) (xcons (s_getI (f := 2) xC3 (by decide) xw_65 rfl dX3_add_8) (xcons (s_aload_n rfl dX3_add_11) (xcons (s_getR (f := 0) xC3 (by decide) xw_66 rfl dX3_add_12) (xcons (s_len dX3_add_15) (xcons (s_icge dX3_add_16 rfl) (xcons (s_aload_n rfl dX3_add_19) (xcons (s_getI (f := 2) xC3 (by decide) xw_65 rfl dX3_add_20) (xcons (s_aload_n rfl dX3_add_23) (xcons (s_getR (f := 1) xC3 (by decide) xw_67 rfl dX3_add_24) (xcons (s_len dX3_add_27) (xcons (s_iclt dX3_add_28 rfl) (xcons (s_iconst dX3_add_31 rfl) (xcons (s_zret dX3_add_32 rfl) (xcons (s_aload_n rfl dX3_add_33) (xcons (s_getR (f := 0) xC3 (by decide) xw_66 rfl dX3_add_34) (xcons (s_aload_n rfl dX3_add_37) (xnil))))))))))))))))))))
theorem dX3_add_38 : decode cX3_add 38 = .ok (.getfield 18, 3) := by decide +kernel
theorem dX3_add_41 : decode cX3_add 41 = .ok (.iload_n 1, 1) := by decide +kernel
theorem dX3_add_42 : decode cX3_add 42 = .ok (.iastore, 1) := by decide +kernel
theorem dX3_add_43 : decode cX3_add 43 = .ok (.aload_n 0, 1) := by decide +kernel
theorem dX3_add_44 : decode cX3_add 44 = .ok (.getfield 15, 3) := by decide +kernel
theorem dX3_add_47 : decode cX3_add 47 = .ok (.aload_n 0, 1) := by decide +kernel
theorem dX3_add_48 : decode cX3_add 48 = .ok (.getfield 18, 3) := by decide +kernel
theorem dX3_add_51 : decode cX3_add 51 = .ok (.iload_n 2, 1) := by decide +kernel
theorem dX3_add_52 : decode cX3_add 52 = .ok (.iastore, 1) := by decide +kernel
theorem dX3_add_53 : decode cX3_add 53 = .ok (.aload_n 0, 1) := by decide +kernel
theorem dX3_add_54 : decode cX3_add 54 = .ok (.dup, 1) := by decide +kernel
theorem dX3_add_55 : decode cX3_add 55 = .ok (.getfield 18, 3) := by decide +kernel
theorem dX3_add_58 : decode cX3_add 58 = .ok (.iconst 1, 1) := by decide +kernel
theorem dX3_add_59 : decode cX3_add 59 = .ok (.iadd, 1) := by decide +kernel
theorem dX3_add_60 : decode cX3_add 60 = .ok (.putfield 18, 3) := by decide +kernel
theorem dX3_add_63 : decode cX3_add 63 = .ok (.iconst 1, 1) := by decide +kernel
theorem dX3_add_64 : decode cX3_add 64 = .ok (.ireturn, 1) := by decide +kernel
def k15_1 : List (Nat × XI) := [(38, x_getI 3 2 41), (41, x_iload 1 42), (42, x_iast 43), (43, x_aload 0 44), (44, x_getR 3 1 47), (47, x_aload 0 48), (48, x_getI 3 2 51), (51, x_iload 2 52), (52, x_iast 53), (53, x_aload 0 54), (54, x_dup 55), (55, x_getI 3 2 58), (58, x_push (1) 59), (59, x_iadd 60), (60, x_putI 3 2 63), (63, x_push (1) 64), (64, x_zret)]
theorem o15_1 (scr : Nat × (Nat → Int32)) : ∀ q ∈ k15_1, XSnd xm scr Y15 q.1 q.2 := xcons (s_getI (f := 2) xC3 (by decide) xw_65 rfl dX3_add_38) (xcons (s_iload_n rfl dX3_add_41) (xcons (s_iast dX3_add_42) (xcons (s_aload_n rfl dX3_add_43) (xcons (s_getR (f := 1) xC3 (by decide) xw_67 rfl dX3_add_44) (xcons (s_aload_n rfl dX3_add_47) (xcons (s_getI (f := 2) xC3 (by decide) xw_65 rfl dX3_add_48) (xcons (s_iload_n rfl dX3_add_51) (xcons (s_iast dX3_add_52) (xcons (s_aload_n rfl dX3_add_53) (xcons (s_dup dX3_add_54) (xcons (s_getI (f := 2) xC3 (by decide) xw_65 rfl dX3_add_55) (xcons (s_iconst dX3_add_58 rfl) (xcons (s_iadd dX3_add_59) (xcons (s_putI (f := 2) xC3 (by decide) xw_65 rfl (Or.inl rfl) dX3_add_60) (xcons (s_iconst dX3_add_63 rfl) (xcons (s_zret dX3_add_64 rfl) (xnil)))))))))))))))))
def k15 (pc : Nat) : XI := if pc < 38 then xlk k15_0 pc else xlk k15_1 pc
theorem o15 (scr : Nat × (Nat → Int32)) (pc : Nat) : XSnd xm scr Y15 pc (k15 pc) := by
  unfold k15
  exact xite (xlk_ok (o15_0 scr) pc) (xlk_ok (o15_1 scr) pc)
theorem dX3_addDroppingOldest_0 : decode cX3_addDroppingOldest 0 = .ok (.aload_n 0, 1) := by decide +kernel
theorem dX3_addDroppingOldest_1 : decode cX3_addDroppingOldest 1 = .ok (.getfield 18, 3) := by decide +kernel
theorem dX3_addDroppingOldest_4 : decode cX3_addDroppingOldest 4 = .ok (.aload_n 0, 1) := by decide +kernel
theorem dX3_addDroppingOldest_5 : decode cX3_addDroppingOldest 5 = .ok (.getfield 9, 3) := by decide +kernel
theorem dX3_addDroppingOldest_8 : decode cX3_addDroppingOldest 8 = .ok (.arraylength, 1) := by decide +kernel
theorem dX3_addDroppingOldest_9 : decode cX3_addDroppingOldest 9 = .ok (.if_icmp .ne 7, 3) := by decide +kernel
theorem dX3_addDroppingOldest_12 : decode cX3_addDroppingOldest 12 = .ok (.aload_n 0, 1) := by decide +kernel
theorem dX3_addDroppingOldest_13 : decode cX3_addDroppingOldest 13 = .ok (.invokevirtual 22, 3) := by decide +kernel
theorem dX3_addDroppingOldest_16 : decode cX3_addDroppingOldest 16 = .ok (.aload_n 0, 1) := by decide +kernel
theorem dX3_addDroppingOldest_17 : decode cX3_addDroppingOldest 17 = .ok (.iload_n 1, 1) := by decide +kernel
theorem dX3_addDroppingOldest_18 : decode cX3_addDroppingOldest 18 = .ok (.iload_n 2, 1) := by decide +kernel
theorem dX3_addDroppingOldest_19 : decode cX3_addDroppingOldest 19 = .ok (.invokevirtual 25, 3) := by decide +kernel
theorem dX3_addDroppingOldest_22 : decode cX3_addDroppingOldest 22 = .ok (.pop, 1) := by decide +kernel
theorem dX3_addDroppingOldest_23 : decode cX3_addDroppingOldest 23 = .ok (.return_, 1) := by decide +kernel
def k16_0 : List (Nat × XI) := [(0, x_aload 0 1), (1, x_getI 3 2 4), (4, x_aload 0 5), (5, x_getR 3 0 8), (8, x_len 9), (9, x_icne 16 12), (12, x_aload 0 13), (13, x_inv 21 3 0 16), (16, x_aload 0 17), (17, x_iload 1 18), (18, x_iload 2 19), (19, x_inv 15 3 2 22), (22, x_pop 23), (23, x_ret)]
theorem o16_0 (scr : Nat × (Nat → Int32)) : ∀ q ∈ k16_0, XSnd xm scr Y16 q.1 q.2 := xcons (s_aload_n rfl dX3_addDroppingOldest_0) (xcons (s_getI (f := 2) xC3 (by decide) xw_65 rfl dX3_addDroppingOldest_1) (xcons (s_aload_n rfl dX3_addDroppingOldest_4) (xcons (s_getR (f := 0) xC3 (by decide) xw_66 rfl dX3_addDroppingOldest_5) (xcons (s_len dX3_addDroppingOldest_8) (xcons (s_icne dX3_addDroppingOldest_9 rfl) (xcons (s_aload_n rfl dX3_addDroppingOldest_12) (xcons (s_inv (mid := 21) xC3 cal_21 xw_69 xw_70 xw_71 dX3_addDroppingOldest_13) (xcons (s_aload_n rfl dX3_addDroppingOldest_16) (xcons (s_iload_n rfl dX3_addDroppingOldest_17) (xcons (s_iload_n rfl dX3_addDroppingOldest_18) (xcons (s_inv (mid := 15) xC3 cal_15 xw_73 xw_74 xw_75 dX3_addDroppingOldest_19) (xcons (s_pop dX3_addDroppingOldest_22) (xcons (s_ret dX3_addDroppingOldest_23 rfl) (xnil))))))))))))))
def k16 (pc : Nat) : XI := xlk k16_0 pc
theorem o16 (scr : Nat × (Nat → Int32)) (pc : Nat) : XSnd xm scr Y16 pc (k16 pc) := by
  unfold k16
  exact xlk_ok (o16_0 scr) pc
theorem dX3_copyFrom_0 : decode cX3_copyFrom 0 = .ok (.aload_n 0, 1) := by decide +kernel
theorem dX3_copyFrom_1 : decode cX3_copyFrom 1 = .ok (.iconst 0, 1) := by decide +kernel
theorem dX3_copyFrom_2 : decode cX3_copyFrom 2 = .ok (.aload_n 1, 1) := by decide +kernel
theorem dX3_copyFrom_3 : decode cX3_copyFrom 3 = .ok (.getfield 18, 3) := by decide +kernel
theorem dX3_copyFrom_6 : decode cX3_copyFrom 6 = .ok (.aload_n 0, 1) := by decide +kernel
theorem dX3_copyFrom_7 : decode cX3_copyFrom 7 = .ok (.getfield 9, 3) := by decide +kernel
theorem dX3_copyFrom_10 : decode cX3_copyFrom 10 = .ok (.arraylength, 1) := by decide +kernel
theorem dX3_copyFrom_11 : decode cX3_copyFrom 11 = .ok (.aload_n 1, 1) := by decide +kernel
theorem dX3_copyFrom_12 : decode cX3_copyFrom 12 = .ok (.getfield 9, 3) := by decide +kernel
theorem dX3_copyFrom_15 : decode cX3_copyFrom 15 = .ok (.arraylength, 1) := by decide +kernel
theorem dX3_copyFrom_16 : decode cX3_copyFrom 16 = .ok (.invokestatic 35, 3) := by decide +kernel
theorem dX3_copyFrom_19 : decode cX3_copyFrom 19 = .ok (.invokestatic 35, 3) := by decide +kernel
theorem dX3_copyFrom_22 : decode cX3_copyFrom 22 = .ok (.invokestatic 41, 3) := by decide +kernel
theorem dX3_copyFrom_25 : decode cX3_copyFrom 25 = .ok (.putfield 18, 3) := by decide +kernel
theorem dX3_copyFrom_28 : decode cX3_copyFrom 28 = .ok (.aload_n 1, 1) := by decide +kernel
theorem dX3_copyFrom_29 : decode cX3_copyFrom 29 = .ok (.getfield 9, 3) := by decide +kernel
theorem dX3_copyFrom_32 : decode cX3_copyFrom 32 = .ok (.iconst 0, 1) := by decide +kernel
theorem dX3_copyFrom_33 : decode cX3_copyFrom 33 = .ok (.aload_n 0, 1) := by decide +kernel
theorem dX3_copyFrom_34 : decode cX3_copyFrom 34 = .ok (.getfield 9, 3) := by decide +kernel
theorem dX3_copyFrom_37 : decode cX3_copyFrom 37 = .ok (.iconst 0, 1) := by decide +kernel
def k17_0 : List (Nat × XI) := [(0, x_aload 0 1), (1, x_push (0) 2), (2, x_aload 1 3), (3, x_getI 3 2 6), (6, x_aload 0 7), (7, x_getR 3 0 10), (10, x_len 11), (11, x_aload 1 12), (12, x_getR 3 0 15), (15, x_len 16), (16, x_mmin 19), (19, x_mmin 22), (22, x_mmax 25), (25, x_putI 3 2 28), (28, x_aload 1 29), (29, x_getR 3 0 32), (32, x_push (0) 33), (33, x_aload 0 34), (34, x_getR 3 0 37), (37, x_push (0) 38)]
theorem o17_0 (scr : Nat × (Nat → Int32)) : ∀ q ∈ k17_0, XSnd xm scr Y17 q.1 q.2 := xcons (s_aload_n rfl dX3_copyFrom_0) (xcons (s_iconst dX3_copyFrom_1 rfl) (xcons (s_aload_n rfl dX3_copyFrom_2) (xcons (s_getI (f := 2) xC3 (by decide) xw_65 rfl dX3_copyFrom_3) (xcons (s_aload_n rfl dX3_copyFrom_6) (xcons (s_getR (f := 0) xC3 (by decide) xw_66 rfl dX3_copyFrom_7) (xcons (s_len dX3_copyFrom_10) (xcons (s_aload_n rfl dX3_copyFrom_11) (xcons (s_getR (f := 0) xC3 (by decide) xw_66 rfl dX3_copyFrom_12) (xcons (s_len dX3_copyFrom_15) (xcons (s_mmin xw_76 xw_53 xw_54 xw_55 dX3_copyFrom_16) (xcons (s_mmin xw_76 xw_53 xw_54 xw_55 dX3_copyFrom_19) (xcons (s_mmax xw_77 xw_57 xw_54 xw_58 dX3_copyFrom_22) (xcons (s_putI (f := 2) xC3 (by decide) xw_65 rfl (Or.inl rfl) dX3_copyFrom_25) (xcons (s_aload_n rfl dX3_copyFrom_28) (xcons (s_getR (f := 0) xC3 (by decide) xw_66 rfl dX3_copyFrom_29) (xcons (s_iconst dX3_copyFrom_32 rfl) (xcons (s_aload_n rfl dX3_copyFrom_33) (xcons (s_getR (f := 0) xC3 (by decide) xw_66 rfl dX3_copyFrom_34) (xcons (s_iconst dX3_copyFrom_37 rfl) (xnil))))))))))))))))))))
theorem dX3_copyFrom_38 : decode cX3_copyFrom 38 = .ok (.aload_n 0, 1) := by decide +kernel
theorem dX3_copyFrom_39 : decode cX3_copyFrom 39 = .ok (.getfield 18, 3) := by decide +kernel
theorem dX3_copyFrom_42 : decode cX3_copyFrom 42 = .ok (.invokestatic 29, 3) := by decide +kernel
theorem dX3_copyFrom_45 : decode cX3_copyFrom 45 = .ok (.aload_n 1, 1) := by decide +kernel
theorem dX3_copyFrom_46 : decode cX3_copyFrom 46 = .ok (.getfield 15, 3) := by decide +kernel
theorem dX3_copyFrom_49 : decode cX3_copyFrom 49 = .ok (.iconst 0, 1) := by decide +kernel
theorem dX3_copyFrom_50 : decode cX3_copyFrom 50 = .ok (.aload_n 0, 1) := by decide +kernel
theorem dX3_copyFrom_51 : decode cX3_copyFrom 51 = .ok (.getfield 15, 3) := by decide +kernel
theorem dX3_copyFrom_54 : decode cX3_copyFrom 54 = .ok (.iconst 0, 1) := by decide +kernel
theorem dX3_copyFrom_55 : decode cX3_copyFrom 55 = .ok (.aload_n 0, 1) := by decide +kernel
theorem dX3_copyFrom_56 : decode cX3_copyFrom 56 = .ok (.getfield 18, 3) := by decide +kernel
theorem dX3_copyFrom_59 : decode cX3_copyFrom 59 = .ok (.invokestatic 29, 3) := by decide +kernel
theorem dX3_copyFrom_62 : decode cX3_copyFrom 62 = .ok (.return_, 1) := by decide +kernel
def k17_1 : List (Nat × XI) := [(38, x_aload 0 39), (39, x_getI 3 2 42), (42, x_copy 45), (45, x_aload 1 46), (46, x_getR 3 1 49), (49, x_push (0) 50), (50, x_aload 0 51), (51, x_getR 3 1 54), (54, x_push (0) 55), (55, x_aload 0 56), (56, x_getI 3 2 59), (59, x_copy 62), (62, x_ret)]
theorem o17_1 (scr : Nat × (Nat → Int32)) : ∀ q ∈ k17_1, XSnd xm scr Y17 q.1 q.2 := xcons (s_aload_n rfl dX3_copyFrom_38) (xcons (s_getI (f := 2) xC3 (by decide) xw_65 rfl dX3_copyFrom_39) (xcons (s_copy xw_78 xw_60 xw_61 xw_62 dX3_copyFrom_42) (xcons (s_aload_n rfl dX3_copyFrom_45) (xcons (s_getR (f := 1) xC3 (by decide) xw_67 rfl dX3_copyFrom_46) (xcons (s_iconst dX3_copyFrom_49 rfl) (xcons (s_aload_n rfl dX3_copyFrom_50) (xcons (s_getR (f := 1) xC3 (by decide) xw_67 rfl dX3_copyFrom_51) (xcons (s_iconst dX3_copyFrom_54 rfl) (xcons (s_aload_n rfl dX3_copyFrom_55) (xcons (s_getI (f := 2) xC3 (by decide) xw_65 rfl dX3_copyFrom_56) (xcons (s_copy xw_78 xw_60 xw_61 xw_62 dX3_copyFrom_59) (xcons (s_ret dX3_copyFrom_62 rfl) (xnil)))))))))))))
def k17 (pc : Nat) : XI := if pc < 38 then xlk k17_0 pc else xlk k17_1 pc
theorem o17 (scr : Nat × (Nat → Int32)) (pc : Nat) : XSnd xm scr Y17 pc (k17 pc) := by
  unfold k17
  exact xite (xlk_ok (o17_0 scr) pc) (xlk_ok (o17_1 scr) pc)
theorem dX3_firstAt_0 : decode cX3_firstAt 0 = .ok (.iload_n 1, 1) := by decide +kernel
theorem dX3_firstAt_1 : decode cX3_firstAt 1 = .ok (.ifCond .lt 21, 3) := by decide +kernel
theorem dX3_firstAt_4 : decode cX3_firstAt 4 = .ok (.iload_n 1, 1) := by decide +kernel
theorem dX3_firstAt_5 : decode cX3_firstAt 5 = .ok (.aload_n 0, 1) := by decide +kernel
theorem dX3_firstAt_6 : decode cX3_firstAt 6 = .ok (.getfield 9, 3) := by decide +kernel
theorem dX3_firstAt_9 : decode cX3_firstAt 9 = .ok (.arraylength, 1) := by decide +kernel
theorem dX3_firstAt_10 : decode cX3_firstAt 10 = .ok (.if_icmp .ge 12, 3) := by decide +kernel
theorem dX3_firstAt_13 : decode cX3_firstAt 13 = .ok (.aload_n 0, 1) := by decide +kernel
theorem dX3_firstAt_14 : decode cX3_firstAt 14 = .ok (.getfield 9, 3) := by decide +kernel
theorem dX3_firstAt_17 : decode cX3_firstAt 17 = .ok (.iload_n 1, 1) := by decide +kernel
theorem dX3_firstAt_18 : decode cX3_firstAt 18 = .ok (.iaload, 1) := by decide +kernel
theorem dX3_firstAt_19 : decode cX3_firstAt 19 = .ok (.goto 4, 3) := by decide +kernel
theorem dX3_firstAt_22 : decode cX3_firstAt 22 = .ok (.iconst (-1), 1) := by decide +kernel
theorem dX3_firstAt_23 : decode cX3_firstAt 23 = .ok (.ireturn, 1) := by decide +kernel
def k18_0 : List (Nat × XI) := [(0, x_iload 1 1), (1, x_iflt 22 4), (4, x_iload 1 5), (5, x_aload 0 6), (6, x_getR 3 0 9), (9, x_len 10), (10, x_icge 22 13), (13, x_aload 0 14), (14, x_getR 3 0 17), (17, x_iload 1 18), (18, x_iald 19), (19, x_goto 23), (22, x_push (-1) 23), (23, x_iret)]
theorem o18_0 (scr : Nat × (Nat → Int32)) : ∀ q ∈ k18_0, XSnd xm scr Y18 q.1 q.2 := xcons (s_iload_n rfl dX3_firstAt_0) (xcons (s_iflt dX3_firstAt_1 rfl) (xcons (s_iload_n rfl dX3_firstAt_4) (xcons (s_aload_n rfl dX3_firstAt_5) (xcons (s_getR (f := 0) xC3 (by decide) xw_66 rfl dX3_firstAt_6) (xcons (s_len dX3_firstAt_9) (xcons (s_icge dX3_firstAt_10 rfl) (xcons (s_aload_n rfl dX3_firstAt_13) (xcons (s_getR (f := 0) xC3 (by decide) xw_66 rfl dX3_firstAt_14) (xcons (s_iload_n rfl dX3_firstAt_17) (xcons (s_iald dX3_firstAt_18) (xcons (s_goto dX3_firstAt_19 rfl) (xcons (s_iconst dX3_firstAt_22 rfl) (xcons (s_iret dX3_firstAt_23 rfl) (xnil))))))))))))))
def k18 (pc : Nat) : XI := xlk k18_0 pc
theorem o18 (scr : Nat × (Nat → Int32)) (pc : Nat) : XSnd xm scr Y18 pc (k18 pc) := by
  unfold k18
  exact xlk_ok (o18_0 scr) pc
theorem dX3_init_0 : decode cX3_init 0 = .ok (.aload_n 0, 1) := by decide +kernel
theorem dX3_init_1 : decode cX3_init 1 = .ok (.invokespecial 3, 3) := by decide +kernel
theorem dX3_init_4 : decode cX3_init 4 = .ok (.aload_n 0, 1) := by decide +kernel
theorem dX3_init_5 : decode cX3_init 5 = .ok (.iload_n 1, 1) := by decide +kernel
theorem dX3_init_6 : decode cX3_init 6 = .ok (.ifCond .ge 7, 3) := by decide +kernel
theorem dX3_init_9 : decode cX3_init 9 = .ok (.iconst 0, 1) := by decide +kernel
theorem dX3_init_10 : decode cX3_init 10 = .ok (.goto 4, 3) := by decide +kernel
theorem dX3_init_13 : decode cX3_init 13 = .ok (.iload_n 1, 1) := by decide +kernel
theorem dX3_init_14 : decode cX3_init 14 = .ok (.newarray .int, 2) := by decide +kernel
theorem dX3_init_16 : decode cX3_init 16 = .ok (.putfield 9, 3) := by decide +kernel
theorem dX3_init_19 : decode cX3_init 19 = .ok (.aload_n 0, 1) := by decide +kernel
theorem dX3_init_20 : decode cX3_init 20 = .ok (.iload_n 1, 1) := by decide +kernel
theorem dX3_init_21 : decode cX3_init 21 = .ok (.ifCond .ge 7, 3) := by decide +kernel
theorem dX3_init_24 : decode cX3_init 24 = .ok (.iconst 0, 1) := by decide +kernel
theorem dX3_init_25 : decode cX3_init 25 = .ok (.goto 4, 3) := by decide +kernel
theorem dX3_init_28 : decode cX3_init 28 = .ok (.iload_n 1, 1) := by decide +kernel
theorem dX3_init_29 : decode cX3_init 29 = .ok (.newarray .int, 2) := by decide +kernel
theorem dX3_init_31 : decode cX3_init 31 = .ok (.putfield 15, 3) := by decide +kernel
theorem dX3_init_34 : decode cX3_init 34 = .ok (.return_, 1) := by decide +kernel
def k19_0 : List (Nat × XI) := [(0, x_aload 0 1), (1, x_obj 4), (4, x_aload 0 5), (5, x_iload 1 6), (6, x_ifge 13 9), (9, x_push (0) 10), (10, x_goto 14), (13, x_iload 1 14), (14, x_newI 16), (16, x_putR 3 0 19), (19, x_aload 0 20), (20, x_iload 1 21), (21, x_ifge 28 24), (24, x_push (0) 25), (25, x_goto 29), (28, x_iload 1 29), (29, x_newI 31), (31, x_putR 3 1 34), (34, x_ret)]
theorem o19_0 (scr : Nat × (Nat → Int32)) : ∀ q ∈ k19_0, XSnd xm scr Y19 q.1 q.2 := xcons (s_aload_n rfl dX3_init_0) (xcons (s_obj xw_79 xw_30 xw_31 dX3_init_1) (xcons (s_aload_n rfl dX3_init_4) (xcons (s_iload_n rfl dX3_init_5) (xcons (s_ifge dX3_init_6 rfl) (xcons (s_iconst dX3_init_9 rfl) (xcons (s_goto dX3_init_10 rfl) (xcons (s_iload_n rfl dX3_init_13) (xcons (s_newI xw_64 dX3_init_14) (xcons (s_putR (f := 0) xC3 (by decide) xw_66 rfl (Or.inr ⟨rfl, rfl, rfl⟩) dX3_init_16) (xcons (s_aload_n rfl dX3_init_19) (xcons (s_iload_n rfl dX3_init_20) (xcons (s_ifge dX3_init_21 rfl) (xcons (s_iconst dX3_init_24 rfl) (xcons (s_goto dX3_init_25 rfl) (xcons (s_iload_n rfl dX3_init_28) (xcons (s_newI xw_64 dX3_init_29) (xcons (s_putR (f := 1) xC3 (by decide) xw_67 rfl (Or.inr ⟨rfl, rfl, rfl⟩) dX3_init_31) (xcons (s_ret dX3_init_34 rfl) (xnil)))))))))))))))))))
def k19 (pc : Nat) : XI := xlk k19_0 pc
theorem o19 (scr : Nat × (Nat → Int32)) (pc : Nat) : XSnd xm scr Y19 pc (k19 pc) := by
  unfold k19
  exact xlk_ok (o19_0 scr) pc
theorem dX3_putAhead_0 : decode cX3_putAhead 0 = .ok (.aload_n 1, 1) := by decide +kernel
theorem dX3_putAhead_1 : decode cX3_putAhead 1 = .ok (.getfield 18, 3) := by decide +kernel
theorem dX3_putAhead_4 : decode cX3_putAhead 4 = .ok (.aload_n 0, 1) := by decide +kernel
theorem dX3_putAhead_5 : decode cX3_putAhead 5 = .ok (.getfield 9, 3) := by decide +kernel
theorem dX3_putAhead_8 : decode cX3_putAhead 8 = .ok (.arraylength, 1) := by decide +kernel
theorem dX3_putAhead_9 : decode cX3_putAhead 9 = .ok (.aload_n 0, 1) := by decide +kernel
theorem dX3_putAhead_10 : decode cX3_putAhead 10 = .ok (.getfield 18, 3) := by decide +kernel
theorem dX3_putAhead_13 : decode cX3_putAhead 13 = .ok (.isub, 1) := by decide +kernel
theorem dX3_putAhead_14 : decode cX3_putAhead 14 = .ok (.invokestatic 35, 3) := by decide +kernel
theorem dX3_putAhead_17 : decode cX3_putAhead 17 = .ok (.istore_n 2, 1) := by decide +kernel
theorem dX3_putAhead_18 : decode cX3_putAhead 18 = .ok (.iload_n 2, 1) := by decide +kernel
theorem dX3_putAhead_19 : decode cX3_putAhead 19 = .ok (.ifCond .gt 5, 3) := by decide +kernel
theorem dX3_putAhead_22 : decode cX3_putAhead 22 = .ok (.iconst 0, 1) := by decide +kernel
theorem dX3_putAhead_23 : decode cX3_putAhead 23 = .ok (.ireturn, 1) := by decide +kernel
theorem dX3_putAhead_24 : decode cX3_putAhead 24 = .ok (.aload_n 0, 1) := by decide +kernel
theorem dX3_putAhead_25 : decode cX3_putAhead 25 = .ok (.getfield 9, 3) := by decide +kernel
theorem dX3_putAhead_28 : decode cX3_putAhead 28 = .ok (.iconst 0, 1) := by decide +kernel
theorem dX3_putAhead_29 : decode cX3_putAhead 29 = .ok (.aload_n 0, 1) := by decide +kernel
theorem dX3_putAhead_30 : decode cX3_putAhead 30 = .ok (.getfield 9, 3) := by decide +kernel
theorem dX3_putAhead_33 : decode cX3_putAhead 33 = .ok (.iload_n 2, 1) := by decide +kernel
def k20_0 : List (Nat × XI) := [(0, x_aload 1 1), (1, x_getI 3 2 4), (4, x_aload 0 5), (5, x_getR 3 0 8), (8, x_len 9), (9, x_aload 0 10), (10, x_getI 3 2 13), (13, x_isub 14), (14, x_mmin 17), (17, x_istore 2 18), (18, x_iload 2 19), (19, x_ifgt 24 22), (22, x_push (0) 23), (23, x_iret), (24, x_aload 0 25), (25, x_getR 3 0 28), (28, x_push (0) 29), (29, x_aload 0 30), (30, x_getR 3 0 33), (33, x_iload 2 34)]
theorem o20_0 (scr : Nat × (Nat → Int32)) : ∀ q ∈ k20_0, XSnd xm scr Y20 q.1 q.2 := xcons (s_aload_n rfl dX3_putAhead_0) (xcons (s_getI (f := 2) xC3 (by decide) xw_65 rfl dX3_putAhead_1) (xcons (s_aload_n rfl dX3_putAhead_4) (xcons (s_getR (f := 0) xC3 (by decide) xw_66 rfl dX3_putAhead_5) (xcons (s_len dX3_putAhead_8) (xcons (s_aload_n rfl dX3_putAhead_9) (xcons (s_getI (f := 2) xC3 (by decide) xw_65 rfl dX3_putAhead_10) (xcons (s_isub dX3_putAhead_13) (xcons (s_mmin xw_76 xw_53 xw_54 xw_55 dX3_putAhead_14) (xcons (s_istore_n rfl dX3_putAhead_17 (by decide)) (xcons (s_iload_n rfl dX3_putAhead_18) (xcons (s_ifgt dX3_putAhead_19 rfl) (xcons (s_iconst dX3_putAhead_22 rfl) (xcons (s_iret dX3_putAhead_23 rfl) (xcons (s_aload_n rfl dX3_putAhead_24) (xcons (s_getR (f := 0) xC3 (by decide) xw_66 rfl dX3_putAhead_25) (xcons (s_iconst dX3_putAhead_28 rfl) (xcons (s_aload_n rfl dX3_putAhead_29) (xcons (s_getR (f := 0) xC3 (by decide) xw_66 rfl dX3_putAhead_30) (xcons (s_iload_n rfl dX3_putAhead_33) (xnil))))))))))))))))))))
theorem dX3_putAhead_34 : decode cX3_putAhead 34 = .ok (.aload_n 0, 1) := by decide +kernel
theorem dX3_putAhead_35 : decode cX3_putAhead 35 = .ok (.getfield 18, 3) := by decide +kernel
theorem dX3_putAhead_38 : decode cX3_putAhead 38 = .ok (.invokestatic 29, 3) := by decide +kernel
theorem dX3_putAhead_41 : decode cX3_putAhead 41 = .ok (.aload_n 0, 1) := by decide +kernel
theorem dX3_putAhead_42 : decode cX3_putAhead 42 = .ok (.getfield 15, 3) := by decide +kernel
theorem dX3_putAhead_45 : decode cX3_putAhead 45 = .ok (.iconst 0, 1) := by decide +kernel
theorem dX3_putAhead_46 : decode cX3_putAhead 46 = .ok (.aload_n 0, 1) := by decide +kernel
theorem dX3_putAhead_47 : decode cX3_putAhead 47 = .ok (.getfield 15, 3) := by decide +kernel
theorem dX3_putAhead_50 : decode cX3_putAhead 50 = .ok (.iload_n 2, 1) := by decide +kernel
theorem dX3_putAhead_51 : decode cX3_putAhead 51 = .ok (.aload_n 0, 1) := by decide +kernel
theorem dX3_putAhead_52 : decode cX3_putAhead 52 = .ok (.getfield 18, 3) := by decide +kernel
theorem dX3_putAhead_55 : decode cX3_putAhead 55 = .ok (.invokestatic 29, 3) := by decide +kernel
theorem dX3_putAhead_58 : decode cX3_putAhead 58 = .ok (.aload_n 1, 1) := by decide +kernel
theorem dX3_putAhead_59 : decode cX3_putAhead 59 = .ok (.getfield 9, 3) := by decide +kernel
theorem dX3_putAhead_62 : decode cX3_putAhead 62 = .ok (.iconst 0, 1) := by decide +kernel
theorem dX3_putAhead_63 : decode cX3_putAhead 63 = .ok (.aload_n 0, 1) := by decide +kernel
theorem dX3_putAhead_64 : decode cX3_putAhead 64 = .ok (.getfield 9, 3) := by decide +kernel
theorem dX3_putAhead_67 : decode cX3_putAhead 67 = .ok (.iconst 0, 1) := by decide +kernel
theorem dX3_putAhead_68 : decode cX3_putAhead 68 = .ok (.iload_n 2, 1) := by decide +kernel
theorem dX3_putAhead_69 : decode cX3_putAhead 69 = .ok (.invokestatic 29, 3) := by decide +kernel
def k20_1 : List (Nat × XI) := [(34, x_aload 0 35), (35, x_getI 3 2 38), (38, x_copy 41), (41, x_aload 0 42), (42, x_getR 3 1 45), (45, x_push (0) 46), (46, x_aload 0 47), (47, x_getR 3 1 50), (50, x_iload 2 51), (51, x_aload 0 52), (52, x_getI 3 2 55), (55, x_copy 58), (58, x_aload 1 59), (59, x_getR 3 0 62), (62, x_push (0) 63), (63, x_aload 0 64), (64, x_getR 3 0 67), (67, x_push (0) 68), (68, x_iload 2 69), (69, x_copy 72)]
theorem o20_1 (scr : Nat × (Nat → Int32)) : ∀ q ∈ k20_1, XSnd xm scr Y20 q.1 q.2 := xcons (s_aload_n rfl dX3_putAhead_34) (xcons (s_getI (f := 2) xC3 (by decide) xw_65 rfl dX3_putAhead_35) (xcons (s_copy xw_78 xw_60 xw_61 xw_62 dX3_putAhead_38) (xcons (s_aload_n rfl dX3_putAhead_41) (xcons (s_getR (f := 1) xC3 (by decide) xw_67 rfl dX3_putAhead_42) (xcons (s_iconst dX3_putAhead_45 rfl) (xcons (s_aload_n rfl dX3_putAhead_46) (xcons (s_getR (f := 1) xC3 (by decide) xw_67 rfl dX3_putAhead_47) (xcons (s_iload_n rfl dX3_putAhead_50) (xcons (s_aload_n rfl dX3_putAhead_51) (xcons (s_getI (f := 2) xC3 (by decide) xw_65 rfl dX3_putAhead_52) (xcons (s_copy xw_78 xw_60 xw_61 xw_62 dX3_putAhead_55) (xcons (s_aload_n rfl dX3_putAhead_58) (xcons (s_getR (f := 0) xC3 (by decide) xw_66 rfl dX3_putAhead_59) (xcons (s_iconst dX3_putAhead_62 rfl) (xcons (s_aload_n rfl dX3_putAhead_63) (xcons (s_getR (f := 0) xC3 (by decide) xw_66 rfl dX3_putAhead_64) (xcons (s_iconst dX3_putAhead_67 rfl) (xcons (s_iload_n rfl dX3_putAhead_68) (xcons (s_copy xw_78 xw_60 xw_61 xw_62 dX3_putAhead_69) (xnil))))))))))))))))))))
theorem dX3_putAhead_72 : decode cX3_putAhead 72 = .ok (.aload_n 1, 1) := by decide +kernel
theorem dX3_putAhead_73 : decode cX3_putAhead 73 = .ok (.getfield 15, 3) := by decide +kernel
theorem dX3_putAhead_76 : decode cX3_putAhead 76 = .ok (.iconst 0, 1) := by decide +kernel
theorem dX3_putAhead_77 : decode cX3_putAhead 77 = .ok (.aload_n 0, 1) := by decide +kernel
theorem dX3_putAhead_78 : decode cX3_putAhead 78 = .ok (.getfield 15, 3) := by decide +kernel
theorem dX3_putAhead_81 : decode cX3_putAhead 81 = .ok (.iconst 0, 1) := by decide +kernel
theorem dX3_putAhead_82 : decode cX3_putAhead 82 = .ok (.iload_n 2, 1) := by decide +kernel
theorem dX3_putAhead_83 : decode cX3_putAhead 83 = .ok (.invokestatic 29, 3) := by decide +kernel
theorem dX3_putAhead_86 : decode cX3_putAhead 86 = .ok (.aload_n 0, 1) := by decide +kernel
theorem dX3_putAhead_87 : decode cX3_putAhead 87 = .ok (.dup, 1) := by decide +kernel
theorem dX3_putAhead_88 : decode cX3_putAhead 88 = .ok (.getfield 18, 3) := by decide +kernel
theorem dX3_putAhead_91 : decode cX3_putAhead 91 = .ok (.iload_n 2, 1) := by decide +kernel
theorem dX3_putAhead_92 : decode cX3_putAhead 92 = .ok (.iadd, 1) := by decide +kernel
theorem dX3_putAhead_93 : decode cX3_putAhead 93 = .ok (.putfield 18, 3) := by decide +kernel
theorem dX3_putAhead_96 : decode cX3_putAhead 96 = .ok (.iload_n 2, 1) := by decide +kernel
theorem dX3_putAhead_97 : decode cX3_putAhead 97 = .ok (.ireturn, 1) := by decide +kernel
def k20_2 : List (Nat × XI) := [(72, x_aload 1 73), (73, x_getR 3 1 76), (76, x_push (0) 77), (77, x_aload 0 78), (78, x_getR 3 1 81), (81, x_push (0) 82), (82, x_iload 2 83), (83, x_copy 86), (86, x_aload 0 87), (87, x_dup 88), (88, x_getI 3 2 91), (91, x_iload 2 92), (92, x_iadd 93), (93, x_putI 3 2 96), (96, x_iload 2 97), (97, x_iret)]
theorem o20_2 (scr : Nat × (Nat → Int32)) : ∀ q ∈ k20_2, XSnd xm scr Y20 q.1 q.2 := xcons (s_aload_n rfl dX3_putAhead_72) (xcons (s_getR (f := 1) xC3 (by decide) xw_67 rfl dX3_putAhead_73) (xcons (s_iconst dX3_putAhead_76 rfl) (xcons (s_aload_n rfl dX3_putAhead_77) (xcons (s_getR (f := 1) xC3 (by decide) xw_67 rfl dX3_putAhead_78) (xcons (s_iconst dX3_putAhead_81 rfl) (xcons (s_iload_n rfl dX3_putAhead_82) (xcons (s_copy xw_78 xw_60 xw_61 xw_62 dX3_putAhead_83) (xcons (s_aload_n rfl dX3_putAhead_86) (xcons (s_dup dX3_putAhead_87) (xcons (s_getI (f := 2) xC3 (by decide) xw_65 rfl dX3_putAhead_88) (xcons (s_iload_n rfl dX3_putAhead_91) (xcons (s_iadd dX3_putAhead_92) (xcons (s_putI (f := 2) xC3 (by decide) xw_65 rfl (Or.inl rfl) dX3_putAhead_93) (xcons (s_iload_n rfl dX3_putAhead_96) (xcons (s_iret dX3_putAhead_97 rfl) (xnil))))))))))))))))
def k20 (pc : Nat) : XI := if pc < 34 then xlk k20_0 pc else if pc < 72 then xlk k20_1 pc else xlk k20_2 pc
theorem o20 (scr : Nat × (Nat → Int32)) (pc : Nat) : XSnd xm scr Y20 pc (k20 pc) := by
  unfold k20
  exact xite (xlk_ok (o20_0 scr) pc) (xite (xlk_ok (o20_1 scr) pc) (xlk_ok (o20_2 scr) pc))
theorem dX3_removeFirst_0 : decode cX3_removeFirst 0 = .ok (.aload_n 0, 1) := by decide +kernel
theorem dX3_removeFirst_1 : decode cX3_removeFirst 1 = .ok (.getfield 18, 3) := by decide +kernel
theorem dX3_removeFirst_4 : decode cX3_removeFirst 4 = .ok (.ifCond .le 47, 3) := by decide +kernel
theorem dX3_removeFirst_7 : decode cX3_removeFirst 7 = .ok (.aload_n 0, 1) := by decide +kernel
theorem dX3_removeFirst_8 : decode cX3_removeFirst 8 = .ok (.dup, 1) := by decide +kernel
theorem dX3_removeFirst_9 : decode cX3_removeFirst 9 = .ok (.getfield 18, 3) := by decide +kernel
theorem dX3_removeFirst_12 : decode cX3_removeFirst 12 = .ok (.iconst 1, 1) := by decide +kernel
theorem dX3_removeFirst_13 : decode cX3_removeFirst 13 = .ok (.isub, 1) := by decide +kernel
theorem dX3_removeFirst_14 : decode cX3_removeFirst 14 = .ok (.putfield 18, 3) := by decide +kernel
theorem dX3_removeFirst_17 : decode cX3_removeFirst 17 = .ok (.aload_n 0, 1) := by decide +kernel
theorem dX3_removeFirst_18 : decode cX3_removeFirst 18 = .ok (.getfield 9, 3) := by decide +kernel
theorem dX3_removeFirst_21 : decode cX3_removeFirst 21 = .ok (.iconst 1, 1) := by decide +kernel
theorem dX3_removeFirst_22 : decode cX3_removeFirst 22 = .ok (.aload_n 0, 1) := by decide +kernel
theorem dX3_removeFirst_23 : decode cX3_removeFirst 23 = .ok (.getfield 9, 3) := by decide +kernel
theorem dX3_removeFirst_26 : decode cX3_removeFirst 26 = .ok (.iconst 0, 1) := by decide +kernel
theorem dX3_removeFirst_27 : decode cX3_removeFirst 27 = .ok (.aload_n 0, 1) := by decide +kernel
theorem dX3_removeFirst_28 : decode cX3_removeFirst 28 = .ok (.getfield 18, 3) := by decide +kernel
theorem dX3_removeFirst_31 : decode cX3_removeFirst 31 = .ok (.invokestatic 29, 3) := by decide +kernel
theorem dX3_removeFirst_34 : decode cX3_removeFirst 34 = .ok (.aload_n 0, 1) := by decide +kernel
theorem dX3_removeFirst_35 : decode cX3_removeFirst 35 = .ok (.getfield 15, 3) := by decide +kernel
def k21_0 : List (Nat × XI) := [(0, x_aload 0 1), (1, x_getI 3 2 4), (4, x_ifle 51 7), (7, x_aload 0 8), (8, x_dup 9), (9, x_getI 3 2 12), (12, x_push (1) 13), (13, x_isub 14), (14, x_putI 3 2 17), (17, x_aload 0 18), (18, x_getR 3 0 21), (21, x_push (1) 22), (22, x_aload 0 23), (23, x_getR 3 0 26), (26, x_push (0) 27), (27, x_aload 0 28), (28, x_getI 3 2 31), (31, x_copy 34), (34, x_aload 0 35), (35, x_getR 3 1 38)]
theorem o21_0 (scr : Nat × (Nat → Int32)) : ∀ q ∈ k21_0, XSnd xm scr Y21 q.1 q.2 := xcons (s_aload_n rfl dX3_removeFirst_0) (xcons (s_getI (f := 2) xC3 (by decide) xw_65 rfl dX3_removeFirst_1) (xcons (s_ifle dX3_removeFirst_4 rfl) (xcons (s_aload_n rfl dX3_removeFirst_7) (xcons (s_dup dX3_removeFirst_8) (xcons (s_getI (f := 2) xC3 (by decide) xw_65 rfl dX3_removeFirst_9) (xcons (s_iconst dX3_removeFirst_12 rfl) (xcons (s_isub dX3_removeFirst_13) (xcons (s_putI (f := 2) xC3 (by decide) xw_65 rfl (Or.inl rfl) dX3_removeFirst_14) (xcons (s_aload_n rfl dX3_removeFirst_17) (xcons (s_getR (f := 0) xC3 (by decide) xw_66 rfl dX3_removeFirst_18) (xcons (s_iconst dX3_removeFirst_21 rfl) (xcons (s_aload_n rfl dX3_removeFirst_22) (xcons (s_getR (f := 0) xC3 (by decide) xw_66 rfl dX3_removeFirst_23) (xcons (s_iconst dX3_removeFirst_26 rfl) (xcons (s_aload_n rfl dX3_removeFirst_27) (xcons (s_getI (f := 2) xC3 (by decide) xw_65 rfl dX3_removeFirst_28) (xcons (s_copy xw_78 xw_60 xw_61 xw_62 dX3_removeFirst_31) (xcons (s_aload_n rfl dX3_removeFirst_34) (xcons (s_getR (f := 1) xC3 (by decide) xw_67 rfl dX3_removeFirst_35) (xnil))))))))))))))))))))
theorem dX3_removeFirst_38 : decode cX3_removeFirst 38 = .ok (.iconst 1, 1) := by decide +kernel
theorem dX3_removeFirst_39 : decode cX3_removeFirst 39 = .ok (.aload_n 0, 1) := by decide +kernel
theorem dX3_removeFirst_40 : decode cX3_removeFirst 40 = .ok (.getfield 15, 3) := by decide +kernel
theorem dX3_removeFirst_43 : decode cX3_removeFirst 43 = .ok (.iconst 0, 1) := by decide +kernel
theorem dX3_removeFirst_44 : decode cX3_removeFirst 44 = .ok (.aload_n 0, 1) := by decide +kernel
theorem dX3_removeFirst_45 : decode cX3_removeFirst 45 = .ok (.getfield 18, 3) := by decide +kernel
theorem dX3_removeFirst_48 : decode cX3_removeFirst 48 = .ok (.invokestatic 29, 3) := by decide +kernel
theorem dX3_removeFirst_51 : decode cX3_removeFirst 51 = .ok (.return_, 1) := by decide +kernel
def k21_1 : List (Nat × XI) := [(38, x_push (1) 39), (39, x_aload 0 40), (40, x_getR 3 1 43), (43, x_push (0) 44), (44, x_aload 0 45), (45, x_getI 3 2 48), (48, x_copy 51), (51, x_ret)]
theorem o21_1 (scr : Nat × (Nat → Int32)) : ∀ q ∈ k21_1, XSnd xm scr Y21 q.1 q.2 := xcons (s_iconst dX3_removeFirst_38 rfl) (xcons (s_aload_n rfl dX3_removeFirst_39) (xcons (s_getR (f := 1) xC3 (by decide) xw_67 rfl dX3_removeFirst_40) (xcons (s_iconst dX3_removeFirst_43 rfl) (xcons (s_aload_n rfl dX3_removeFirst_44) (xcons (s_getI (f := 2) xC3 (by decide) xw_65 rfl dX3_removeFirst_45) (xcons (s_copy xw_78 xw_60 xw_61 xw_62 dX3_removeFirst_48) (xcons (s_ret dX3_removeFirst_51 rfl) (xnil))))))))
def k21 (pc : Nat) : XI := if pc < 38 then xlk k21_0 pc else xlk k21_1 pc
theorem o21 (scr : Nat × (Nat → Int32)) (pc : Nat) : XSnd xm scr Y21 pc (k21 pc) := by
  unfold k21
  exact xite (xlk_ok (o21_0 scr) pc) (xlk_ok (o21_1 scr) pc)
theorem dX3_secondAt_0 : decode cX3_secondAt 0 = .ok (.iload_n 1, 1) := by decide +kernel
theorem dX3_secondAt_1 : decode cX3_secondAt 1 = .ok (.ifCond .lt 21, 3) := by decide +kernel
theorem dX3_secondAt_4 : decode cX3_secondAt 4 = .ok (.iload_n 1, 1) := by decide +kernel
theorem dX3_secondAt_5 : decode cX3_secondAt 5 = .ok (.aload_n 0, 1) := by decide +kernel
theorem dX3_secondAt_6 : decode cX3_secondAt 6 = .ok (.getfield 15, 3) := by decide +kernel
theorem dX3_secondAt_9 : decode cX3_secondAt 9 = .ok (.arraylength, 1) := by decide +kernel
theorem dX3_secondAt_10 : decode cX3_secondAt 10 = .ok (.if_icmp .ge 12, 3) := by decide +kernel
theorem dX3_secondAt_13 : decode cX3_secondAt 13 = .ok (.aload_n 0, 1) := by decide +kernel
theorem dX3_secondAt_14 : decode cX3_secondAt 14 = .ok (.getfield 15, 3) := by decide +kernel
theorem dX3_secondAt_17 : decode cX3_secondAt 17 = .ok (.iload_n 1, 1) := by decide +kernel
theorem dX3_secondAt_18 : decode cX3_secondAt 18 = .ok (.iaload, 1) := by decide +kernel
theorem dX3_secondAt_19 : decode cX3_secondAt 19 = .ok (.goto 4, 3) := by decide +kernel
theorem dX3_secondAt_22 : decode cX3_secondAt 22 = .ok (.iconst 0, 1) := by decide +kernel
theorem dX3_secondAt_23 : decode cX3_secondAt 23 = .ok (.ireturn, 1) := by decide +kernel
def k22_0 : List (Nat × XI) := [(0, x_iload 1 1), (1, x_iflt 22 4), (4, x_iload 1 5), (5, x_aload 0 6), (6, x_getR 3 1 9), (9, x_len 10), (10, x_icge 22 13), (13, x_aload 0 14), (14, x_getR 3 1 17), (17, x_iload 1 18), (18, x_iald 19), (19, x_goto 23), (22, x_push (0) 23), (23, x_iret)]
theorem o22_0 (scr : Nat × (Nat → Int32)) : ∀ q ∈ k22_0, XSnd xm scr Y22 q.1 q.2 := xcons (s_iload_n rfl dX3_secondAt_0) (xcons (s_iflt dX3_secondAt_1 rfl) (xcons (s_iload_n rfl dX3_secondAt_4) (xcons (s_aload_n rfl dX3_secondAt_5) (xcons (s_getR (f := 1) xC3 (by decide) xw_67 rfl dX3_secondAt_6) (xcons (s_len dX3_secondAt_9) (xcons (s_icge dX3_secondAt_10 rfl) (xcons (s_aload_n rfl dX3_secondAt_13) (xcons (s_getR (f := 1) xC3 (by decide) xw_67 rfl dX3_secondAt_14) (xcons (s_iload_n rfl dX3_secondAt_17) (xcons (s_iald dX3_secondAt_18) (xcons (s_goto dX3_secondAt_19 rfl) (xcons (s_iconst dX3_secondAt_22 rfl) (xcons (s_iret dX3_secondAt_23 rfl) (xnil))))))))))))))
def k22 (pc : Nat) : XI := xlk k22_0 pc
theorem o22 (scr : Nat × (Nat → Int32)) (pc : Nat) : XSnd xm scr Y22 pc (k22 pc) := by
  unfold k22
  exact xlk_ok (o22_0 scr) pc
theorem dX4_faultOfForm_0 : decode cX4_faultOfForm 0 = .ok (.aload_n 0, 1) := by decide +kernel
theorem dX4_faultOfForm_1 : decode cX4_faultOfForm 1 = .ok (.iconst 0, 1) := by decide +kernel
theorem dX4_faultOfForm_2 : decode cX4_faultOfForm 2 = .ok (.putfield 23, 3) := by decide +kernel
theorem dX4_faultOfForm_5 : decode cX4_faultOfForm 5 = .ok (.iconst 0, 1) := by decide +kernel
theorem dX4_faultOfForm_6 : decode cX4_faultOfForm 6 = .ok (.istore_n 1, 1) := by decide +kernel
theorem dX4_faultOfForm_7 : decode cX4_faultOfForm 7 = .ok (.iload_n 1, 1) := by decide +kernel
theorem dX4_faultOfForm_8 : decode cX4_faultOfForm 8 = .ok (.bipush 120, 2) := by decide +kernel
theorem dX4_faultOfForm_10 : decode cX4_faultOfForm 10 = .ok (.if_icmp .ge 61, 3) := by decide +kernel
theorem dX4_faultOfForm_13 : decode cX4_faultOfForm 13 = .ok (.aload_n 0, 1) := by decide +kernel
theorem dX4_faultOfForm_14 : decode cX4_faultOfForm 14 = .ok (.invokevirtual 30, 3) := by decide +kernel
theorem dX4_faultOfForm_17 : decode cX4_faultOfForm 17 = .ok (.ifCond .ne 8, 3) := by decide +kernel
theorem dX4_faultOfForm_20 : decode cX4_faultOfForm 20 = .ok (.aload_n 0, 1) := by decide +kernel
theorem dX4_faultOfForm_21 : decode cX4_faultOfForm 21 = .ok (.getfield 23, 3) := by decide +kernel
theorem dX4_faultOfForm_24 : decode cX4_faultOfForm 24 = .ok (.ireturn, 1) := by decide +kernel
theorem dX4_faultOfForm_25 : decode cX4_faultOfForm 25 = .ok (.aload_n 0, 1) := by decide +kernel
theorem dX4_faultOfForm_26 : decode cX4_faultOfForm 26 = .ok (.invokevirtual 34, 3) := by decide +kernel
theorem dX4_faultOfForm_29 : decode cX4_faultOfForm 29 = .ok (.ifCond .eq 5, 3) := by decide +kernel
theorem dX4_faultOfForm_32 : decode cX4_faultOfForm 32 = .ok (.iconst (-1), 1) := by decide +kernel
theorem dX4_faultOfForm_33 : decode cX4_faultOfForm 33 = .ok (.ireturn, 1) := by decide +kernel
theorem dX4_faultOfForm_34 : decode cX4_faultOfForm 34 = .ok (.aload_n 0, 1) := by decide +kernel
def k23_0 : List (Nat × XI) := [(0, x_aload 0 1), (1, x_push (0) 2), (2, x_putI 4 3 5), (5, x_push (0) 6), (6, x_istore 1 7), (7, x_iload 1 8), (8, x_push (120) 10), (10, x_icge 71 13), (13, x_aload 0 14), (14, x_inv 28 4 0 17), (17, x_ifne 25 20), (20, x_aload 0 21), (21, x_getI 4 3 24), (24, x_iret), (25, x_aload 0 26), (26, x_inv 27 4 0 29), (29, x_ifeq 34 32), (32, x_push (-1) 33), (33, x_iret), (34, x_aload 0 35)]
theorem o23_0 (scr : Nat × (Nat → Int32)) : ∀ q ∈ k23_0, XSnd xm scr Y23 q.1 q.2 := xcons (s_aload_n rfl dX4_faultOfForm_0) (xcons (s_iconst dX4_faultOfForm_1 rfl) (xcons (s_putI (f := 3) xC4 (by decide) xw_80 rfl (Or.inl rfl) dX4_faultOfForm_2) (xcons (s_iconst dX4_faultOfForm_5 rfl) (xcons (s_istore_n rfl dX4_faultOfForm_6 (by decide)) (xcons (s_iload_n rfl dX4_faultOfForm_7) (xcons (s_bipush dX4_faultOfForm_8 rfl) (xcons (s_icge dX4_faultOfForm_10 rfl) (xcons (s_aload_n rfl dX4_faultOfForm_13) (xcons (s_inv (mid := 28) xC4 cal_28 xw_83 xw_84 xw_85 dX4_faultOfForm_14) (xcons (s_ifne dX4_faultOfForm_17 rfl) (xcons (s_aload_n rfl dX4_faultOfForm_20) (xcons (s_getI (f := 3) xC4 (by decide) xw_80 rfl dX4_faultOfForm_21) (xcons (s_iret dX4_faultOfForm_24 rfl) (xcons (s_aload_n rfl dX4_faultOfForm_25) (xcons (s_inv (mid := 27) xC4 cal_27 xw_87 xw_88 xw_89 dX4_faultOfForm_26) (xcons (s_ifeq dX4_faultOfForm_29 rfl) (xcons (s_iconst dX4_faultOfForm_32 rfl) (xcons (s_iret dX4_faultOfForm_33 rfl) (xcons (s_aload_n rfl dX4_faultOfForm_34) (xnil))))))))))))))))))))
theorem dX4_faultOfForm_35 : decode cX4_faultOfForm 35 = .ok (.getfield 14, 3) := by decide +kernel
theorem dX4_faultOfForm_38 : decode cX4_faultOfForm 38 = .ok (.aload_n 0, 1) := by decide +kernel
theorem dX4_faultOfForm_39 : decode cX4_faultOfForm 39 = .ok (.getfield 23, 3) := by decide +kernel
theorem dX4_faultOfForm_42 : decode cX4_faultOfForm 42 = .ok (.invokevirtual 37, 3) := by decide +kernel
theorem dX4_faultOfForm_45 : decode cX4_faultOfForm 45 = .ok (.bipush 59, 2) := by decide +kernel
theorem dX4_faultOfForm_47 : decode cX4_faultOfForm 47 = .ok (.if_icmp .eq 8, 3) := by decide +kernel
theorem dX4_faultOfForm_50 : decode cX4_faultOfForm 50 = .ok (.aload_n 0, 1) := by decide +kernel
theorem dX4_faultOfForm_51 : decode cX4_faultOfForm 51 = .ok (.getfield 23, 3) := by decide +kernel
theorem dX4_faultOfForm_54 : decode cX4_faultOfForm 54 = .ok (.ireturn, 1) := by decide +kernel
theorem dX4_faultOfForm_55 : decode cX4_faultOfForm 55 = .ok (.aload_n 0, 1) := by decide +kernel
theorem dX4_faultOfForm_56 : decode cX4_faultOfForm 56 = .ok (.dup, 1) := by decide +kernel
theorem dX4_faultOfForm_57 : decode cX4_faultOfForm 57 = .ok (.getfield 23, 3) := by decide +kernel
theorem dX4_faultOfForm_60 : decode cX4_faultOfForm 60 = .ok (.iconst 1, 1) := by decide +kernel
theorem dX4_faultOfForm_61 : decode cX4_faultOfForm 61 = .ok (.iadd, 1) := by decide +kernel
theorem dX4_faultOfForm_62 : decode cX4_faultOfForm 62 = .ok (.putfield 23, 3) := by decide +kernel
theorem dX4_faultOfForm_65 : decode cX4_faultOfForm 65 = .ok (.iinc 1 1, 3) := by decide +kernel
theorem dX4_faultOfForm_68 : decode cX4_faultOfForm 68 = .ok (.goto (-61), 3) := by decide +kernel
theorem dX4_faultOfForm_71 : decode cX4_faultOfForm 71 = .ok (.aload_n 0, 1) := by decide +kernel
theorem dX4_faultOfForm_72 : decode cX4_faultOfForm 72 = .ok (.getfield 23, 3) := by decide +kernel
theorem dX4_faultOfForm_75 : decode cX4_faultOfForm 75 = .ok (.ireturn, 1) := by decide +kernel
def k23_1 : List (Nat × XI) := [(35, x_getR 4 0 38), (38, x_aload 0 39), (39, x_getI 4 3 42), (42, x_inv 6 2 1 45), (45, x_push (59) 47), (47, x_iceq 55 50), (50, x_aload 0 51), (51, x_getI 4 3 54), (54, x_iret), (55, x_aload 0 56), (56, x_dup 57), (57, x_getI 4 3 60), (60, x_push (1) 61), (61, x_iadd 62), (62, x_putI 4 3 65), (65, x_iinc 1 (1) 68), (68, x_goto 7), (71, x_aload 0 72), (72, x_getI 4 3 75), (75, x_iret)]
theorem o23_1 (scr : Nat × (Nat → Int32)) : ∀ q ∈ k23_1, XSnd xm scr Y23 q.1 q.2 := xcons (s_getR (f := 0) xC4 (by decide) xw_90 rfl dX4_faultOfForm_35) (xcons (s_aload_n rfl dX4_faultOfForm_38) (xcons (s_getI (f := 3) xC4 (by decide) xw_80 rfl dX4_faultOfForm_39) (xcons (s_inv (mid := 6) xC2 cal_6 xw_92 xw_93 xw_94 dX4_faultOfForm_42) (xcons (s_bipush dX4_faultOfForm_45 rfl) (xcons (s_iceq dX4_faultOfForm_47 rfl) (xcons (s_aload_n rfl dX4_faultOfForm_50) (xcons (s_getI (f := 3) xC4 (by decide) xw_80 rfl dX4_faultOfForm_51) (xcons (s_iret dX4_faultOfForm_54 rfl) (xcons (s_aload_n rfl dX4_faultOfForm_55) (xcons (s_dup dX4_faultOfForm_56) (xcons (s_getI (f := 3) xC4 (by decide) xw_80 rfl dX4_faultOfForm_57) (xcons (s_iconst dX4_faultOfForm_60 rfl) (xcons (s_iadd dX4_faultOfForm_61) (xcons (s_putI (f := 3) xC4 (by decide) xw_80 rfl (Or.inl rfl) dX4_faultOfForm_62) (xcons (s_iinc dX4_faultOfForm_65 rfl (by decide)) (xcons (s_goto dX4_faultOfForm_68 rfl) (xcons (s_aload_n rfl dX4_faultOfForm_71) (xcons (s_getI (f := 3) xC4 (by decide) xw_80 rfl dX4_faultOfForm_72) (xcons (s_iret dX4_faultOfForm_75 rfl) (xnil))))))))))))))))))))
def k23 (pc : Nat) : XI := if pc < 35 then xlk k23_0 pc else xlk k23_1 pc
theorem o23 (scr : Nat × (Nat → Int32)) (pc : Nat) : XSnd xm scr Y23 pc (k23 pc) := by
  unfold k23
  exact xite (xlk_ok (o23_0 scr) pc) (xlk_ok (o23_1 scr) pc)
theorem dX4_init_0 : decode cX4_init 0 = .ok (.aload_n 0, 1) := by decide +kernel
theorem dX4_init_1 : decode cX4_init 1 = .ok (.invokespecial 3, 3) := by decide +kernel
theorem dX4_init_4 : decode cX4_init 4 = .ok (.aload_n 0, 1) := by decide +kernel
theorem dX4_init_5 : decode cX4_init 5 = .ok (.new 9, 3) := by decide +kernel
theorem dX4_init_8 : decode cX4_init 8 = .ok (.dup, 1) := by decide +kernel
theorem dX4_init_9 : decode cX4_init 9 = .ok (.bipush 120, 2) := by decide +kernel
theorem dX4_init_11 : decode cX4_init 11 = .ok (.invokespecial 11, 3) := by decide +kernel
theorem dX4_init_14 : decode cX4_init 14 = .ok (.putfield 14, 3) := by decide +kernel
theorem dX4_init_17 : decode cX4_init 17 = .ok (.aload_n 0, 1) := by decide +kernel
theorem dX4_init_18 : decode cX4_init 18 = .ok (.new 9, 3) := by decide +kernel
theorem dX4_init_21 : decode cX4_init 21 = .ok (.dup, 1) := by decide +kernel
theorem dX4_init_22 : decode cX4_init 22 = .ok (.iconst 5, 1) := by decide +kernel
theorem dX4_init_23 : decode cX4_init 23 = .ok (.invokespecial 11, 3) := by decide +kernel
theorem dX4_init_26 : decode cX4_init 26 = .ok (.putfield 20, 3) := by decide +kernel
theorem dX4_init_29 : decode cX4_init 29 = .ok (.return_, 1) := by decide +kernel
def k24_0 : List (Nat × XI) := [(0, x_aload 0 1), (1, x_obj 4), (4, x_aload 0 5), (5, x_new 2 8), (8, x_dup 9), (9, x_push (120) 11), (11, x_inv 12 2 1 14), (14, x_putR 4 0 17), (17, x_aload 0 18), (18, x_new 2 21), (21, x_dup 22), (22, x_push (5) 23), (23, x_inv 12 2 1 26), (26, x_putR 4 1 29), (29, x_ret)]
theorem o24_0 (scr : Nat × (Nat → Int32)) : ∀ q ∈ k24_0, XSnd xm scr Y24 q.1 q.2 := xcons (s_aload_n rfl dX4_init_0) (xcons (s_obj xw_95 xw_30 xw_31 dX4_init_1) (xcons (s_aload_n rfl dX4_init_4) (xcons (s_new xC2 xw_96 xw_33 xw_19 (by decide +kernel) dX4_init_5) (xcons (s_dup dX4_init_8) (xcons (s_bipush dX4_init_9 rfl) (xcons (s_init (mid := 12) xC2 cal_12 rfl rfl xw_97 xw_36 dX4_init_11) (xcons (s_putR (f := 0) xC4 (by decide) xw_90 rfl (Or.inr ⟨rfl, rfl, rfl⟩) dX4_init_14) (xcons (s_aload_n rfl dX4_init_17) (xcons (s_new xC2 xw_96 xw_33 xw_19 (by decide +kernel) dX4_init_18) (xcons (s_dup dX4_init_21) (xcons (s_iconst dX4_init_22 rfl) (xcons (s_init (mid := 12) xC2 cal_12 rfl rfl xw_97 xw_36 dX4_init_23) (xcons (s_putR (f := 1) xC4 (by decide) xw_98 rfl (Or.inr ⟨rfl, rfl, rfl⟩) dX4_init_26) (xcons (s_ret dX4_init_29 rfl) (xnil)))))))))))))))
def k24 (pc : Nat) : XI := xlk k24_0 pc
theorem o24 (scr : Nat × (Nat → Int32)) (pc : Nat) : XSnd xm scr Y24 pc (k24 pc) := by
  unfold k24
  exact xlk_ok (o24_0 scr) pc
theorem dX4_isDigitNext_0 : decode cX4_isDigitNext 0 = .ok (.aload_n 0, 1) := by decide +kernel
theorem dX4_isDigitNext_1 : decode cX4_isDigitNext 1 = .ok (.invokevirtual 34, 3) := by decide +kernel
theorem dX4_isDigitNext_4 : decode cX4_isDigitNext 4 = .ok (.ifCond .ne 39, 3) := by decide +kernel
theorem dX4_isDigitNext_7 : decode cX4_isDigitNext 7 = .ok (.aload_n 0, 1) := by decide +kernel
theorem dX4_isDigitNext_8 : decode cX4_isDigitNext 8 = .ok (.getfield 14, 3) := by decide +kernel
theorem dX4_isDigitNext_11 : decode cX4_isDigitNext 11 = .ok (.aload_n 0, 1) := by decide +kernel
theorem dX4_isDigitNext_12 : decode cX4_isDigitNext 12 = .ok (.getfield 23, 3) := by decide +kernel
theorem dX4_isDigitNext_15 : decode cX4_isDigitNext 15 = .ok (.invokevirtual 37, 3) := by decide +kernel
theorem dX4_isDigitNext_18 : decode cX4_isDigitNext 18 = .ok (.bipush 48, 2) := by decide +kernel
theorem dX4_isDigitNext_20 : decode cX4_isDigitNext 20 = .ok (.if_icmp .lt 23, 3) := by decide +kernel
theorem dX4_isDigitNext_23 : decode cX4_isDigitNext 23 = .ok (.aload_n 0, 1) := by decide +kernel
theorem dX4_isDigitNext_24 : decode cX4_isDigitNext 24 = .ok (.getfield 14, 3) := by decide +kernel
theorem dX4_isDigitNext_27 : decode cX4_isDigitNext 27 = .ok (.aload_n 0, 1) := by decide +kernel
theorem dX4_isDigitNext_28 : decode cX4_isDigitNext 28 = .ok (.getfield 23, 3) := by decide +kernel
theorem dX4_isDigitNext_31 : decode cX4_isDigitNext 31 = .ok (.invokevirtual 37, 3) := by decide +kernel
theorem dX4_isDigitNext_34 : decode cX4_isDigitNext 34 = .ok (.bipush 57, 2) := by decide +kernel
theorem dX4_isDigitNext_36 : decode cX4_isDigitNext 36 = .ok (.if_icmp .gt 7, 3) := by decide +kernel
theorem dX4_isDigitNext_39 : decode cX4_isDigitNext 39 = .ok (.iconst 1, 1) := by decide +kernel
theorem dX4_isDigitNext_40 : decode cX4_isDigitNext 40 = .ok (.goto 4, 3) := by decide +kernel
theorem dX4_isDigitNext_43 : decode cX4_isDigitNext 43 = .ok (.iconst 0, 1) := by decide +kernel
def k25_0 : List (Nat × XI) := [(0, x_aload 0 1), (1, x_inv 27 4 0 4), (4, x_ifne 43 7), (7, x_aload 0 8), (8, x_getR 4 0 11), (11, x_aload 0 12), (12, x_getI 4 3 15), (15, x_inv 6 2 1 18), (18, x_push (48) 20), (20, x_iclt 43 23), (23, x_aload 0 24), (24, x_getR 4 0 27), (27, x_aload 0 28), (28, x_getI 4 3 31), (31, x_inv 6 2 1 34), (34, x_push (57) 36), (36, x_icgt 43 39), (39, x_push (1) 40), (40, x_goto 44), (43, x_push (0) 44)]
theorem o25_0 (scr : Nat × (Nat → Int32)) : ∀ q ∈ k25_0, XSnd xm scr Y25 q.1 q.2 := xcons (s_aload_n rfl dX4_isDigitNext_0) (xcons (s_inv (mid := 27) xC4 cal_27 xw_87 xw_88 xw_89 dX4_isDigitNext_1) (xcons (s_ifne dX4_isDigitNext_4 rfl) (xcons (s_aload_n rfl dX4_isDigitNext_7) (xcons (s_getR (f := 0) xC4 (by decide) xw_90 rfl dX4_isDigitNext_8) (xcons (s_aload_n rfl dX4_isDigitNext_11) (xcons (s_getI (f := 3) xC4 (by decide) xw_80 rfl dX4_isDigitNext_12) (xcons (s_inv (mid := 6) xC2 cal_6 xw_92 xw_93 xw_94 dX4_isDigitNext_15) (xcons (s_bipush dX4_isDigitNext_18 rfl) (xcons (s_iclt dX4_isDigitNext_20 rfl) (xcons (s_aload_n rfl dX4_isDigitNext_23) (xcons (s_getR (f := 0) xC4 (by decide) xw_90 rfl dX4_isDigitNext_24) (xcons (s_aload_n rfl dX4_isDigitNext_27) (xcons (s_getI (f := 3) xC4 (by decide) xw_80 rfl dX4_isDigitNext_28) (xcons (s_inv (mid := 6) xC2 cal_6 xw_92 xw_93 xw_94 dX4_isDigitNext_31) (xcons (s_bipush dX4_isDigitNext_34 rfl) (xcons (s_icgt dX4_isDigitNext_36 rfl) (xcons (s_iconst dX4_isDigitNext_39 rfl) (xcons (s_goto dX4_isDigitNext_40 rfl) (xcons (s_iconst dX4_isDigitNext_43 rfl) (xnil))))))))))))))))))))
theorem dX4_isDigitNext_44 : decode cX4_isDigitNext 44 = .ok (.ireturn, 1) := by decide +kernel
def k25_1 : List (Nat × XI) := [(44, x_zret)]
theorem o25_1 (scr : Nat × (Nat → Int32)) : ∀ q ∈ k25_1, XSnd xm scr Y25 q.1 q.2 := xcons (s_zret dX4_isDigitNext_44 rfl) (xnil)
def k25 (pc : Nat) : XI := if pc < 44 then xlk k25_0 pc else xlk k25_1 pc
theorem o25 (scr : Nat × (Nat → Int32)) (pc : Nat) : XSnd xm scr Y25 pc (k25 pc) := by
  unfold k25
  exact xite (xlk_ok (o25_0 scr) pc) (xlk_ok (o25_1 scr) pc)
theorem dX4_isNext_0 : decode cX4_isNext 0 = .ok (.aload_n 0, 1) := by decide +kernel
theorem dX4_isNext_1 : decode cX4_isNext 1 = .ok (.invokevirtual 34, 3) := by decide +kernel
theorem dX4_isNext_4 : decode cX4_isNext 4 = .ok (.ifCond .ne 22, 3) := by decide +kernel
theorem dX4_isNext_7 : decode cX4_isNext 7 = .ok (.aload_n 0, 1) := by decide +kernel
theorem dX4_isNext_8 : decode cX4_isNext 8 = .ok (.getfield 14, 3) := by decide +kernel
theorem dX4_isNext_11 : decode cX4_isNext 11 = .ok (.aload_n 0, 1) := by decide +kernel
theorem dX4_isNext_12 : decode cX4_isNext 12 = .ok (.getfield 23, 3) := by decide +kernel
theorem dX4_isNext_15 : decode cX4_isNext 15 = .ok (.invokevirtual 37, 3) := by decide +kernel
theorem dX4_isNext_18 : decode cX4_isNext 18 = .ok (.iload_n 1, 1) := by decide +kernel
theorem dX4_isNext_19 : decode cX4_isNext 19 = .ok (.if_icmp .ne 7, 3) := by decide +kernel
theorem dX4_isNext_22 : decode cX4_isNext 22 = .ok (.iconst 1, 1) := by decide +kernel
theorem dX4_isNext_23 : decode cX4_isNext 23 = .ok (.goto 4, 3) := by decide +kernel
theorem dX4_isNext_26 : decode cX4_isNext 26 = .ok (.iconst 0, 1) := by decide +kernel
theorem dX4_isNext_27 : decode cX4_isNext 27 = .ok (.ireturn, 1) := by decide +kernel
def k26_0 : List (Nat × XI) := [(0, x_aload 0 1), (1, x_inv 27 4 0 4), (4, x_ifne 26 7), (7, x_aload 0 8), (8, x_getR 4 0 11), (11, x_aload 0 12), (12, x_getI 4 3 15), (15, x_inv 6 2 1 18), (18, x_iload 1 19), (19, x_icne 26 22), (22, x_push (1) 23), (23, x_goto 27), (26, x_push (0) 27), (27, x_zret)]
theorem o26_0 (scr : Nat × (Nat → Int32)) : ∀ q ∈ k26_0, XSnd xm scr Y26 q.1 q.2 := xcons (s_aload_n rfl dX4_isNext_0) (xcons (s_inv (mid := 27) xC4 cal_27 xw_87 xw_88 xw_89 dX4_isNext_1) (xcons (s_ifne dX4_isNext_4 rfl) (xcons (s_aload_n rfl dX4_isNext_7) (xcons (s_getR (f := 0) xC4 (by decide) xw_90 rfl dX4_isNext_8) (xcons (s_aload_n rfl dX4_isNext_11) (xcons (s_getI (f := 3) xC4 (by decide) xw_80 rfl dX4_isNext_12) (xcons (s_inv (mid := 6) xC2 cal_6 xw_92 xw_93 xw_94 dX4_isNext_15) (xcons (s_iload_n rfl dX4_isNext_18) (xcons (s_icne dX4_isNext_19 rfl) (xcons (s_iconst dX4_isNext_22 rfl) (xcons (s_goto dX4_isNext_23 rfl) (xcons (s_iconst dX4_isNext_26 rfl) (xcons (s_zret dX4_isNext_27 rfl) (xnil))))))))))))))
def k26 (pc : Nat) : XI := xlk k26_0 pc
theorem o26 (scr : Nat × (Nat → Int32)) (pc : Nat) : XSnd xm scr Y26 pc (k26 pc) := by
  unfold k26
  exact xlk_ok (o26_0 scr) pc
theorem dX4_isRead_0 : decode cX4_isRead 0 = .ok (.aload_n 0, 1) := by decide +kernel
theorem dX4_isRead_1 : decode cX4_isRead 1 = .ok (.getfield 23, 3) := by decide +kernel
theorem dX4_isRead_4 : decode cX4_isRead 4 = .ok (.aload_n 0, 1) := by decide +kernel
theorem dX4_isRead_5 : decode cX4_isRead 5 = .ok (.getfield 14, 3) := by decide +kernel
theorem dX4_isRead_8 : decode cX4_isRead 8 = .ok (.getfield 27, 3) := by decide +kernel
theorem dX4_isRead_11 : decode cX4_isRead 11 = .ok (.if_icmp .lt 7, 3) := by decide +kernel
theorem dX4_isRead_14 : decode cX4_isRead 14 = .ok (.iconst 1, 1) := by decide +kernel
theorem dX4_isRead_15 : decode cX4_isRead 15 = .ok (.goto 4, 3) := by decide +kernel
theorem dX4_isRead_18 : decode cX4_isRead 18 = .ok (.iconst 0, 1) := by decide +kernel
theorem dX4_isRead_19 : decode cX4_isRead 19 = .ok (.ireturn, 1) := by decide +kernel
def k27_0 : List (Nat × XI) := [(0, x_aload 0 1), (1, x_getI 4 3 4), (4, x_aload 0 5), (5, x_getR 4 0 8), (8, x_getI 2 1 11), (11, x_iclt 18 14), (14, x_push (1) 15), (15, x_goto 19), (18, x_push (0) 19), (19, x_zret)]
theorem o27_0 (scr : Nat × (Nat → Int32)) : ∀ q ∈ k27_0, XSnd xm scr Y27 q.1 q.2 := xcons (s_aload_n rfl dX4_isRead_0) (xcons (s_getI (f := 3) xC4 (by decide) xw_80 rfl dX4_isRead_1) (xcons (s_aload_n rfl dX4_isRead_4) (xcons (s_getR (f := 0) xC4 (by decide) xw_90 rfl dX4_isRead_5) (xcons (s_getI (f := 1) xC2 (by decide) xw_99 rfl dX4_isRead_8) (xcons (s_iclt dX4_isRead_11 rfl) (xcons (s_iconst dX4_isRead_14 rfl) (xcons (s_goto dX4_isRead_15 rfl) (xcons (s_iconst dX4_isRead_18 rfl) (xcons (s_zret dX4_isRead_19 rfl) (xnil))))))))))
def k27 (pc : Nat) : XI := xlk k27_0 pc
theorem o27 (scr : Nat × (Nat → Int32)) (pc : Nat) : XSnd xm scr Y27 pc (k27 pc) := by
  unfold k27
  exact xlk_ok (o27_0 scr) pc
theorem dX4_readLine_0 : decode cX4_readLine 0 = .ok (.aload_n 0, 1) := by decide +kernel
theorem dX4_readLine_1 : decode cX4_readLine 1 = .ok (.getfield 20, 3) := by decide +kernel
theorem dX4_readLine_4 : decode cX4_readLine 4 = .ok (.iconst 0, 1) := by decide +kernel
theorem dX4_readLine_5 : decode cX4_readLine 5 = .ok (.putfield 27, 3) := by decide +kernel
theorem dX4_readLine_8 : decode cX4_readLine 8 = .ok (.aload_n 0, 1) := by decide +kernel
theorem dX4_readLine_9 : decode cX4_readLine 9 = .ok (.aload_n 0, 1) := by decide +kernel
theorem dX4_readLine_10 : decode cX4_readLine 10 = .ok (.invokevirtual 34, 3) := by decide +kernel
theorem dX4_readLine_13 : decode cX4_readLine 13 = .ok (.ifCond .eq 7, 3) := by decide +kernel
theorem dX4_readLine_16 : decode cX4_readLine 16 = .ok (.iconst (-1), 1) := by decide +kernel
theorem dX4_readLine_17 : decode cX4_readLine 17 = .ok (.goto 14, 3) := by decide +kernel
theorem dX4_readLine_20 : decode cX4_readLine 20 = .ok (.aload_n 0, 1) := by decide +kernel
theorem dX4_readLine_21 : decode cX4_readLine 21 = .ok (.getfield 14, 3) := by decide +kernel
theorem dX4_readLine_24 : decode cX4_readLine 24 = .ok (.aload_n 0, 1) := by decide +kernel
theorem dX4_readLine_25 : decode cX4_readLine 25 = .ok (.getfield 23, 3) := by decide +kernel
theorem dX4_readLine_28 : decode cX4_readLine 28 = .ok (.invokevirtual 37, 3) := by decide +kernel
theorem dX4_readLine_31 : decode cX4_readLine 31 = .ok (.putfield 41, 3) := by decide +kernel
theorem dX4_readLine_34 : decode cX4_readLine 34 = .ok (.aload_n 0, 1) := by decide +kernel
theorem dX4_readLine_35 : decode cX4_readLine 35 = .ok (.getfield 41, 3) := by decide +kernel
theorem dX4_readLine_38 : decode cX4_readLine 38 = .ok (.bipush 97, 2) := by decide +kernel
theorem dX4_readLine_40 : decode cX4_readLine 40 = .ok (.if_icmp .ne 7, 3) := by decide +kernel
def k28_0 : List (Nat × XI) := [(0, x_aload 0 1), (1, x_getR 4 1 4), (4, x_push (0) 5), (5, x_putI 2 1 8), (8, x_aload 0 9), (9, x_aload 0 10), (10, x_inv 27 4 0 13), (13, x_ifeq 20 16), (16, x_push (-1) 17), (17, x_goto 31), (20, x_aload 0 21), (21, x_getR 4 0 24), (24, x_aload 0 25), (25, x_getI 4 3 28), (28, x_inv 6 2 1 31), (31, x_putI 4 2 34), (34, x_aload 0 35), (35, x_getI 4 2 38), (38, x_push (97) 40), (40, x_icne 47 43)]
theorem o28_0 (scr : Nat × (Nat → Int32)) : ∀ q ∈ k28_0, XSnd xm scr Y28 q.1 q.2 := xcons (s_aload_n rfl dX4_readLine_0) (xcons (s_getR (f := 1) xC4 (by decide) xw_98 rfl dX4_readLine_1) (xcons (s_iconst dX4_readLine_4 rfl) (xcons (s_putI (f := 1) xC2 (by decide) xw_99 rfl (Or.inl rfl) dX4_readLine_5) (xcons (s_aload_n rfl dX4_readLine_8) (xcons (s_aload_n rfl dX4_readLine_9) (xcons (s_inv (mid := 27) xC4 cal_27 xw_87 xw_88 xw_89 dX4_readLine_10) (xcons (s_ifeq dX4_readLine_13 rfl) (xcons (s_iconst dX4_readLine_16 rfl) (xcons (s_goto dX4_readLine_17 rfl) (xcons (s_aload_n rfl dX4_readLine_20) (xcons (s_getR (f := 0) xC4 (by decide) xw_90 rfl dX4_readLine_21) (xcons (s_aload_n rfl dX4_readLine_24) (xcons (s_getI (f := 3) xC4 (by decide) xw_80 rfl dX4_readLine_25) (xcons (s_inv (mid := 6) xC2 cal_6 xw_92 xw_93 xw_94 dX4_readLine_28) (xcons (s_putI (f := 2) xC4 (by decide) xw_100 rfl (Or.inl rfl) dX4_readLine_31) (xcons (s_aload_n rfl dX4_readLine_34) (xcons (s_getI (f := 2) xC4 (by decide) xw_100 rfl dX4_readLine_35) (xcons (s_bipush dX4_readLine_38 rfl) (xcons (s_icne dX4_readLine_40 rfl) (xnil))))))))))))))))))))
theorem dX4_readLine_43 : decode cX4_readLine 43 = .ok (.iconst 5, 1) := by decide +kernel
theorem dX4_readLine_44 : decode cX4_readLine 44 = .ok (.goto 30, 3) := by decide +kernel
theorem dX4_readLine_47 : decode cX4_readLine 47 = .ok (.aload_n 0, 1) := by decide +kernel
theorem dX4_readLine_48 : decode cX4_readLine 48 = .ok (.getfield 41, 3) := by decide +kernel
theorem dX4_readLine_51 : decode cX4_readLine 51 = .ok (.bipush 109, 2) := by decide +kernel
theorem dX4_readLine_53 : decode cX4_readLine 53 = .ok (.if_icmp .ne 7, 3) := by decide +kernel
theorem dX4_readLine_56 : decode cX4_readLine 56 = .ok (.iconst 2, 1) := by decide +kernel
theorem dX4_readLine_57 : decode cX4_readLine 57 = .ok (.goto 17, 3) := by decide +kernel
theorem dX4_readLine_60 : decode cX4_readLine 60 = .ok (.aload_n 0, 1) := by decide +kernel
theorem dX4_readLine_61 : decode cX4_readLine 61 = .ok (.getfield 41, 3) := by decide +kernel
theorem dX4_readLine_64 : decode cX4_readLine 64 = .ok (.bipush 115, 2) := by decide +kernel
theorem dX4_readLine_66 : decode cX4_readLine 66 = .ok (.if_icmp .ne 7, 3) := by decide +kernel
theorem dX4_readLine_69 : decode cX4_readLine 69 = .ok (.iconst 1, 1) := by decide +kernel
theorem dX4_readLine_70 : decode cX4_readLine 70 = .ok (.goto 4, 3) := by decide +kernel
theorem dX4_readLine_73 : decode cX4_readLine 73 = .ok (.iconst 0, 1) := by decide +kernel
theorem dX4_readLine_74 : decode cX4_readLine 74 = .ok (.istore_n 1, 1) := by decide +kernel
theorem dX4_readLine_75 : decode cX4_readLine 75 = .ok (.iload_n 1, 1) := by decide +kernel
theorem dX4_readLine_76 : decode cX4_readLine 76 = .ok (.ifCond .ne 5, 3) := by decide +kernel
theorem dX4_readLine_79 : decode cX4_readLine 79 = .ok (.iconst 0, 1) := by decide +kernel
theorem dX4_readLine_80 : decode cX4_readLine 80 = .ok (.ireturn, 1) := by decide +kernel
def k28_1 : List (Nat × XI) := [(43, x_push (5) 44), (44, x_goto 74), (47, x_aload 0 48), (48, x_getI 4 2 51), (51, x_push (109) 53), (53, x_icne 60 56), (56, x_push (2) 57), (57, x_goto 74), (60, x_aload 0 61), (61, x_getI 4 2 64), (64, x_push (115) 66), (66, x_icne 73 69), (69, x_push (1) 70), (70, x_goto 74), (73, x_push (0) 74), (74, x_istore 1 75), (75, x_iload 1 76), (76, x_ifne 81 79), (79, x_push (0) 80), (80, x_zret)]
theorem o28_1 (scr : Nat × (Nat → Int32)) : ∀ q ∈ k28_1, XSnd xm scr Y28 q.1 q.2 := xcons (s_iconst dX4_readLine_43 rfl) (xcons (s_goto dX4_readLine_44 rfl) (xcons (s_aload_n rfl dX4_readLine_47) (xcons (s_getI (f := 2) xC4 (by decide) xw_100 rfl dX4_readLine_48) (xcons (s_bipush dX4_readLine_51 rfl) (xcons (s_icne dX4_readLine_53 rfl) (xcons (s_iconst dX4_readLine_56 rfl) (xcons (s_goto dX4_readLine_57 rfl) (xcons (s_aload_n rfl dX4_readLine_60) (xcons (s_getI (f := 2) xC4 (by decide) xw_100 rfl dX4_readLine_61) (xcons (s_bipush dX4_readLine_64 rfl) (xcons (s_icne dX4_readLine_66 rfl) (xcons (s_iconst dX4_readLine_69 rfl) (xcons (s_goto dX4_readLine_70 rfl) (xcons (s_iconst dX4_readLine_73 rfl) (xcons (s_istore_n rfl dX4_readLine_74 (by decide)) (xcons (s_iload_n rfl dX4_readLine_75) (xcons (s_ifne dX4_readLine_76 rfl) (xcons (s_iconst dX4_readLine_79 rfl) (xcons (s_zret dX4_readLine_80 rfl) (xnil))))))))))))))))))))
theorem dX4_readLine_81 : decode cX4_readLine 81 = .ok (.aload_n 0, 1) := by decide +kernel
theorem dX4_readLine_82 : decode cX4_readLine 82 = .ok (.dup, 1) := by decide +kernel
theorem dX4_readLine_83 : decode cX4_readLine 83 = .ok (.getfield 23, 3) := by decide +kernel
theorem dX4_readLine_86 : decode cX4_readLine 86 = .ok (.iconst 1, 1) := by decide +kernel
theorem dX4_readLine_87 : decode cX4_readLine 87 = .ok (.iadd, 1) := by decide +kernel
theorem dX4_readLine_88 : decode cX4_readLine 88 = .ok (.putfield 23, 3) := by decide +kernel
theorem dX4_readLine_91 : decode cX4_readLine 91 = .ok (.iconst 1, 1) := by decide +kernel
theorem dX4_readLine_92 : decode cX4_readLine 92 = .ok (.istore_n 2, 1) := by decide +kernel
theorem dX4_readLine_93 : decode cX4_readLine 93 = .ok (.iload_n 2, 1) := by decide +kernel
theorem dX4_readLine_94 : decode cX4_readLine 94 = .ok (.iload_n 1, 1) := by decide +kernel
theorem dX4_readLine_95 : decode cX4_readLine 95 = .ok (.if_icmp .gt 37, 3) := by decide +kernel
theorem dX4_readLine_98 : decode cX4_readLine 98 = .ok (.aload_n 0, 1) := by decide +kernel
theorem dX4_readLine_99 : decode cX4_readLine 99 = .ok (.aload_n 0, 1) := by decide +kernel
theorem dX4_readLine_100 : decode cX4_readLine 100 = .ok (.getfield 41, 3) := by decide +kernel
theorem dX4_readLine_103 : decode cX4_readLine 103 = .ok (.bipush 97, 2) := by decide +kernel
theorem dX4_readLine_105 : decode cX4_readLine 105 = .ok (.if_icmp .eq 12, 3) := by decide +kernel
theorem dX4_readLine_108 : decode cX4_readLine 108 = .ok (.iload_n 2, 1) := by decide +kernel
theorem dX4_readLine_109 : decode cX4_readLine 109 = .ok (.iload_n 1, 1) := by decide +kernel
theorem dX4_readLine_110 : decode cX4_readLine 110 = .ok (.if_icmp .ne 7, 3) := by decide +kernel
theorem dX4_readLine_113 : decode cX4_readLine 113 = .ok (.iconst 1, 1) := by decide +kernel
def k28_2 : List (Nat × XI) := [(81, x_aload 0 82), (82, x_dup 83), (83, x_getI 4 3 86), (86, x_push (1) 87), (87, x_iadd 88), (88, x_putI 4 3 91), (91, x_push (1) 92), (92, x_istore 2 93), (93, x_iload 2 94), (94, x_iload 1 95), (95, x_icgt 132 98), (98, x_aload 0 99), (99, x_aload 0 100), (100, x_getI 4 2 103), (103, x_push (97) 105), (105, x_iceq 117 108), (108, x_iload 2 109), (109, x_iload 1 110), (110, x_icne 117 113), (113, x_push (1) 114)]
theorem o28_2 (scr : Nat × (Nat → Int32)) : ∀ q ∈ k28_2, XSnd xm scr Y28 q.1 q.2 := xcons (s_aload_n rfl dX4_readLine_81) (xcons (s_dup dX4_readLine_82) (xcons (s_getI (f := 3) xC4 (by decide) xw_80 rfl dX4_readLine_83) (xcons (s_iconst dX4_readLine_86 rfl) (xcons (s_iadd dX4_readLine_87) (xcons (s_putI (f := 3) xC4 (by decide) xw_80 rfl (Or.inl rfl) dX4_readLine_88) (xcons (s_iconst dX4_readLine_91 rfl) (xcons (s_istore_n rfl dX4_readLine_92 (by decide)) (xcons (s_iload_n rfl dX4_readLine_93) (xcons (s_iload_n rfl dX4_readLine_94) (xcons (s_icgt dX4_readLine_95 rfl) (xcons (s_aload_n rfl dX4_readLine_98) (xcons (s_aload_n rfl dX4_readLine_99) (xcons (s_getI (f := 2) xC4 (by decide) xw_100 rfl dX4_readLine_100) (xcons (s_bipush dX4_readLine_103 rfl) (xcons (s_iceq dX4_readLine_105 rfl) (xcons (s_iload_n rfl dX4_readLine_108) (xcons (s_iload_n rfl dX4_readLine_109) (xcons (s_icne dX4_readLine_110 rfl) (xcons (s_iconst dX4_readLine_113 rfl) (xnil))))))))))))))))))))
theorem dX4_readLine_114 : decode cX4_readLine 114 = .ok (.goto 4, 3) := by decide +kernel
theorem dX4_readLine_117 : decode cX4_readLine 117 = .ok (.iconst 0, 1) := by decide +kernel
theorem dX4_readLine_118 : decode cX4_readLine 118 = .ok (.invokevirtual 44, 3) := by decide +kernel
theorem dX4_readLine_121 : decode cX4_readLine 121 = .ok (.ifCond .ne 5, 3) := by decide +kernel
theorem dX4_readLine_124 : decode cX4_readLine 124 = .ok (.iconst 0, 1) := by decide +kernel
theorem dX4_readLine_125 : decode cX4_readLine 125 = .ok (.ireturn, 1) := by decide +kernel
theorem dX4_readLine_126 : decode cX4_readLine 126 = .ok (.iinc 2 1, 3) := by decide +kernel
theorem dX4_readLine_129 : decode cX4_readLine 129 = .ok (.goto (-36), 3) := by decide +kernel
theorem dX4_readLine_132 : decode cX4_readLine 132 = .ok (.iconst 1, 1) := by decide +kernel
theorem dX4_readLine_133 : decode cX4_readLine 133 = .ok (.ireturn, 1) := by decide +kernel
def k28_3 : List (Nat × XI) := [(114, x_goto 118), (117, x_push (0) 118), (118, x_inv 29 4 1 121), (121, x_ifne 126 124), (124, x_push (0) 125), (125, x_zret), (126, x_iinc 2 (1) 129), (129, x_goto 93), (132, x_push (1) 133), (133, x_zret)]
theorem o28_3 (scr : Nat × (Nat → Int32)) : ∀ q ∈ k28_3, XSnd xm scr Y28 q.1 q.2 := xcons (s_goto dX4_readLine_114 rfl) (xcons (s_iconst dX4_readLine_117 rfl) (xcons (s_inv (mid := 29) xC4 cal_29 xw_102 xw_103 xw_104 dX4_readLine_118) (xcons (s_ifne dX4_readLine_121 rfl) (xcons (s_iconst dX4_readLine_124 rfl) (xcons (s_zret dX4_readLine_125 rfl) (xcons (s_iinc dX4_readLine_126 rfl (by decide)) (xcons (s_goto dX4_readLine_129 rfl) (xcons (s_iconst dX4_readLine_132 rfl) (xcons (s_zret dX4_readLine_133 rfl) (xnil))))))))))
def k28 (pc : Nat) : XI := if pc < 81 then if pc < 43 then xlk k28_0 pc else xlk k28_1 pc else if pc < 114 then xlk k28_2 pc else xlk k28_3 pc
theorem o28 (scr : Nat × (Nat → Int32)) (pc : Nat) : XSnd xm scr Y28 pc (k28 pc) := by
  unfold k28
  exact xite (xite (xlk_ok (o28_0 scr) pc) (xlk_ok (o28_1 scr) pc)) (xite (xlk_ok (o28_2 scr) pc) (xlk_ok (o28_3 scr) pc))
theorem dX4_readNumber_0 : decode cX4_readNumber 0 = .ok (.aload_n 0, 1) := by decide +kernel
theorem dX4_readNumber_1 : decode cX4_readNumber 1 = .ok (.bipush 32, 2) := by decide +kernel
theorem dX4_readNumber_3 : decode cX4_readNumber 3 = .ok (.invokevirtual 48, 3) := by decide +kernel
theorem dX4_readNumber_6 : decode cX4_readNumber 6 = .ok (.ifCond .ne 5, 3) := by decide +kernel
theorem dX4_readNumber_9 : decode cX4_readNumber 9 = .ok (.iconst 0, 1) := by decide +kernel
theorem dX4_readNumber_10 : decode cX4_readNumber 10 = .ok (.ireturn, 1) := by decide +kernel
theorem dX4_readNumber_11 : decode cX4_readNumber 11 = .ok (.aload_n 0, 1) := by decide +kernel
theorem dX4_readNumber_12 : decode cX4_readNumber 12 = .ok (.dup, 1) := by decide +kernel
theorem dX4_readNumber_13 : decode cX4_readNumber 13 = .ok (.getfield 23, 3) := by decide +kernel
theorem dX4_readNumber_16 : decode cX4_readNumber 16 = .ok (.iconst 1, 1) := by decide +kernel
theorem dX4_readNumber_17 : decode cX4_readNumber 17 = .ok (.iadd, 1) := by decide +kernel
theorem dX4_readNumber_18 : decode cX4_readNumber 18 = .ok (.putfield 23, 3) := by decide +kernel
theorem dX4_readNumber_21 : decode cX4_readNumber 21 = .ok (.iload_n 1, 1) := by decide +kernel
theorem dX4_readNumber_22 : decode cX4_readNumber 22 = .ok (.ifCond .eq 16, 3) := by decide +kernel
theorem dX4_readNumber_25 : decode cX4_readNumber 25 = .ok (.aload_n 0, 1) := by decide +kernel
theorem dX4_readNumber_26 : decode cX4_readNumber 26 = .ok (.bipush 45, 2) := by decide +kernel
theorem dX4_readNumber_28 : decode cX4_readNumber 28 = .ok (.invokevirtual 48, 3) := by decide +kernel
theorem dX4_readNumber_31 : decode cX4_readNumber 31 = .ok (.ifCond .eq 7, 3) := by decide +kernel
theorem dX4_readNumber_34 : decode cX4_readNumber 34 = .ok (.iconst 1, 1) := by decide +kernel
theorem dX4_readNumber_35 : decode cX4_readNumber 35 = .ok (.goto 4, 3) := by decide +kernel
def k29_0 : List (Nat × XI) := [(0, x_aload 0 1), (1, x_push (32) 3), (3, x_inv 26 4 1 6), (6, x_ifne 11 9), (9, x_push (0) 10), (10, x_zret), (11, x_aload 0 12), (12, x_dup 13), (13, x_getI 4 3 16), (16, x_push (1) 17), (17, x_iadd 18), (18, x_putI 4 3 21), (21, x_iload 1 22), (22, x_ifeq 38 25), (25, x_aload 0 26), (26, x_push (45) 28), (28, x_inv 26 4 1 31), (31, x_ifeq 38 34), (34, x_push (1) 35), (35, x_goto 39)]
theorem o29_0 (scr : Nat × (Nat → Int32)) : ∀ q ∈ k29_0, XSnd xm scr Y29 q.1 q.2 := xcons (s_aload_n rfl dX4_readNumber_0) (xcons (s_bipush dX4_readNumber_1 rfl) (xcons (s_inv (mid := 26) xC4 cal_26 xw_106 xw_107 xw_108 dX4_readNumber_3) (xcons (s_ifne dX4_readNumber_6 rfl) (xcons (s_iconst dX4_readNumber_9 rfl) (xcons (s_zret dX4_readNumber_10 rfl) (xcons (s_aload_n rfl dX4_readNumber_11) (xcons (s_dup dX4_readNumber_12) (xcons (s_getI (f := 3) xC4 (by decide) xw_80 rfl dX4_readNumber_13) (xcons (s_iconst dX4_readNumber_16 rfl) (xcons (s_iadd dX4_readNumber_17) (xcons (s_putI (f := 3) xC4 (by decide) xw_80 rfl (Or.inl rfl) dX4_readNumber_18) (xcons (s_iload_n rfl dX4_readNumber_21) (xcons (s_ifeq dX4_readNumber_22 rfl) (xcons (s_aload_n rfl dX4_readNumber_25) (xcons (s_bipush dX4_readNumber_26 rfl) (xcons (s_inv (mid := 26) xC4 cal_26 xw_106 xw_107 xw_108 dX4_readNumber_28) (xcons (s_ifeq dX4_readNumber_31 rfl) (xcons (s_iconst dX4_readNumber_34 rfl) (xcons (s_goto dX4_readNumber_35 rfl) (xnil))))))))))))))))))))
theorem dX4_readNumber_38 : decode cX4_readNumber 38 = .ok (.iconst 0, 1) := by decide +kernel
theorem dX4_readNumber_39 : decode cX4_readNumber 39 = .ok (.istore_n 2, 1) := by decide +kernel
theorem dX4_readNumber_40 : decode cX4_readNumber 40 = .ok (.aload_n 0, 1) := by decide +kernel
theorem dX4_readNumber_41 : decode cX4_readNumber 41 = .ok (.dup, 1) := by decide +kernel
theorem dX4_readNumber_42 : decode cX4_readNumber 42 = .ok (.getfield 23, 3) := by decide +kernel
theorem dX4_readNumber_45 : decode cX4_readNumber 45 = .ok (.iload_n 2, 1) := by decide +kernel
theorem dX4_readNumber_46 : decode cX4_readNumber 46 = .ok (.ifCond .eq 7, 3) := by decide +kernel
theorem dX4_readNumber_49 : decode cX4_readNumber 49 = .ok (.iconst 1, 1) := by decide +kernel
theorem dX4_readNumber_50 : decode cX4_readNumber 50 = .ok (.goto 4, 3) := by decide +kernel
theorem dX4_readNumber_53 : decode cX4_readNumber 53 = .ok (.iconst 0, 1) := by decide +kernel
theorem dX4_readNumber_54 : decode cX4_readNumber 54 = .ok (.iadd, 1) := by decide +kernel
theorem dX4_readNumber_55 : decode cX4_readNumber 55 = .ok (.putfield 23, 3) := by decide +kernel
theorem dX4_readNumber_58 : decode cX4_readNumber 58 = .ok (.aload_n 0, 1) := by decide +kernel
theorem dX4_readNumber_59 : decode cX4_readNumber 59 = .ok (.invokevirtual 52, 3) := by decide +kernel
theorem dX4_readNumber_62 : decode cX4_readNumber 62 = .ok (.ifCond .ne 5, 3) := by decide +kernel
theorem dX4_readNumber_65 : decode cX4_readNumber 65 = .ok (.iconst 0, 1) := by decide +kernel
theorem dX4_readNumber_66 : decode cX4_readNumber 66 = .ok (.ireturn, 1) := by decide +kernel
theorem dX4_readNumber_67 : decode cX4_readNumber 67 = .ok (.aload_n 0, 1) := by decide +kernel
theorem dX4_readNumber_68 : decode cX4_readNumber 68 = .ok (.getfield 14, 3) := by decide +kernel
theorem dX4_readNumber_71 : decode cX4_readNumber 71 = .ok (.aload_n 0, 1) := by decide +kernel
def k29_1 : List (Nat × XI) := [(38, x_push (0) 39), (39, x_istore 2 40), (40, x_aload 0 41), (41, x_dup 42), (42, x_getI 4 3 45), (45, x_iload 2 46), (46, x_ifeq 53 49), (49, x_push (1) 50), (50, x_goto 54), (53, x_push (0) 54), (54, x_iadd 55), (55, x_putI 4 3 58), (58, x_aload 0 59), (59, x_inv 25 4 0 62), (62, x_ifne 67 65), (65, x_push (0) 66), (66, x_zret), (67, x_aload 0 68), (68, x_getR 4 0 71), (71, x_aload 0 72)]
theorem o29_1 (scr : Nat × (Nat → Int32)) : ∀ q ∈ k29_1, XSnd xm scr Y29 q.1 q.2 := xcons (s_iconst dX4_readNumber_38 rfl) (xcons (s_istore_n rfl dX4_readNumber_39 (by decide)) (xcons (s_aload_n rfl dX4_readNumber_40) (xcons (s_dup dX4_readNumber_41) (xcons (s_getI (f := 3) xC4 (by decide) xw_80 rfl dX4_readNumber_42) (xcons (s_iload_n rfl dX4_readNumber_45) (xcons (s_ifeq dX4_readNumber_46 rfl) (xcons (s_iconst dX4_readNumber_49 rfl) (xcons (s_goto dX4_readNumber_50 rfl) (xcons (s_iconst dX4_readNumber_53 rfl) (xcons (s_iadd dX4_readNumber_54) (xcons (s_putI (f := 3) xC4 (by decide) xw_80 rfl (Or.inl rfl) dX4_readNumber_55) (xcons (s_aload_n rfl dX4_readNumber_58) (xcons (s_inv (mid := 25) xC4 cal_25 xw_110 xw_111 xw_112 dX4_readNumber_59) (xcons (s_ifne dX4_readNumber_62 rfl) (xcons (s_iconst dX4_readNumber_65 rfl) (xcons (s_zret dX4_readNumber_66 rfl) (xcons (s_aload_n rfl dX4_readNumber_67) (xcons (s_getR (f := 0) xC4 (by decide) xw_90 rfl dX4_readNumber_68) (xcons (s_aload_n rfl dX4_readNumber_71) (xnil))))))))))))))))))))
theorem dX4_readNumber_72 : decode cX4_readNumber 72 = .ok (.getfield 23, 3) := by decide +kernel
theorem dX4_readNumber_75 : decode cX4_readNumber 75 = .ok (.invokevirtual 37, 3) := by decide +kernel
theorem dX4_readNumber_78 : decode cX4_readNumber 78 = .ok (.bipush 48, 2) := by decide +kernel
theorem dX4_readNumber_80 : decode cX4_readNumber 80 = .ok (.isub, 1) := by decide +kernel
theorem dX4_readNumber_81 : decode cX4_readNumber 81 = .ok (.istore_n 3, 1) := by decide +kernel
theorem dX4_readNumber_82 : decode cX4_readNumber 82 = .ok (.aload_n 0, 1) := by decide +kernel
theorem dX4_readNumber_83 : decode cX4_readNumber 83 = .ok (.dup, 1) := by decide +kernel
theorem dX4_readNumber_84 : decode cX4_readNumber 84 = .ok (.getfield 23, 3) := by decide +kernel
theorem dX4_readNumber_87 : decode cX4_readNumber 87 = .ok (.iconst 1, 1) := by decide +kernel
theorem dX4_readNumber_88 : decode cX4_readNumber 88 = .ok (.iadd, 1) := by decide +kernel
theorem dX4_readNumber_89 : decode cX4_readNumber 89 = .ok (.putfield 23, 3) := by decide +kernel
theorem dX4_readNumber_92 : decode cX4_readNumber 92 = .ok (.aload_n 0, 1) := by decide +kernel
theorem dX4_readNumber_93 : decode cX4_readNumber 93 = .ok (.invokevirtual 52, 3) := by decide +kernel
theorem dX4_readNumber_96 : decode cX4_readNumber 96 = .ok (.ifCond .eq 33, 3) := by decide +kernel
theorem dX4_readNumber_99 : decode cX4_readNumber 99 = .ok (.bipush 10, 2) := by decide +kernel
theorem dX4_readNumber_101 : decode cX4_readNumber 101 = .ok (.iload_n 3, 1) := by decide +kernel
theorem dX4_readNumber_102 : decode cX4_readNumber 102 = .ok (.imul, 1) := by decide +kernel
theorem dX4_readNumber_103 : decode cX4_readNumber 103 = .ok (.aload_n 0, 1) := by decide +kernel
theorem dX4_readNumber_104 : decode cX4_readNumber 104 = .ok (.getfield 14, 3) := by decide +kernel
theorem dX4_readNumber_107 : decode cX4_readNumber 107 = .ok (.aload_n 0, 1) := by decide +kernel
def k29_2 : List (Nat × XI) := [(72, x_getI 4 3 75), (75, x_inv 6 2 1 78), (78, x_push (48) 80), (80, x_isub 81), (81, x_istore 3 82), (82, x_aload 0 83), (83, x_dup 84), (84, x_getI 4 3 87), (87, x_push (1) 88), (88, x_iadd 89), (89, x_putI 4 3 92), (92, x_aload 0 93), (93, x_inv 25 4 0 96), (96, x_ifeq 129 99), (99, x_push (10) 101), (101, x_iload 3 102), (102, x_imul 103), (103, x_aload 0 104), (104, x_getR 4 0 107), (107, x_aload 0 108)]
theorem o29_2 (scr : Nat × (Nat → Int32)) : ∀ q ∈ k29_2, XSnd xm scr Y29 q.1 q.2 := xcons (s_getI (f := 3) xC4 (by decide) xw_80 rfl dX4_readNumber_72) (xcons (s_inv (mid := 6) xC2 cal_6 xw_92 xw_93 xw_94 dX4_readNumber_75) (xcons (s_bipush dX4_readNumber_78 rfl) (xcons (s_isub dX4_readNumber_80) (xcons (s_istore_n rfl dX4_readNumber_81 (by decide)) (xcons (s_aload_n rfl dX4_readNumber_82) (xcons (s_dup dX4_readNumber_83) (xcons (s_getI (f := 3) xC4 (by decide) xw_80 rfl dX4_readNumber_84) (xcons (s_iconst dX4_readNumber_87 rfl) (xcons (s_iadd dX4_readNumber_88) (xcons (s_putI (f := 3) xC4 (by decide) xw_80 rfl (Or.inl rfl) dX4_readNumber_89) (xcons (s_aload_n rfl dX4_readNumber_92) (xcons (s_inv (mid := 25) xC4 cal_25 xw_110 xw_111 xw_112 dX4_readNumber_93) (xcons (s_ifeq dX4_readNumber_96 rfl) (xcons (s_bipush dX4_readNumber_99 rfl) (xcons (s_iload_n rfl dX4_readNumber_101) (xcons (s_imul dX4_readNumber_102) (xcons (s_aload_n rfl dX4_readNumber_103) (xcons (s_getR (f := 0) xC4 (by decide) xw_90 rfl dX4_readNumber_104) (xcons (s_aload_n rfl dX4_readNumber_107) (xnil))))))))))))))))))))
theorem dX4_readNumber_108 : decode cX4_readNumber 108 = .ok (.getfield 23, 3) := by decide +kernel
theorem dX4_readNumber_111 : decode cX4_readNumber 111 = .ok (.invokevirtual 37, 3) := by decide +kernel
theorem dX4_readNumber_114 : decode cX4_readNumber 114 = .ok (.iadd, 1) := by decide +kernel
theorem dX4_readNumber_115 : decode cX4_readNumber 115 = .ok (.bipush 48, 2) := by decide +kernel
theorem dX4_readNumber_117 : decode cX4_readNumber 117 = .ok (.isub, 1) := by decide +kernel
theorem dX4_readNumber_118 : decode cX4_readNumber 118 = .ok (.istore_n 3, 1) := by decide +kernel
theorem dX4_readNumber_119 : decode cX4_readNumber 119 = .ok (.aload_n 0, 1) := by decide +kernel
theorem dX4_readNumber_120 : decode cX4_readNumber 120 = .ok (.dup, 1) := by decide +kernel
theorem dX4_readNumber_121 : decode cX4_readNumber 121 = .ok (.getfield 23, 3) := by decide +kernel
theorem dX4_readNumber_124 : decode cX4_readNumber 124 = .ok (.iconst 1, 1) := by decide +kernel
theorem dX4_readNumber_125 : decode cX4_readNumber 125 = .ok (.iadd, 1) := by decide +kernel
theorem dX4_readNumber_126 : decode cX4_readNumber 126 = .ok (.putfield 23, 3) := by decide +kernel
theorem dX4_readNumber_129 : decode cX4_readNumber 129 = .ok (.aload_n 0, 1) := by decide +kernel
theorem dX4_readNumber_130 : decode cX4_readNumber 130 = .ok (.getfield 20, 3) := by decide +kernel
theorem dX4_readNumber_133 : decode cX4_readNumber 133 = .ok (.iload_n 2, 1) := by decide +kernel
theorem dX4_readNumber_134 : decode cX4_readNumber 134 = .ok (.ifCond .eq 8, 3) := by decide +kernel
theorem dX4_readNumber_137 : decode cX4_readNumber 137 = .ok (.iload_n 3, 1) := by decide +kernel
theorem dX4_readNumber_138 : decode cX4_readNumber 138 = .ok (.ineg, 1) := by decide +kernel
theorem dX4_readNumber_139 : decode cX4_readNumber 139 = .ok (.goto 4, 3) := by decide +kernel
theorem dX4_readNumber_142 : decode cX4_readNumber 142 = .ok (.iload_n 3, 1) := by decide +kernel
def k29_3 : List (Nat × XI) := [(108, x_getI 4 3 111), (111, x_inv 6 2 1 114), (114, x_iadd 115), (115, x_push (48) 117), (117, x_isub 118), (118, x_istore 3 119), (119, x_aload 0 120), (120, x_dup 121), (121, x_getI 4 3 124), (124, x_push (1) 125), (125, x_iadd 126), (126, x_putI 4 3 129), (129, x_aload 0 130), (130, x_getR 4 1 133), (133, x_iload 2 134), (134, x_ifeq 142 137), (137, x_iload 3 138), (138, x_ineg 139), (139, x_goto 143), (142, x_iload 3 143)]
theorem o29_3 (scr : Nat × (Nat → Int32)) : ∀ q ∈ k29_3, XSnd xm scr Y29 q.1 q.2 := xcons (s_getI (f := 3) xC4 (by decide) xw_80 rfl dX4_readNumber_108) (xcons (s_inv (mid := 6) xC2 cal_6 xw_92 xw_93 xw_94 dX4_readNumber_111) (xcons (s_iadd dX4_readNumber_114) (xcons (s_bipush dX4_readNumber_115 rfl) (xcons (s_isub dX4_readNumber_117) (xcons (s_istore_n rfl dX4_readNumber_118 (by decide)) (xcons (s_aload_n rfl dX4_readNumber_119) (xcons (s_dup dX4_readNumber_120) (xcons (s_getI (f := 3) xC4 (by decide) xw_80 rfl dX4_readNumber_121) (xcons (s_iconst dX4_readNumber_124 rfl) (xcons (s_iadd dX4_readNumber_125) (xcons (s_putI (f := 3) xC4 (by decide) xw_80 rfl (Or.inl rfl) dX4_readNumber_126) (xcons (s_aload_n rfl dX4_readNumber_129) (xcons (s_getR (f := 1) xC4 (by decide) xw_98 rfl dX4_readNumber_130) (xcons (s_iload_n rfl dX4_readNumber_133) (xcons (s_ifeq dX4_readNumber_134 rfl) (xcons (s_iload_n rfl dX4_readNumber_137) (xcons (s_ineg dX4_readNumber_138) (xcons (s_goto dX4_readNumber_139 rfl) (xcons (s_iload_n rfl dX4_readNumber_142) (xnil))))))))))))))))))))
theorem dX4_readNumber_143 : decode cX4_readNumber 143 = .ok (.invokevirtual 55, 3) := by decide +kernel
theorem dX4_readNumber_146 : decode cX4_readNumber 146 = .ok (.pop, 1) := by decide +kernel
theorem dX4_readNumber_147 : decode cX4_readNumber 147 = .ok (.iconst 1, 1) := by decide +kernel
theorem dX4_readNumber_148 : decode cX4_readNumber 148 = .ok (.ireturn, 1) := by decide +kernel
def k29_4 : List (Nat × XI) := [(143, x_inv 5 2 1 146), (146, x_pop 147), (147, x_push (1) 148), (148, x_zret)]
theorem o29_4 (scr : Nat × (Nat → Int32)) : ∀ q ∈ k29_4, XSnd xm scr Y29 q.1 q.2 := xcons (s_inv (mid := 5) xC2 cal_5 xw_113 xw_44 xw_45 dX4_readNumber_143) (xcons (s_pop dX4_readNumber_146) (xcons (s_iconst dX4_readNumber_147 rfl) (xcons (s_zret dX4_readNumber_148 rfl) (xnil))))
def k29 (pc : Nat) : XI := if pc < 72 then if pc < 38 then xlk k29_0 pc else xlk k29_1 pc else if pc < 108 then xlk k29_2 pc else if pc < 143 then xlk k29_3 pc else xlk k29_4 pc
theorem o29 (scr : Nat × (Nat → Int32)) (pc : Nat) : XSnd xm scr Y29 pc (k29 pc) := by
  unfold k29
  exact xite (xite (xlk_ok (o29_0 scr) pc) (xlk_ok (o29_1 scr) pc)) (xite (xlk_ok (o29_2 scr) pc) (xite (xlk_ok (o29_3 scr) pc) (xlk_ok (o29_4 scr) pc)))
theorem dX5_copyFrom_0 : decode cX5_copyFrom 0 = .ok (.aload_n 0, 1) := by decide +kernel
theorem dX5_copyFrom_1 : decode cX5_copyFrom 1 = .ok (.iconst 0, 1) := by decide +kernel
theorem dX5_copyFrom_2 : decode cX5_copyFrom 2 = .ok (.aload_n 1, 1) := by decide +kernel
theorem dX5_copyFrom_3 : decode cX5_copyFrom 3 = .ok (.getfield 21, 3) := by decide +kernel
theorem dX5_copyFrom_6 : decode cX5_copyFrom 6 = .ok (.bipush 10, 2) := by decide +kernel
theorem dX5_copyFrom_8 : decode cX5_copyFrom 8 = .ok (.invokestatic 29, 3) := by decide +kernel
theorem dX5_copyFrom_11 : decode cX5_copyFrom 11 = .ok (.invokestatic 35, 3) := by decide +kernel
theorem dX5_copyFrom_14 : decode cX5_copyFrom 14 = .ok (.putfield 21, 3) := by decide +kernel
theorem dX5_copyFrom_17 : decode cX5_copyFrom 17 = .ok (.aload_n 1, 1) := by decide +kernel
theorem dX5_copyFrom_18 : decode cX5_copyFrom 18 = .ok (.getfield 9, 3) := by decide +kernel
theorem dX5_copyFrom_21 : decode cX5_copyFrom 21 = .ok (.iconst 0, 1) := by decide +kernel
theorem dX5_copyFrom_22 : decode cX5_copyFrom 22 = .ok (.aload_n 0, 1) := by decide +kernel
theorem dX5_copyFrom_23 : decode cX5_copyFrom 23 = .ok (.getfield 9, 3) := by decide +kernel
theorem dX5_copyFrom_26 : decode cX5_copyFrom 26 = .ok (.iconst 0, 1) := by decide +kernel
theorem dX5_copyFrom_27 : decode cX5_copyFrom 27 = .ok (.aload_n 0, 1) := by decide +kernel
theorem dX5_copyFrom_28 : decode cX5_copyFrom 28 = .ok (.getfield 21, 3) := by decide +kernel
theorem dX5_copyFrom_31 : decode cX5_copyFrom 31 = .ok (.invokestatic 38, 3) := by decide +kernel
theorem dX5_copyFrom_34 : decode cX5_copyFrom 34 = .ok (.aload_n 1, 1) := by decide +kernel
theorem dX5_copyFrom_35 : decode cX5_copyFrom 35 = .ok (.getfield 15, 3) := by decide +kernel
theorem dX5_copyFrom_38 : decode cX5_copyFrom 38 = .ok (.iconst 0, 1) := by decide +kernel
def k30_0 : List (Nat × XI) := [(0, x_aload 0 1), (1, x_push (0) 2), (2, x_aload 1 3), (3, x_getI 5 3 6), (6, x_push (10) 8), (8, x_mmin 11), (11, x_mmax 14), (14, x_putI 5 3 17), (17, x_aload 1 18), (18, x_getR 5 0 21), (21, x_push (0) 22), (22, x_aload 0 23), (23, x_getR 5 0 26), (26, x_push (0) 27), (27, x_aload 0 28), (28, x_getI 5 3 31), (31, x_copy 34), (34, x_aload 1 35), (35, x_getR 5 1 38), (38, x_push (0) 39)]
theorem o30_0 (scr : Nat × (Nat → Int32)) : ∀ q ∈ k30_0, XSnd xm scr Y30 q.1 q.2 := xcons (s_aload_n rfl dX5_copyFrom_0) (xcons (s_iconst dX5_copyFrom_1 rfl) (xcons (s_aload_n rfl dX5_copyFrom_2) (xcons (s_getI (f := 3) xC5 (by decide) xw_114 rfl dX5_copyFrom_3) (xcons (s_bipush dX5_copyFrom_6 rfl) (xcons (s_mmin xw_115 xw_53 xw_54 xw_55 dX5_copyFrom_8) (xcons (s_mmax xw_116 xw_57 xw_54 xw_58 dX5_copyFrom_11) (xcons (s_putI (f := 3) xC5 (by decide) xw_114 rfl (Or.inl rfl) dX5_copyFrom_14) (xcons (s_aload_n rfl dX5_copyFrom_17) (xcons (s_getR (f := 0) xC5 (by decide) xw_117 rfl dX5_copyFrom_18) (xcons (s_iconst dX5_copyFrom_21 rfl) (xcons (s_aload_n rfl dX5_copyFrom_22) (xcons (s_getR (f := 0) xC5 (by decide) xw_117 rfl dX5_copyFrom_23) (xcons (s_iconst dX5_copyFrom_26 rfl) (xcons (s_aload_n rfl dX5_copyFrom_27) (xcons (s_getI (f := 3) xC5 (by decide) xw_114 rfl dX5_copyFrom_28) (xcons (s_copy xw_118 xw_60 xw_61 xw_62 dX5_copyFrom_31) (xcons (s_aload_n rfl dX5_copyFrom_34) (xcons (s_getR (f := 1) xC5 (by decide) xw_119 rfl dX5_copyFrom_35) (xcons (s_iconst dX5_copyFrom_38 rfl) (xnil))))))))))))))))))))
theorem dX5_copyFrom_39 : decode cX5_copyFrom 39 = .ok (.aload_n 0, 1) := by decide +kernel
theorem dX5_copyFrom_40 : decode cX5_copyFrom 40 = .ok (.getfield 15, 3) := by decide +kernel
theorem dX5_copyFrom_43 : decode cX5_copyFrom 43 = .ok (.iconst 0, 1) := by decide +kernel
theorem dX5_copyFrom_44 : decode cX5_copyFrom 44 = .ok (.aload_n 0, 1) := by decide +kernel
theorem dX5_copyFrom_45 : decode cX5_copyFrom 45 = .ok (.getfield 21, 3) := by decide +kernel
theorem dX5_copyFrom_48 : decode cX5_copyFrom 48 = .ok (.invokestatic 38, 3) := by decide +kernel
theorem dX5_copyFrom_51 : decode cX5_copyFrom 51 = .ok (.aload_n 1, 1) := by decide +kernel
theorem dX5_copyFrom_52 : decode cX5_copyFrom 52 = .ok (.getfield 18, 3) := by decide +kernel
theorem dX5_copyFrom_55 : decode cX5_copyFrom 55 = .ok (.iconst 0, 1) := by decide +kernel
theorem dX5_copyFrom_56 : decode cX5_copyFrom 56 = .ok (.aload_n 0, 1) := by decide +kernel
theorem dX5_copyFrom_57 : decode cX5_copyFrom 57 = .ok (.getfield 18, 3) := by decide +kernel
theorem dX5_copyFrom_60 : decode cX5_copyFrom 60 = .ok (.iconst 0, 1) := by decide +kernel
theorem dX5_copyFrom_61 : decode cX5_copyFrom 61 = .ok (.aload_n 0, 1) := by decide +kernel
theorem dX5_copyFrom_62 : decode cX5_copyFrom 62 = .ok (.getfield 21, 3) := by decide +kernel
theorem dX5_copyFrom_65 : decode cX5_copyFrom 65 = .ok (.invokestatic 38, 3) := by decide +kernel
theorem dX5_copyFrom_68 : decode cX5_copyFrom 68 = .ok (.return_, 1) := by decide +kernel
def k30_1 : List (Nat × XI) := [(39, x_aload 0 40), (40, x_getR 5 1 43), (43, x_push (0) 44), (44, x_aload 0 45), (45, x_getI 5 3 48), (48, x_copy 51), (51, x_aload 1 52), (52, x_getR 5 2 55), (55, x_push (0) 56), (56, x_aload 0 57), (57, x_getR 5 2 60), (60, x_push (0) 61), (61, x_aload 0 62), (62, x_getI 5 3 65), (65, x_copy 68), (68, x_ret)]
theorem o30_1 (scr : Nat × (Nat → Int32)) : ∀ q ∈ k30_1, XSnd xm scr Y30 q.1 q.2 := xcons (s_aload_n rfl dX5_copyFrom_39) (xcons (s_getR (f := 1) xC5 (by decide) xw_119 rfl dX5_copyFrom_40) (xcons (s_iconst dX5_copyFrom_43 rfl) (xcons (s_aload_n rfl dX5_copyFrom_44) (xcons (s_getI (f := 3) xC5 (by decide) xw_114 rfl dX5_copyFrom_45) (xcons (s_copy xw_118 xw_60 xw_61 xw_62 dX5_copyFrom_48) (xcons (s_aload_n rfl dX5_copyFrom_51) (xcons (s_getR (f := 2) xC5 (by decide) xw_120 rfl dX5_copyFrom_52) (xcons (s_iconst dX5_copyFrom_55 rfl) (xcons (s_aload_n rfl dX5_copyFrom_56) (xcons (s_getR (f := 2) xC5 (by decide) xw_120 rfl dX5_copyFrom_57) (xcons (s_iconst dX5_copyFrom_60 rfl) (xcons (s_aload_n rfl dX5_copyFrom_61) (xcons (s_getI (f := 3) xC5 (by decide) xw_114 rfl dX5_copyFrom_62) (xcons (s_copy xw_118 xw_60 xw_61 xw_62 dX5_copyFrom_65) (xcons (s_ret dX5_copyFrom_68 rfl) (xnil))))))))))))))))
def k30 (pc : Nat) : XI := if pc < 39 then xlk k30_0 pc else xlk k30_1 pc
theorem o30 (scr : Nat × (Nat → Int32)) (pc : Nat) : XSnd xm scr Y30 pc (k30 pc) := by
  unfold k30
  exact xite (xlk_ok (o30_0 scr) pc) (xlk_ok (o30_1 scr) pc)
theorem dX5_countOf_0 : decode cX5_countOf 0 = .ok (.iconst 0, 1) := by decide +kernel
theorem dX5_countOf_1 : decode cX5_countOf 1 = .ok (.istore_n 2, 1) := by decide +kernel
theorem dX5_countOf_2 : decode cX5_countOf 2 = .ok (.iconst 0, 1) := by decide +kernel
theorem dX5_countOf_3 : decode cX5_countOf 3 = .ok (.istore_n 3, 1) := by decide +kernel
theorem dX5_countOf_4 : decode cX5_countOf 4 = .ok (.iload_n 3, 1) := by decide +kernel
theorem dX5_countOf_5 : decode cX5_countOf 5 = .ok (.aload_n 0, 1) := by decide +kernel
theorem dX5_countOf_6 : decode cX5_countOf 6 = .ok (.getfield 21, 3) := by decide +kernel
theorem dX5_countOf_9 : decode cX5_countOf 9 = .ok (.if_icmp .ge 33, 3) := by decide +kernel
theorem dX5_countOf_12 : decode cX5_countOf 12 = .ok (.iload_n 3, 1) := by decide +kernel
theorem dX5_countOf_13 : decode cX5_countOf 13 = .ok (.bipush 10, 2) := by decide +kernel
theorem dX5_countOf_15 : decode cX5_countOf 15 = .ok (.if_icmp .ge 27, 3) := by decide +kernel
theorem dX5_countOf_18 : decode cX5_countOf 18 = .ok (.iload_n 2, 1) := by decide +kernel
theorem dX5_countOf_19 : decode cX5_countOf 19 = .ok (.aload_n 0, 1) := by decide +kernel
theorem dX5_countOf_20 : decode cX5_countOf 20 = .ok (.getfield 9, 3) := by decide +kernel
theorem dX5_countOf_23 : decode cX5_countOf 23 = .ok (.iload_n 3, 1) := by decide +kernel
theorem dX5_countOf_24 : decode cX5_countOf 24 = .ok (.iaload, 1) := by decide +kernel
theorem dX5_countOf_25 : decode cX5_countOf 25 = .ok (.iload_n 1, 1) := by decide +kernel
theorem dX5_countOf_26 : decode cX5_countOf 26 = .ok (.if_icmp .ne 7, 3) := by decide +kernel
theorem dX5_countOf_29 : decode cX5_countOf 29 = .ok (.iconst 1, 1) := by decide +kernel
theorem dX5_countOf_30 : decode cX5_countOf 30 = .ok (.goto 4, 3) := by decide +kernel
def k31_0 : List (Nat × XI) := [(0, x_push (0) 1), (1, x_istore 2 2), (2, x_push (0) 3), (3, x_istore 3 4), (4, x_iload 3 5), (5, x_aload 0 6), (6, x_getI 5 3 9), (9, x_icge 42 12), (12, x_iload 3 13), (13, x_push (10) 15), (15, x_icge 42 18), (18, x_iload 2 19), (19, x_aload 0 20), (20, x_getR 5 0 23), (23, x_iload 3 24), (24, x_iald 25), (25, x_iload 1 26), (26, x_icne 33 29), (29, x_push (1) 30), (30, x_goto 34)]
theorem o31_0 (scr : Nat × (Nat → Int32)) : ∀ q ∈ k31_0, XSnd xm scr Y31 q.1 q.2 := xcons (s_iconst dX5_countOf_0 rfl) (xcons (s_istore_n rfl dX5_countOf_1 (by decide)) (xcons (s_iconst dX5_countOf_2 rfl) (xcons (s_istore_n rfl dX5_countOf_3 (by decide)) (xcons (s_iload_n rfl dX5_countOf_4) (xcons (s_aload_n rfl dX5_countOf_5) (xcons (s_getI (f := 3) xC5 (by decide) xw_114 rfl dX5_countOf_6) (xcons (s_icge dX5_countOf_9 rfl) (xcons (s_iload_n rfl dX5_countOf_12) (xcons (s_bipush dX5_countOf_13 rfl) (xcons (s_icge dX5_countOf_15 rfl) (xcons (s_iload_n rfl dX5_countOf_18) (xcons (s_aload_n rfl dX5_countOf_19) (xcons (s_getR (f := 0) xC5 (by decide) xw_117 rfl dX5_countOf_20) (xcons (s_iload_n rfl dX5_countOf_23) (xcons (s_iald dX5_countOf_24) (xcons (s_iload_n rfl dX5_countOf_25) (xcons (s_icne dX5_countOf_26 rfl) (xcons (s_iconst dX5_countOf_29 rfl) (xcons (s_goto dX5_countOf_30 rfl) (xnil))))))))))))))))))))
theorem dX5_countOf_33 : decode cX5_countOf 33 = .ok (.iconst 0, 1) := by decide +kernel
theorem dX5_countOf_34 : decode cX5_countOf 34 = .ok (.iadd, 1) := by decide +kernel
theorem dX5_countOf_35 : decode cX5_countOf 35 = .ok (.istore_n 2, 1) := by decide +kernel
theorem dX5_countOf_36 : decode cX5_countOf 36 = .ok (.iinc 3 1, 3) := by decide +kernel
theorem dX5_countOf_39 : decode cX5_countOf 39 = .ok (.goto (-35), 3) := by decide +kernel
theorem dX5_countOf_42 : decode cX5_countOf 42 = .ok (.iload_n 2, 1) := by decide +kernel
theorem dX5_countOf_43 : decode cX5_countOf 43 = .ok (.ireturn, 1) := by decide +kernel
def k31_1 : List (Nat × XI) := [(33, x_push (0) 34), (34, x_iadd 35), (35, x_istore 2 36), (36, x_iinc 3 (1) 39), (39, x_goto 4), (42, x_iload 2 43), (43, x_iret)]
theorem o31_1 (scr : Nat × (Nat → Int32)) : ∀ q ∈ k31_1, XSnd xm scr Y31 q.1 q.2 := xcons (s_iconst dX5_countOf_33 rfl) (xcons (s_iadd dX5_countOf_34) (xcons (s_istore_n rfl dX5_countOf_35 (by decide)) (xcons (s_iinc dX5_countOf_36 rfl (by decide)) (xcons (s_goto dX5_countOf_39 rfl) (xcons (s_iload_n rfl dX5_countOf_42) (xcons (s_iret dX5_countOf_43 rfl) (xnil)))))))
def k31 (pc : Nat) : XI := if pc < 33 then xlk k31_0 pc else xlk k31_1 pc
theorem o31 (scr : Nat × (Nat → Int32)) (pc : Nat) : XSnd xm scr Y31 pc (k31 pc) := by
  unfold k31
  exact xite (xlk_ok (o31_0 scr) pc) (xlk_ok (o31_1 scr) pc)
theorem dX5_dueAt_0 : decode cX5_dueAt 0 = .ok (.iload_n 1, 1) := by decide +kernel
theorem dX5_dueAt_1 : decode cX5_dueAt 1 = .ok (.ifCond .lt 21, 3) := by decide +kernel
theorem dX5_dueAt_4 : decode cX5_dueAt 4 = .ok (.iload_n 1, 1) := by decide +kernel
theorem dX5_dueAt_5 : decode cX5_dueAt 5 = .ok (.aload_n 0, 1) := by decide +kernel
theorem dX5_dueAt_6 : decode cX5_dueAt 6 = .ok (.getfield 15, 3) := by decide +kernel
theorem dX5_dueAt_9 : decode cX5_dueAt 9 = .ok (.arraylength, 1) := by decide +kernel
theorem dX5_dueAt_10 : decode cX5_dueAt 10 = .ok (.if_icmp .ge 12, 3) := by decide +kernel
theorem dX5_dueAt_13 : decode cX5_dueAt 13 = .ok (.aload_n 0, 1) := by decide +kernel
theorem dX5_dueAt_14 : decode cX5_dueAt 14 = .ok (.getfield 15, 3) := by decide +kernel
theorem dX5_dueAt_17 : decode cX5_dueAt 17 = .ok (.iload_n 1, 1) := by decide +kernel
theorem dX5_dueAt_18 : decode cX5_dueAt 18 = .ok (.iaload, 1) := by decide +kernel
theorem dX5_dueAt_19 : decode cX5_dueAt 19 = .ok (.goto 4, 3) := by decide +kernel
theorem dX5_dueAt_22 : decode cX5_dueAt 22 = .ok (.iconst 0, 1) := by decide +kernel
theorem dX5_dueAt_23 : decode cX5_dueAt 23 = .ok (.ireturn, 1) := by decide +kernel
def k32_0 : List (Nat × XI) := [(0, x_iload 1 1), (1, x_iflt 22 4), (4, x_iload 1 5), (5, x_aload 0 6), (6, x_getR 5 1 9), (9, x_len 10), (10, x_icge 22 13), (13, x_aload 0 14), (14, x_getR 5 1 17), (17, x_iload 1 18), (18, x_iald 19), (19, x_goto 23), (22, x_push (0) 23), (23, x_iret)]
theorem o32_0 (scr : Nat × (Nat → Int32)) : ∀ q ∈ k32_0, XSnd xm scr Y32 q.1 q.2 := xcons (s_iload_n rfl dX5_dueAt_0) (xcons (s_iflt dX5_dueAt_1 rfl) (xcons (s_iload_n rfl dX5_dueAt_4) (xcons (s_aload_n rfl dX5_dueAt_5) (xcons (s_getR (f := 1) xC5 (by decide) xw_119 rfl dX5_dueAt_6) (xcons (s_len dX5_dueAt_9) (xcons (s_icge dX5_dueAt_10 rfl) (xcons (s_aload_n rfl dX5_dueAt_13) (xcons (s_getR (f := 1) xC5 (by decide) xw_119 rfl dX5_dueAt_14) (xcons (s_iload_n rfl dX5_dueAt_17) (xcons (s_iald dX5_dueAt_18) (xcons (s_goto dX5_dueAt_19 rfl) (xcons (s_iconst dX5_dueAt_22 rfl) (xcons (s_iret dX5_dueAt_23 rfl) (xnil))))))))))))))
def k32 (pc : Nat) : XI := xlk k32_0 pc
theorem o32 (scr : Nat × (Nat → Int32)) (pc : Nat) : XSnd xm scr Y32 pc (k32 pc) := by
  unfold k32
  exact xlk_ok (o32_0 scr) pc
theorem dX5_init_0 : decode cX5_init 0 = .ok (.aload_n 0, 1) := by decide +kernel
theorem dX5_init_1 : decode cX5_init 1 = .ok (.invokespecial 3, 3) := by decide +kernel
theorem dX5_init_4 : decode cX5_init 4 = .ok (.aload_n 0, 1) := by decide +kernel
theorem dX5_init_5 : decode cX5_init 5 = .ok (.bipush 10, 2) := by decide +kernel
theorem dX5_init_7 : decode cX5_init 7 = .ok (.newarray .int, 2) := by decide +kernel
theorem dX5_init_9 : decode cX5_init 9 = .ok (.putfield 9, 3) := by decide +kernel
theorem dX5_init_12 : decode cX5_init 12 = .ok (.aload_n 0, 1) := by decide +kernel
theorem dX5_init_13 : decode cX5_init 13 = .ok (.bipush 10, 2) := by decide +kernel
theorem dX5_init_15 : decode cX5_init 15 = .ok (.newarray .int, 2) := by decide +kernel
theorem dX5_init_17 : decode cX5_init 17 = .ok (.putfield 15, 3) := by decide +kernel
theorem dX5_init_20 : decode cX5_init 20 = .ok (.aload_n 0, 1) := by decide +kernel
theorem dX5_init_21 : decode cX5_init 21 = .ok (.bipush 10, 2) := by decide +kernel
theorem dX5_init_23 : decode cX5_init 23 = .ok (.newarray .int, 2) := by decide +kernel
theorem dX5_init_25 : decode cX5_init 25 = .ok (.putfield 18, 3) := by decide +kernel
theorem dX5_init_28 : decode cX5_init 28 = .ok (.return_, 1) := by decide +kernel
def k33_0 : List (Nat × XI) := [(0, x_aload 0 1), (1, x_obj 4), (4, x_aload 0 5), (5, x_push (10) 7), (7, x_newI 9), (9, x_putR 5 0 12), (12, x_aload 0 13), (13, x_push (10) 15), (15, x_newI 17), (17, x_putR 5 1 20), (20, x_aload 0 21), (21, x_push (10) 23), (23, x_newI 25), (25, x_putR 5 2 28), (28, x_ret)]
theorem o33_0 (scr : Nat × (Nat → Int32)) : ∀ q ∈ k33_0, XSnd xm scr Y33 q.1 q.2 := xcons (s_aload_n rfl dX5_init_0) (xcons (s_obj xw_121 xw_30 xw_31 dX5_init_1) (xcons (s_aload_n rfl dX5_init_4) (xcons (s_bipush dX5_init_5 rfl) (xcons (s_newI xw_64 dX5_init_7) (xcons (s_putR (f := 0) xC5 (by decide) xw_117 rfl (Or.inr ⟨rfl, rfl, rfl⟩) dX5_init_9) (xcons (s_aload_n rfl dX5_init_12) (xcons (s_bipush dX5_init_13 rfl) (xcons (s_newI xw_64 dX5_init_15) (xcons (s_putR (f := 1) xC5 (by decide) xw_119 rfl (Or.inr ⟨rfl, rfl, rfl⟩) dX5_init_17) (xcons (s_aload_n rfl dX5_init_20) (xcons (s_bipush dX5_init_21 rfl) (xcons (s_newI xw_64 dX5_init_23) (xcons (s_putR (f := 2) xC5 (by decide) xw_120 rfl (Or.inr ⟨rfl, rfl, rfl⟩) dX5_init_25) (xcons (s_ret dX5_init_28 rfl) (xnil)))))))))))))))
def k33 (pc : Nat) : XI := xlk k33_0 pc
theorem o33 (scr : Nat × (Nat → Int32)) (pc : Nat) : XSnd xm scr Y33 pc (k33 pc) := by
  unfold k33
  exact xlk_ok (o33_0 scr) pc
theorem dX5_move_0 : decode cX5_move 0 = .ok (.iload_n 1, 1) := by decide +kernel
theorem dX5_move_1 : decode cX5_move 1 = .ok (.ifCond .lt 55, 3) := by decide +kernel
theorem dX5_move_4 : decode cX5_move 4 = .ok (.iload_n 1, 1) := by decide +kernel
theorem dX5_move_5 : decode cX5_move 5 = .ok (.bipush 10, 2) := by decide +kernel
theorem dX5_move_7 : decode cX5_move 7 = .ok (.if_icmp .ge 49, 3) := by decide +kernel
theorem dX5_move_10 : decode cX5_move 10 = .ok (.iload_n 2, 1) := by decide +kernel
theorem dX5_move_11 : decode cX5_move 11 = .ok (.ifCond .lt 45, 3) := by decide +kernel
theorem dX5_move_14 : decode cX5_move 14 = .ok (.iload_n 2, 1) := by decide +kernel
theorem dX5_move_15 : decode cX5_move 15 = .ok (.bipush 10, 2) := by decide +kernel
theorem dX5_move_17 : decode cX5_move 17 = .ok (.if_icmp .ge 39, 3) := by decide +kernel
theorem dX5_move_20 : decode cX5_move 20 = .ok (.aload_n 0, 1) := by decide +kernel
theorem dX5_move_21 : decode cX5_move 21 = .ok (.getfield 9, 3) := by decide +kernel
theorem dX5_move_24 : decode cX5_move 24 = .ok (.iload_n 2, 1) := by decide +kernel
theorem dX5_move_25 : decode cX5_move 25 = .ok (.aload_n 0, 1) := by decide +kernel
theorem dX5_move_26 : decode cX5_move 26 = .ok (.getfield 9, 3) := by decide +kernel
theorem dX5_move_29 : decode cX5_move 29 = .ok (.iload_n 1, 1) := by decide +kernel
theorem dX5_move_30 : decode cX5_move 30 = .ok (.iaload, 1) := by decide +kernel
theorem dX5_move_31 : decode cX5_move 31 = .ok (.iastore, 1) := by decide +kernel
theorem dX5_move_32 : decode cX5_move 32 = .ok (.aload_n 0, 1) := by decide +kernel
theorem dX5_move_33 : decode cX5_move 33 = .ok (.getfield 15, 3) := by decide +kernel
def k34_0 : List (Nat × XI) := [(0, x_iload 1 1), (1, x_iflt 56 4), (4, x_iload 1 5), (5, x_push (10) 7), (7, x_icge 56 10), (10, x_iload 2 11), (11, x_iflt 56 14), (14, x_iload 2 15), (15, x_push (10) 17), (17, x_icge 56 20), (20, x_aload 0 21), (21, x_getR 5 0 24), (24, x_iload 2 25), (25, x_aload 0 26), (26, x_getR 5 0 29), (29, x_iload 1 30), (30, x_iald 31), (31, x_iast 32), (32, x_aload 0 33), (33, x_getR 5 1 36)]
theorem o34_0 (scr : Nat × (Nat → Int32)) : ∀ q ∈ k34_0, XSnd xm scr Y34 q.1 q.2 := xcons (s_iload_n rfl dX5_move_0) (xcons (s_iflt dX5_move_1 rfl) (xcons (s_iload_n rfl dX5_move_4) (xcons (s_bipush dX5_move_5 rfl) (xcons (s_icge dX5_move_7 rfl) (xcons (s_iload_n rfl dX5_move_10) (xcons (s_iflt dX5_move_11 rfl) (xcons (s_iload_n rfl dX5_move_14) (xcons (s_bipush dX5_move_15 rfl) (xcons (s_icge dX5_move_17 rfl) (xcons (s_aload_n rfl dX5_move_20) (xcons (s_getR (f := 0) xC5 (by decide) xw_117 rfl dX5_move_21) (xcons (s_iload_n rfl dX5_move_24) (xcons (s_aload_n rfl dX5_move_25) (xcons (s_getR (f := 0) xC5 (by decide) xw_117 rfl dX5_move_26) (xcons (s_iload_n rfl dX5_move_29) (xcons (s_iald dX5_move_30) (xcons (s_iast dX5_move_31) (xcons (s_aload_n rfl dX5_move_32) (xcons (s_getR (f := 1) xC5 (by decide) xw_119 rfl dX5_move_33) (xnil))))))))))))))))))))
theorem dX5_move_36 : decode cX5_move 36 = .ok (.iload_n 2, 1) := by decide +kernel
theorem dX5_move_37 : decode cX5_move 37 = .ok (.aload_n 0, 1) := by decide +kernel
theorem dX5_move_38 : decode cX5_move 38 = .ok (.getfield 15, 3) := by decide +kernel
theorem dX5_move_41 : decode cX5_move 41 = .ok (.iload_n 1, 1) := by decide +kernel
theorem dX5_move_42 : decode cX5_move 42 = .ok (.iaload, 1) := by decide +kernel
theorem dX5_move_43 : decode cX5_move 43 = .ok (.iastore, 1) := by decide +kernel
theorem dX5_move_44 : decode cX5_move 44 = .ok (.aload_n 0, 1) := by decide +kernel
theorem dX5_move_45 : decode cX5_move 45 = .ok (.getfield 18, 3) := by decide +kernel
theorem dX5_move_48 : decode cX5_move 48 = .ok (.iload_n 2, 1) := by decide +kernel
theorem dX5_move_49 : decode cX5_move 49 = .ok (.aload_n 0, 1) := by decide +kernel
theorem dX5_move_50 : decode cX5_move 50 = .ok (.getfield 18, 3) := by decide +kernel
theorem dX5_move_53 : decode cX5_move 53 = .ok (.iload_n 1, 1) := by decide +kernel
theorem dX5_move_54 : decode cX5_move 54 = .ok (.iaload, 1) := by decide +kernel
theorem dX5_move_55 : decode cX5_move 55 = .ok (.iastore, 1) := by decide +kernel
theorem dX5_move_56 : decode cX5_move 56 = .ok (.return_, 1) := by decide +kernel
def k34_1 : List (Nat × XI) := [(36, x_iload 2 37), (37, x_aload 0 38), (38, x_getR 5 1 41), (41, x_iload 1 42), (42, x_iald 43), (43, x_iast 44), (44, x_aload 0 45), (45, x_getR 5 2 48), (48, x_iload 2 49), (49, x_aload 0 50), (50, x_getR 5 2 53), (53, x_iload 1 54), (54, x_iald 55), (55, x_iast 56), (56, x_ret)]
theorem o34_1 (scr : Nat × (Nat → Int32)) : ∀ q ∈ k34_1, XSnd xm scr Y34 q.1 q.2 := xcons (s_iload_n rfl dX5_move_36) (xcons (s_aload_n rfl dX5_move_37) (xcons (s_getR (f := 1) xC5 (by decide) xw_119 rfl dX5_move_38) (xcons (s_iload_n rfl dX5_move_41) (xcons (s_iald dX5_move_42) (xcons (s_iast dX5_move_43) (xcons (s_aload_n rfl dX5_move_44) (xcons (s_getR (f := 2) xC5 (by decide) xw_120 rfl dX5_move_45) (xcons (s_iload_n rfl dX5_move_48) (xcons (s_aload_n rfl dX5_move_49) (xcons (s_getR (f := 2) xC5 (by decide) xw_120 rfl dX5_move_50) (xcons (s_iload_n rfl dX5_move_53) (xcons (s_iald dX5_move_54) (xcons (s_iast dX5_move_55) (xcons (s_ret dX5_move_56 rfl) (xnil)))))))))))))))
def k34 (pc : Nat) : XI := if pc < 36 then xlk k34_0 pc else xlk k34_1 pc
theorem o34 (scr : Nat × (Nat → Int32)) (pc : Nat) : XSnd xm scr Y34 pc (k34 pc) := by
  unfold k34
  exact xite (xlk_ok (o34_0 scr) pc) (xlk_ok (o34_1 scr) pc)
theorem dX5_numberAt_0 : decode cX5_numberAt 0 = .ok (.iload_n 1, 1) := by decide +kernel
theorem dX5_numberAt_1 : decode cX5_numberAt 1 = .ok (.ifCond .lt 21, 3) := by decide +kernel
theorem dX5_numberAt_4 : decode cX5_numberAt 4 = .ok (.iload_n 1, 1) := by decide +kernel
theorem dX5_numberAt_5 : decode cX5_numberAt 5 = .ok (.aload_n 0, 1) := by decide +kernel
theorem dX5_numberAt_6 : decode cX5_numberAt 6 = .ok (.getfield 18, 3) := by decide +kernel
theorem dX5_numberAt_9 : decode cX5_numberAt 9 = .ok (.arraylength, 1) := by decide +kernel
theorem dX5_numberAt_10 : decode cX5_numberAt 10 = .ok (.if_icmp .ge 12, 3) := by decide +kernel
theorem dX5_numberAt_13 : decode cX5_numberAt 13 = .ok (.aload_n 0, 1) := by decide +kernel
theorem dX5_numberAt_14 : decode cX5_numberAt 14 = .ok (.getfield 18, 3) := by decide +kernel
theorem dX5_numberAt_17 : decode cX5_numberAt 17 = .ok (.iload_n 1, 1) := by decide +kernel
theorem dX5_numberAt_18 : decode cX5_numberAt 18 = .ok (.iaload, 1) := by decide +kernel
theorem dX5_numberAt_19 : decode cX5_numberAt 19 = .ok (.goto 4, 3) := by decide +kernel
theorem dX5_numberAt_22 : decode cX5_numberAt 22 = .ok (.iconst 0, 1) := by decide +kernel
theorem dX5_numberAt_23 : decode cX5_numberAt 23 = .ok (.ireturn, 1) := by decide +kernel
def k35_0 : List (Nat × XI) := [(0, x_iload 1 1), (1, x_iflt 22 4), (4, x_iload 1 5), (5, x_aload 0 6), (6, x_getR 5 2 9), (9, x_len 10), (10, x_icge 22 13), (13, x_aload 0 14), (14, x_getR 5 2 17), (17, x_iload 1 18), (18, x_iald 19), (19, x_goto 23), (22, x_push (0) 23), (23, x_iret)]
theorem o35_0 (scr : Nat × (Nat → Int32)) : ∀ q ∈ k35_0, XSnd xm scr Y35 q.1 q.2 := xcons (s_iload_n rfl dX5_numberAt_0) (xcons (s_iflt dX5_numberAt_1 rfl) (xcons (s_iload_n rfl dX5_numberAt_4) (xcons (s_aload_n rfl dX5_numberAt_5) (xcons (s_getR (f := 2) xC5 (by decide) xw_120 rfl dX5_numberAt_6) (xcons (s_len dX5_numberAt_9) (xcons (s_icge dX5_numberAt_10 rfl) (xcons (s_aload_n rfl dX5_numberAt_13) (xcons (s_getR (f := 2) xC5 (by decide) xw_120 rfl dX5_numberAt_14) (xcons (s_iload_n rfl dX5_numberAt_17) (xcons (s_iald dX5_numberAt_18) (xcons (s_goto dX5_numberAt_19 rfl) (xcons (s_iconst dX5_numberAt_22 rfl) (xcons (s_iret dX5_numberAt_23 rfl) (xnil))))))))))))))
def k35 (pc : Nat) : XI := xlk k35_0 pc
theorem o35 (scr : Nat × (Nat → Int32)) (pc : Nat) : XSnd xm scr Y35 pc (k35 pc) := by
  unfold k35
  exact xlk_ok (o35_0 scr) pc
theorem dX5_ownerAt_0 : decode cX5_ownerAt 0 = .ok (.iload_n 1, 1) := by decide +kernel
theorem dX5_ownerAt_1 : decode cX5_ownerAt 1 = .ok (.ifCond .lt 21, 3) := by decide +kernel
theorem dX5_ownerAt_4 : decode cX5_ownerAt 4 = .ok (.iload_n 1, 1) := by decide +kernel
theorem dX5_ownerAt_5 : decode cX5_ownerAt 5 = .ok (.aload_n 0, 1) := by decide +kernel
theorem dX5_ownerAt_6 : decode cX5_ownerAt 6 = .ok (.getfield 9, 3) := by decide +kernel
theorem dX5_ownerAt_9 : decode cX5_ownerAt 9 = .ok (.arraylength, 1) := by decide +kernel
theorem dX5_ownerAt_10 : decode cX5_ownerAt 10 = .ok (.if_icmp .ge 12, 3) := by decide +kernel
theorem dX5_ownerAt_13 : decode cX5_ownerAt 13 = .ok (.aload_n 0, 1) := by decide +kernel
theorem dX5_ownerAt_14 : decode cX5_ownerAt 14 = .ok (.getfield 9, 3) := by decide +kernel
theorem dX5_ownerAt_17 : decode cX5_ownerAt 17 = .ok (.iload_n 1, 1) := by decide +kernel
theorem dX5_ownerAt_18 : decode cX5_ownerAt 18 = .ok (.iaload, 1) := by decide +kernel
theorem dX5_ownerAt_19 : decode cX5_ownerAt 19 = .ok (.goto 4, 3) := by decide +kernel
theorem dX5_ownerAt_22 : decode cX5_ownerAt 22 = .ok (.iconst (-1), 1) := by decide +kernel
theorem dX5_ownerAt_23 : decode cX5_ownerAt 23 = .ok (.ireturn, 1) := by decide +kernel
def k36_0 : List (Nat × XI) := [(0, x_iload 1 1), (1, x_iflt 22 4), (4, x_iload 1 5), (5, x_aload 0 6), (6, x_getR 5 0 9), (9, x_len 10), (10, x_icge 22 13), (13, x_aload 0 14), (14, x_getR 5 0 17), (17, x_iload 1 18), (18, x_iald 19), (19, x_goto 23), (22, x_push (-1) 23), (23, x_iret)]
theorem o36_0 (scr : Nat × (Nat → Int32)) : ∀ q ∈ k36_0, XSnd xm scr Y36 q.1 q.2 := xcons (s_iload_n rfl dX5_ownerAt_0) (xcons (s_iflt dX5_ownerAt_1 rfl) (xcons (s_iload_n rfl dX5_ownerAt_4) (xcons (s_aload_n rfl dX5_ownerAt_5) (xcons (s_getR (f := 0) xC5 (by decide) xw_117 rfl dX5_ownerAt_6) (xcons (s_len dX5_ownerAt_9) (xcons (s_icge dX5_ownerAt_10 rfl) (xcons (s_aload_n rfl dX5_ownerAt_13) (xcons (s_getR (f := 0) xC5 (by decide) xw_117 rfl dX5_ownerAt_14) (xcons (s_iload_n rfl dX5_ownerAt_17) (xcons (s_iald dX5_ownerAt_18) (xcons (s_goto dX5_ownerAt_19 rfl) (xcons (s_iconst dX5_ownerAt_22 rfl) (xcons (s_iret dX5_ownerAt_23 rfl) (xnil))))))))))))))
def k36 (pc : Nat) : XI := xlk k36_0 pc
theorem o36 (scr : Nat × (Nat → Int32)) (pc : Nat) : XSnd xm scr Y36 pc (k36 pc) := by
  unfold k36
  exact xlk_ok (o36_0 scr) pc
