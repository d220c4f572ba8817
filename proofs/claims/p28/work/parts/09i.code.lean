/-! 09i: the code, instruction by instruction -/
set_option maxRecDepth 20000 in
theorem gL_law_0 : decode cL_law 0 = .ok (.new 7, 3) ∧ decode cL_law 3 = .ok (.dup, 1) ∧ decode cL_law 4 = .ok (.invokespecial 9, 3) ∧ decode cL_law 7 = .ok (.astore_n 1, 1) ∧ decode cL_law 8 = .ok (.new 10, 3) ∧ decode cL_law 11 = .ok (.dup, 1) ∧ decode cL_law 12 = .ok (.invokespecial 12, 3) := by decide +kernel
theorem dL_law_0 : decode cL_law 0 = .ok (.new 7, 3) := gL_law_0.1
theorem dL_law_3 : decode cL_law 3 = .ok (.dup, 1) := gL_law_0.2.1
theorem dL_law_4 : decode cL_law 4 = .ok (.invokespecial 9, 3) := gL_law_0.2.2.1
theorem dL_law_7 : decode cL_law 7 = .ok (.astore_n 1, 1) := gL_law_0.2.2.2.1
theorem dL_law_8 : decode cL_law 8 = .ok (.new 10, 3) := gL_law_0.2.2.2.2.1
theorem dL_law_11 : decode cL_law 11 = .ok (.dup, 1) := gL_law_0.2.2.2.2.2.1
theorem dL_law_12 : decode cL_law 12 = .ok (.invokespecial 12, 3) := gL_law_0.2.2.2.2.2.2
set_option maxRecDepth 20000 in
theorem gL_law_15 : decode cL_law 15 = .ok (.astore_n 2, 1) ∧ decode cL_law 16 = .ok (.iconst 0, 1) ∧ decode cL_law 17 = .ok (.istore_n 3, 1) ∧ decode cL_law 18 = .ok (.iload_n 3, 1) ∧ decode cL_law 19 = .ok (.aload_n 0, 1) ∧ decode cL_law 20 = .ok (.arraylength, 1) ∧ decode cL_law 21 = .ok (.iconst 4, 1) := by decide +kernel
theorem dL_law_15 : decode cL_law 15 = .ok (.astore_n 2, 1) := gL_law_15.1
theorem dL_law_16 : decode cL_law 16 = .ok (.iconst 0, 1) := gL_law_15.2.1
theorem dL_law_17 : decode cL_law 17 = .ok (.istore_n 3, 1) := gL_law_15.2.2.1
theorem dL_law_18 : decode cL_law 18 = .ok (.iload_n 3, 1) := gL_law_15.2.2.2.1
theorem dL_law_19 : decode cL_law 19 = .ok (.aload_n 0, 1) := gL_law_15.2.2.2.2.1
theorem dL_law_20 : decode cL_law 20 = .ok (.arraylength, 1) := gL_law_15.2.2.2.2.2.1
theorem dL_law_21 : decode cL_law 21 = .ok (.iconst 4, 1) := gL_law_15.2.2.2.2.2.2
set_option maxRecDepth 20000 in
theorem gL_law_22 : decode cL_law 22 = .ok (.isub, 1) ∧ decode cL_law 23 = .ok (.if_icmp .gt 1107, 3) ∧ decode cL_law 26 = .ok (.aload_n 0, 1) ∧ decode cL_law 27 = .ok (.iload_n 3, 1) ∧ decode cL_law 28 = .ok (.iaload, 1) ∧ decode cL_law 29 = .ok (.bipush 31, 2) := by decide +kernel
theorem dL_law_22 : decode cL_law 22 = .ok (.isub, 1) := gL_law_22.1
theorem dL_law_23 : decode cL_law 23 = .ok (.if_icmp .gt 1107, 3) := gL_law_22.2.1
theorem dL_law_26 : decode cL_law 26 = .ok (.aload_n 0, 1) := gL_law_22.2.2.1
theorem dL_law_27 : decode cL_law 27 = .ok (.iload_n 3, 1) := gL_law_22.2.2.2.1
theorem dL_law_28 : decode cL_law 28 = .ok (.iaload, 1) := gL_law_22.2.2.2.2.1
theorem dL_law_29 : decode cL_law 29 = .ok (.bipush 31, 2) := gL_law_22.2.2.2.2.2
def k190_0 (scr : Nat × (Nat → Int32)) : List (Nat × XI) := [(0, x_new 7 3), (3, x_dup 4), (4, x_inv 83 7 0 7), (7, x_astore 1 8), (8, x_new 8 11), (11, x_dup 12), (12, x_inv 135 8 0 15), (15, x_astore 2 16), (16, x_push (0) 17), (17, x_istore 3 18), (18, x_iload 3 19), (19, x_aload 0 20), (20, x_slen scr 21), (21, x_push (4) 22), (22, x_isub 23), (23, x_icgt 1130 26), (26, x_aload 0 27), (27, x_iload 3 28), (28, x_sld scr 29), (29, x_push (31) 31)]
theorem o190_0 (scr : Nat × (Nat → Int32)) : ∀ q ∈ k190_0 scr, XSnd xm scr Y190 q.1 q.2 := xcons (s_new xC7 xw_694 xw_695 xw_377 (by decide +kernel) dL_law_0) (xcons (s_dup dL_law_3) (xcons (s_init (mid := 83) xC7 cal_83 rfl rfl xw_697 xw_698 dL_law_4) (xcons (s_astore_n rfl dL_law_7 (by decide)) (xcons (s_new xC8 xw_699 xw_700 xw_466 (by decide +kernel) dL_law_8) (xcons (s_dup dL_law_11) (xcons (s_init (mid := 135) xC8 cal_135 rfl rfl xw_702 xw_703 dL_law_12) (xcons (s_astore_n rfl dL_law_15 (by decide)) (xcons (s_iconst dL_law_16 rfl) (xcons (s_istore_n rfl dL_law_17 (by decide)) (xcons (s_iload_n rfl dL_law_18) (xcons (s_aload_n rfl dL_law_19) (xcons (s_slen rfl dL_law_20) (xcons (s_iconst dL_law_21 rfl) (xcons (s_isub dL_law_22) (xcons (s_icgt dL_law_23 rfl) (xcons (s_aload_n rfl dL_law_26) (xcons (s_iload_n rfl dL_law_27) (xcons (s_sld rfl dL_law_28) (xcons (s_bipush dL_law_29 rfl) (xnil))))))))))))))))))))
set_option maxRecDepth 20000 in
theorem gL_law_31 : decode cL_law 31 = .ok (.iand, 1) ∧ decode cL_law 32 = .ok (.tableswitch 1092 0 31 #[144, 187, 230, 263, 286, 345, 404, 437, 470, 503, 526, 549, 562, 585, 618, 651, 664, 677, 720, 753, 786, 809, 822, 845, 868, 901, 914, 927, 960, 993, 1036, 1069], 144) ∧ decode cL_law 176 = .ok (.aload_n 1, 1) ∧ decode cL_law 177 = .ok (.aload_n 0, 1) ∧ decode cL_law 178 = .ok (.iload_n 3, 1) ∧ decode cL_law 179 = .ok (.iconst 1, 1) ∧ decode cL_law 180 = .ok (.iadd, 1) := by decide +kernel
theorem dL_law_31 : decode cL_law 31 = .ok (.iand, 1) := gL_law_31.1
theorem dL_law_32 : decode cL_law 32 = .ok (.tableswitch 1092 0 31 #[144, 187, 230, 263, 286, 345, 404, 437, 470, 503, 526, 549, 562, 585, 618, 651, 664, 677, 720, 753, 786, 809, 822, 845, 868, 901, 914, 927, 960, 993, 1036, 1069], 144) := gL_law_31.2.1
theorem dL_law_176 : decode cL_law 176 = .ok (.aload_n 1, 1) := gL_law_31.2.2.1
theorem dL_law_177 : decode cL_law 177 = .ok (.aload_n 0, 1) := gL_law_31.2.2.2.1
theorem dL_law_178 : decode cL_law 178 = .ok (.iload_n 3, 1) := gL_law_31.2.2.2.2.1
theorem dL_law_179 : decode cL_law 179 = .ok (.iconst 1, 1) := gL_law_31.2.2.2.2.2.1
theorem dL_law_180 : decode cL_law 180 = .ok (.iadd, 1) := gL_law_31.2.2.2.2.2.2
set_option maxRecDepth 20000 in
theorem gL_law_181 : decode cL_law 181 = .ok (.iaload, 1) ∧ decode cL_law 182 = .ok (.aload_n 0, 1) ∧ decode cL_law 183 = .ok (.iload_n 3, 1) ∧ decode cL_law 184 = .ok (.iconst 2, 1) ∧ decode cL_law 185 = .ok (.iadd, 1) ∧ decode cL_law 186 = .ok (.iaload, 1) ∧ decode cL_law 187 = .ok (.aload_n 0, 1) := by decide +kernel
theorem dL_law_181 : decode cL_law 181 = .ok (.iaload, 1) := gL_law_181.1
theorem dL_law_182 : decode cL_law 182 = .ok (.aload_n 0, 1) := gL_law_181.2.1
theorem dL_law_183 : decode cL_law 183 = .ok (.iload_n 3, 1) := gL_law_181.2.2.1
theorem dL_law_184 : decode cL_law 184 = .ok (.iconst 2, 1) := gL_law_181.2.2.2.1
theorem dL_law_185 : decode cL_law 185 = .ok (.iadd, 1) := gL_law_181.2.2.2.2.1
theorem dL_law_186 : decode cL_law 186 = .ok (.iaload, 1) := gL_law_181.2.2.2.2.2.1
theorem dL_law_187 : decode cL_law 187 = .ok (.aload_n 0, 1) := gL_law_181.2.2.2.2.2.2
set_option maxRecDepth 20000 in
theorem gL_law_188 : decode cL_law 188 = .ok (.iload_n 3, 1) ∧ decode cL_law 189 = .ok (.iconst 3, 1) ∧ decode cL_law 190 = .ok (.iadd, 1) ∧ decode cL_law 191 = .ok (.iaload, 1) ∧ decode cL_law 192 = .ok (.invokevirtual 13, 3) ∧ decode cL_law 195 = .ok (.pop, 1) := by decide +kernel
theorem dL_law_188 : decode cL_law 188 = .ok (.iload_n 3, 1) := gL_law_188.1
theorem dL_law_189 : decode cL_law 189 = .ok (.iconst 3, 1) := gL_law_188.2.1
theorem dL_law_190 : decode cL_law 190 = .ok (.iadd, 1) := gL_law_188.2.2.1
theorem dL_law_191 : decode cL_law 191 = .ok (.iaload, 1) := gL_law_188.2.2.2.1
theorem dL_law_192 : decode cL_law 192 = .ok (.invokevirtual 13, 3) := gL_law_188.2.2.2.2.1
theorem dL_law_195 : decode cL_law 195 = .ok (.pop, 1) := gL_law_188.2.2.2.2.2
def k190_1 (scr : Nat × (Nat → Int32)) : List (Nat × XI) := [(31, x_iand 32), (32, x_tsw (0) (31) [176, 219, 262, 295, 318, 377, 436, 469, 502, 535, 558, 581, 594, 617, 650, 683, 696, 709, 752, 785, 818, 841, 854, 877, 900, 933, 946, 959, 992, 1025, 1068, 1101] 1124), (176, x_aload 1 177), (177, x_aload 0 178), (178, x_iload 3 179), (179, x_push (1) 180), (180, x_iadd 181), (181, x_sld scr 182), (182, x_aload 0 183), (183, x_iload 3 184), (184, x_push (2) 185), (185, x_iadd 186), (186, x_sld scr 187), (187, x_aload 0 188), (188, x_iload 3 189), (189, x_push (3) 190), (190, x_iadd 191), (191, x_sld scr 192), (192, x_inv 68 7 3 195), (195, x_pop 196)]
theorem o190_1 (scr : Nat × (Nat → Int32)) : ∀ q ∈ k190_1 scr, XSnd xm scr Y190 q.1 q.2 := xcons (s_iand dL_law_31) (xcons (s_tsw dL_law_32 rfl rfl) (xcons (s_aload_n rfl dL_law_176) (xcons (s_aload_n rfl dL_law_177) (xcons (s_iload_n rfl dL_law_178) (xcons (s_iconst dL_law_179 rfl) (xcons (s_iadd dL_law_180) (xcons (s_sld rfl dL_law_181) (xcons (s_aload_n rfl dL_law_182) (xcons (s_iload_n rfl dL_law_183) (xcons (s_iconst dL_law_184 rfl) (xcons (s_iadd dL_law_185) (xcons (s_sld rfl dL_law_186) (xcons (s_aload_n rfl dL_law_187) (xcons (s_iload_n rfl dL_law_188) (xcons (s_iconst dL_law_189 rfl) (xcons (s_iadd dL_law_190) (xcons (s_sld rfl dL_law_191) (xcons (s_inv (mid := 68) xC7 cal_68 xw_705 xw_706 xw_707 dL_law_192) (xcons (s_pop dL_law_195) (xnil))))))))))))))))))))
set_option maxRecDepth 20000 in
theorem gL_law_196 : decode cL_law 196 = .ok (.aload_n 2, 1) ∧ decode cL_law 197 = .ok (.aload_n 0, 1) ∧ decode cL_law 198 = .ok (.iload_n 3, 1) ∧ decode cL_law 199 = .ok (.iconst 1, 1) ∧ decode cL_law 200 = .ok (.iadd, 1) ∧ decode cL_law 201 = .ok (.iaload, 1) ∧ decode cL_law 202 = .ok (.aload_n 0, 1) := by decide +kernel
theorem dL_law_196 : decode cL_law 196 = .ok (.aload_n 2, 1) := gL_law_196.1
theorem dL_law_197 : decode cL_law 197 = .ok (.aload_n 0, 1) := gL_law_196.2.1
theorem dL_law_198 : decode cL_law 198 = .ok (.iload_n 3, 1) := gL_law_196.2.2.1
theorem dL_law_199 : decode cL_law 199 = .ok (.iconst 1, 1) := gL_law_196.2.2.2.1
theorem dL_law_200 : decode cL_law 200 = .ok (.iadd, 1) := gL_law_196.2.2.2.2.1
theorem dL_law_201 : decode cL_law 201 = .ok (.iaload, 1) := gL_law_196.2.2.2.2.2.1
theorem dL_law_202 : decode cL_law 202 = .ok (.aload_n 0, 1) := gL_law_196.2.2.2.2.2.2
set_option maxRecDepth 20000 in
theorem gL_law_203 : decode cL_law 203 = .ok (.iload_n 3, 1) ∧ decode cL_law 204 = .ok (.iconst 2, 1) ∧ decode cL_law 205 = .ok (.iadd, 1) ∧ decode cL_law 206 = .ok (.iaload, 1) ∧ decode cL_law 207 = .ok (.aload_n 0, 1) ∧ decode cL_law 208 = .ok (.iload_n 3, 1) ∧ decode cL_law 209 = .ok (.iconst 3, 1) := by decide +kernel
theorem dL_law_203 : decode cL_law 203 = .ok (.iload_n 3, 1) := gL_law_203.1
theorem dL_law_204 : decode cL_law 204 = .ok (.iconst 2, 1) := gL_law_203.2.1
theorem dL_law_205 : decode cL_law 205 = .ok (.iadd, 1) := gL_law_203.2.2.1
theorem dL_law_206 : decode cL_law 206 = .ok (.iaload, 1) := gL_law_203.2.2.2.1
theorem dL_law_207 : decode cL_law 207 = .ok (.aload_n 0, 1) := gL_law_203.2.2.2.2.1
theorem dL_law_208 : decode cL_law 208 = .ok (.iload_n 3, 1) := gL_law_203.2.2.2.2.2.1
theorem dL_law_209 : decode cL_law 209 = .ok (.iconst 3, 1) := gL_law_203.2.2.2.2.2.2
set_option maxRecDepth 20000 in
theorem gL_law_210 : decode cL_law 210 = .ok (.iadd, 1) ∧ decode cL_law 211 = .ok (.iaload, 1) ∧ decode cL_law 212 = .ok (.invokevirtual 17, 3) ∧ decode cL_law 215 = .ok (.pop, 1) ∧ decode cL_law 216 = .ok (.goto 908, 3) ∧ decode cL_law 219 = .ok (.aload_n 1, 1) := by decide +kernel
theorem dL_law_210 : decode cL_law 210 = .ok (.iadd, 1) := gL_law_210.1
theorem dL_law_211 : decode cL_law 211 = .ok (.iaload, 1) := gL_law_210.2.1
theorem dL_law_212 : decode cL_law 212 = .ok (.invokevirtual 17, 3) := gL_law_210.2.2.1
theorem dL_law_215 : decode cL_law 215 = .ok (.pop, 1) := gL_law_210.2.2.2.1
theorem dL_law_216 : decode cL_law 216 = .ok (.goto 908, 3) := gL_law_210.2.2.2.2.1
theorem dL_law_219 : decode cL_law 219 = .ok (.aload_n 1, 1) := gL_law_210.2.2.2.2.2
def k190_2 (scr : Nat × (Nat → Int32)) : List (Nat × XI) := [(196, x_aload 2 197), (197, x_aload 0 198), (198, x_iload 3 199), (199, x_push (1) 200), (200, x_iadd 201), (201, x_sld scr 202), (202, x_aload 0 203), (203, x_iload 3 204), (204, x_push (2) 205), (205, x_iadd 206), (206, x_sld scr 207), (207, x_aload 0 208), (208, x_iload 3 209), (209, x_push (3) 210), (210, x_iadd 211), (211, x_sld scr 212), (212, x_inv 107 8 3 215), (215, x_pop 216), (216, x_goto 1124), (219, x_aload 1 220)]
theorem o190_2 (scr : Nat × (Nat → Int32)) : ∀ q ∈ k190_2 scr, XSnd xm scr Y190 q.1 q.2 := xcons (s_aload_n rfl dL_law_196) (xcons (s_aload_n rfl dL_law_197) (xcons (s_iload_n rfl dL_law_198) (xcons (s_iconst dL_law_199 rfl) (xcons (s_iadd dL_law_200) (xcons (s_sld rfl dL_law_201) (xcons (s_aload_n rfl dL_law_202) (xcons (s_iload_n rfl dL_law_203) (xcons (s_iconst dL_law_204 rfl) (xcons (s_iadd dL_law_205) (xcons (s_sld rfl dL_law_206) (xcons (s_aload_n rfl dL_law_207) (xcons (s_iload_n rfl dL_law_208) (xcons (s_iconst dL_law_209 rfl) (xcons (s_iadd dL_law_210) (xcons (s_sld rfl dL_law_211) (xcons (s_inv (mid := 107) xC8 cal_107 xw_708 xw_550 xw_551 dL_law_212) (xcons (s_pop dL_law_215) (xcons (s_goto dL_law_216 rfl) (xcons (s_aload_n rfl dL_law_219) (xnil))))))))))))))))))))
set_option maxRecDepth 20000 in
theorem gL_law_220 : decode cL_law 220 = .ok (.aload_n 0, 1) ∧ decode cL_law 221 = .ok (.iload_n 3, 1) ∧ decode cL_law 222 = .ok (.iconst 1, 1) ∧ decode cL_law 223 = .ok (.iadd, 1) ∧ decode cL_law 224 = .ok (.iaload, 1) ∧ decode cL_law 225 = .ok (.aload_n 0, 1) ∧ decode cL_law 226 = .ok (.iload_n 3, 1) := by decide +kernel
theorem dL_law_220 : decode cL_law 220 = .ok (.aload_n 0, 1) := gL_law_220.1
theorem dL_law_221 : decode cL_law 221 = .ok (.iload_n 3, 1) := gL_law_220.2.1
theorem dL_law_222 : decode cL_law 222 = .ok (.iconst 1, 1) := gL_law_220.2.2.1
theorem dL_law_223 : decode cL_law 223 = .ok (.iadd, 1) := gL_law_220.2.2.2.1
theorem dL_law_224 : decode cL_law 224 = .ok (.iaload, 1) := gL_law_220.2.2.2.2.1
theorem dL_law_225 : decode cL_law 225 = .ok (.aload_n 0, 1) := gL_law_220.2.2.2.2.2.1
theorem dL_law_226 : decode cL_law 226 = .ok (.iload_n 3, 1) := gL_law_220.2.2.2.2.2.2
set_option maxRecDepth 20000 in
theorem gL_law_227 : decode cL_law 227 = .ok (.iconst 2, 1) ∧ decode cL_law 228 = .ok (.iadd, 1) ∧ decode cL_law 229 = .ok (.iaload, 1) ∧ decode cL_law 230 = .ok (.aload_n 0, 1) ∧ decode cL_law 231 = .ok (.iload_n 3, 1) ∧ decode cL_law 232 = .ok (.iconst 3, 1) ∧ decode cL_law 233 = .ok (.iadd, 1) := by decide +kernel
theorem dL_law_227 : decode cL_law 227 = .ok (.iconst 2, 1) := gL_law_227.1
theorem dL_law_228 : decode cL_law 228 = .ok (.iadd, 1) := gL_law_227.2.1
theorem dL_law_229 : decode cL_law 229 = .ok (.iaload, 1) := gL_law_227.2.2.1
theorem dL_law_230 : decode cL_law 230 = .ok (.aload_n 0, 1) := gL_law_227.2.2.2.1
theorem dL_law_231 : decode cL_law 231 = .ok (.iload_n 3, 1) := gL_law_227.2.2.2.2.1
theorem dL_law_232 : decode cL_law 232 = .ok (.iconst 3, 1) := gL_law_227.2.2.2.2.2.1
theorem dL_law_233 : decode cL_law 233 = .ok (.iadd, 1) := gL_law_227.2.2.2.2.2.2
set_option maxRecDepth 20000 in
theorem gL_law_234 : decode cL_law 234 = .ok (.iaload, 1) ∧ decode cL_law 235 = .ok (.invokevirtual 18, 3) ∧ decode cL_law 238 = .ok (.pop, 1) ∧ decode cL_law 239 = .ok (.aload_n 2, 1) ∧ decode cL_law 240 = .ok (.aload_n 0, 1) ∧ decode cL_law 241 = .ok (.iload_n 3, 1) := by decide +kernel
theorem dL_law_234 : decode cL_law 234 = .ok (.iaload, 1) := gL_law_234.1
theorem dL_law_235 : decode cL_law 235 = .ok (.invokevirtual 18, 3) := gL_law_234.2.1
theorem dL_law_238 : decode cL_law 238 = .ok (.pop, 1) := gL_law_234.2.2.1
theorem dL_law_239 : decode cL_law 239 = .ok (.aload_n 2, 1) := gL_law_234.2.2.2.1
theorem dL_law_240 : decode cL_law 240 = .ok (.aload_n 0, 1) := gL_law_234.2.2.2.2.1
theorem dL_law_241 : decode cL_law 241 = .ok (.iload_n 3, 1) := gL_law_234.2.2.2.2.2
def k190_3 (scr : Nat × (Nat → Int32)) : List (Nat × XI) := [(220, x_aload 0 221), (221, x_iload 3 222), (222, x_push (1) 223), (223, x_iadd 224), (224, x_sld scr 225), (225, x_aload 0 226), (226, x_iload 3 227), (227, x_push (2) 228), (228, x_iadd 229), (229, x_sld scr 230), (230, x_aload 0 231), (231, x_iload 3 232), (232, x_push (3) 233), (233, x_iadd 234), (234, x_sld scr 235), (235, x_inv 102 7 3 238), (238, x_pop 239), (239, x_aload 2 240), (240, x_aload 0 241), (241, x_iload 3 242)]
theorem o190_3 (scr : Nat × (Nat → Int32)) : ∀ q ∈ k190_3 scr, XSnd xm scr Y190 q.1 q.2 := xcons (s_aload_n rfl dL_law_220) (xcons (s_iload_n rfl dL_law_221) (xcons (s_iconst dL_law_222 rfl) (xcons (s_iadd dL_law_223) (xcons (s_sld rfl dL_law_224) (xcons (s_aload_n rfl dL_law_225) (xcons (s_iload_n rfl dL_law_226) (xcons (s_iconst dL_law_227 rfl) (xcons (s_iadd dL_law_228) (xcons (s_sld rfl dL_law_229) (xcons (s_aload_n rfl dL_law_230) (xcons (s_iload_n rfl dL_law_231) (xcons (s_iconst dL_law_232 rfl) (xcons (s_iadd dL_law_233) (xcons (s_sld rfl dL_law_234) (xcons (s_inv (mid := 102) xC7 cal_102 xw_710 xw_711 xw_712 dL_law_235) (xcons (s_pop dL_law_238) (xcons (s_aload_n rfl dL_law_239) (xcons (s_aload_n rfl dL_law_240) (xcons (s_iload_n rfl dL_law_241) (xnil))))))))))))))))))))
set_option maxRecDepth 20000 in
theorem gL_law_242 : decode cL_law 242 = .ok (.iconst 1, 1) ∧ decode cL_law 243 = .ok (.iadd, 1) ∧ decode cL_law 244 = .ok (.iaload, 1) ∧ decode cL_law 245 = .ok (.aload_n 0, 1) ∧ decode cL_law 246 = .ok (.iload_n 3, 1) ∧ decode cL_law 247 = .ok (.iconst 2, 1) ∧ decode cL_law 248 = .ok (.iadd, 1) := by decide +kernel
theorem dL_law_242 : decode cL_law 242 = .ok (.iconst 1, 1) := gL_law_242.1
theorem dL_law_243 : decode cL_law 243 = .ok (.iadd, 1) := gL_law_242.2.1
theorem dL_law_244 : decode cL_law 244 = .ok (.iaload, 1) := gL_law_242.2.2.1
theorem dL_law_245 : decode cL_law 245 = .ok (.aload_n 0, 1) := gL_law_242.2.2.2.1
theorem dL_law_246 : decode cL_law 246 = .ok (.iload_n 3, 1) := gL_law_242.2.2.2.2.1
theorem dL_law_247 : decode cL_law 247 = .ok (.iconst 2, 1) := gL_law_242.2.2.2.2.2.1
theorem dL_law_248 : decode cL_law 248 = .ok (.iadd, 1) := gL_law_242.2.2.2.2.2.2
set_option maxRecDepth 20000 in
theorem gL_law_249 : decode cL_law 249 = .ok (.iaload, 1) ∧ decode cL_law 250 = .ok (.aload_n 0, 1) ∧ decode cL_law 251 = .ok (.iload_n 3, 1) ∧ decode cL_law 252 = .ok (.iconst 3, 1) ∧ decode cL_law 253 = .ok (.iadd, 1) ∧ decode cL_law 254 = .ok (.iaload, 1) ∧ decode cL_law 255 = .ok (.invokevirtual 21, 3) := by decide +kernel
theorem dL_law_249 : decode cL_law 249 = .ok (.iaload, 1) := gL_law_249.1
theorem dL_law_250 : decode cL_law 250 = .ok (.aload_n 0, 1) := gL_law_249.2.1
theorem dL_law_251 : decode cL_law 251 = .ok (.iload_n 3, 1) := gL_law_249.2.2.1
theorem dL_law_252 : decode cL_law 252 = .ok (.iconst 3, 1) := gL_law_249.2.2.2.1
theorem dL_law_253 : decode cL_law 253 = .ok (.iadd, 1) := gL_law_249.2.2.2.2.1
theorem dL_law_254 : decode cL_law 254 = .ok (.iaload, 1) := gL_law_249.2.2.2.2.2.1
theorem dL_law_255 : decode cL_law 255 = .ok (.invokevirtual 21, 3) := gL_law_249.2.2.2.2.2.2
set_option maxRecDepth 20000 in
theorem gL_law_258 : decode cL_law 258 = .ok (.pop, 1) ∧ decode cL_law 259 = .ok (.goto 865, 3) ∧ decode cL_law 262 = .ok (.aload_n 1, 1) ∧ decode cL_law 263 = .ok (.aload_n 0, 1) ∧ decode cL_law 264 = .ok (.iload_n 3, 1) ∧ decode cL_law 265 = .ok (.iconst 1, 1) := by decide +kernel
theorem dL_law_258 : decode cL_law 258 = .ok (.pop, 1) := gL_law_258.1
theorem dL_law_259 : decode cL_law 259 = .ok (.goto 865, 3) := gL_law_258.2.1
theorem dL_law_262 : decode cL_law 262 = .ok (.aload_n 1, 1) := gL_law_258.2.2.1
theorem dL_law_263 : decode cL_law 263 = .ok (.aload_n 0, 1) := gL_law_258.2.2.2.1
theorem dL_law_264 : decode cL_law 264 = .ok (.iload_n 3, 1) := gL_law_258.2.2.2.2.1
theorem dL_law_265 : decode cL_law 265 = .ok (.iconst 1, 1) := gL_law_258.2.2.2.2.2
def k190_4 (scr : Nat × (Nat → Int32)) : List (Nat × XI) := [(242, x_push (1) 243), (243, x_iadd 244), (244, x_sld scr 245), (245, x_aload 0 246), (246, x_iload 3 247), (247, x_push (2) 248), (248, x_iadd 249), (249, x_sld scr 250), (250, x_aload 0 251), (251, x_iload 3 252), (252, x_push (3) 253), (253, x_iadd 254), (254, x_sld scr 255), (255, x_inv 180 8 3 258), (258, x_pop 259), (259, x_goto 1124), (262, x_aload 1 263), (263, x_aload 0 264), (264, x_iload 3 265), (265, x_push (1) 266)]
theorem o190_4 (scr : Nat × (Nat → Int32)) : ∀ q ∈ k190_4 scr, XSnd xm scr Y190 q.1 q.2 := xcons (s_iconst dL_law_242 rfl) (xcons (s_iadd dL_law_243) (xcons (s_sld rfl dL_law_244) (xcons (s_aload_n rfl dL_law_245) (xcons (s_iload_n rfl dL_law_246) (xcons (s_iconst dL_law_247 rfl) (xcons (s_iadd dL_law_248) (xcons (s_sld rfl dL_law_249) (xcons (s_aload_n rfl dL_law_250) (xcons (s_iload_n rfl dL_law_251) (xcons (s_iconst dL_law_252 rfl) (xcons (s_iadd dL_law_253) (xcons (s_sld rfl dL_law_254) (xcons (s_inv (mid := 180) xC8 cal_180 xw_714 xw_715 xw_716 dL_law_255) (xcons (s_pop dL_law_258) (xcons (s_goto dL_law_259 rfl) (xcons (s_aload_n rfl dL_law_262) (xcons (s_aload_n rfl dL_law_263) (xcons (s_iload_n rfl dL_law_264) (xcons (s_iconst dL_law_265 rfl) (xnil))))))))))))))))))))
set_option maxRecDepth 20000 in
theorem gL_law_266 : decode cL_law 266 = .ok (.iadd, 1) ∧ decode cL_law 267 = .ok (.iaload, 1) ∧ decode cL_law 268 = .ok (.aload_n 0, 1) ∧ decode cL_law 269 = .ok (.iload_n 3, 1) ∧ decode cL_law 270 = .ok (.iconst 2, 1) ∧ decode cL_law 271 = .ok (.iadd, 1) ∧ decode cL_law 272 = .ok (.iaload, 1) := by decide +kernel
theorem dL_law_266 : decode cL_law 266 = .ok (.iadd, 1) := gL_law_266.1
theorem dL_law_267 : decode cL_law 267 = .ok (.iaload, 1) := gL_law_266.2.1
theorem dL_law_268 : decode cL_law 268 = .ok (.aload_n 0, 1) := gL_law_266.2.2.1
theorem dL_law_269 : decode cL_law 269 = .ok (.iload_n 3, 1) := gL_law_266.2.2.2.1
theorem dL_law_270 : decode cL_law 270 = .ok (.iconst 2, 1) := gL_law_266.2.2.2.2.1
theorem dL_law_271 : decode cL_law 271 = .ok (.iadd, 1) := gL_law_266.2.2.2.2.2.1
theorem dL_law_272 : decode cL_law 272 = .ok (.iaload, 1) := gL_law_266.2.2.2.2.2.2
set_option maxRecDepth 20000 in
theorem gL_law_273 : decode cL_law 273 = .ok (.invokevirtual 22, 3) ∧ decode cL_law 276 = .ok (.pop, 1) ∧ decode cL_law 277 = .ok (.aload_n 2, 1) ∧ decode cL_law 278 = .ok (.aload_n 0, 1) ∧ decode cL_law 279 = .ok (.iload_n 3, 1) ∧ decode cL_law 280 = .ok (.iconst 1, 1) ∧ decode cL_law 281 = .ok (.iadd, 1) := by decide +kernel
theorem dL_law_273 : decode cL_law 273 = .ok (.invokevirtual 22, 3) := gL_law_273.1
theorem dL_law_276 : decode cL_law 276 = .ok (.pop, 1) := gL_law_273.2.1
theorem dL_law_277 : decode cL_law 277 = .ok (.aload_n 2, 1) := gL_law_273.2.2.1
theorem dL_law_278 : decode cL_law 278 = .ok (.aload_n 0, 1) := gL_law_273.2.2.2.1
theorem dL_law_279 : decode cL_law 279 = .ok (.iload_n 3, 1) := gL_law_273.2.2.2.2.1
theorem dL_law_280 : decode cL_law 280 = .ok (.iconst 1, 1) := gL_law_273.2.2.2.2.2.1
theorem dL_law_281 : decode cL_law 281 = .ok (.iadd, 1) := gL_law_273.2.2.2.2.2.2
set_option maxRecDepth 20000 in
theorem gL_law_282 : decode cL_law 282 = .ok (.iaload, 1) ∧ decode cL_law 283 = .ok (.aload_n 0, 1) ∧ decode cL_law 284 = .ok (.iload_n 3, 1) ∧ decode cL_law 285 = .ok (.iconst 2, 1) ∧ decode cL_law 286 = .ok (.iadd, 1) ∧ decode cL_law 287 = .ok (.iaload, 1) := by decide +kernel
theorem dL_law_282 : decode cL_law 282 = .ok (.iaload, 1) := gL_law_282.1
theorem dL_law_283 : decode cL_law 283 = .ok (.aload_n 0, 1) := gL_law_282.2.1
theorem dL_law_284 : decode cL_law 284 = .ok (.iload_n 3, 1) := gL_law_282.2.2.1
theorem dL_law_285 : decode cL_law 285 = .ok (.iconst 2, 1) := gL_law_282.2.2.2.1
theorem dL_law_286 : decode cL_law 286 = .ok (.iadd, 1) := gL_law_282.2.2.2.2.1
theorem dL_law_287 : decode cL_law 287 = .ok (.iaload, 1) := gL_law_282.2.2.2.2.2
def k190_5 (scr : Nat × (Nat → Int32)) : List (Nat × XI) := [(266, x_iadd 267), (267, x_sld scr 268), (268, x_aload 0 269), (269, x_iload 3 270), (270, x_push (2) 271), (271, x_iadd 272), (272, x_sld scr 273), (273, x_inv 90 7 2 276), (276, x_pop 277), (277, x_aload 2 278), (278, x_aload 0 279), (279, x_iload 3 280), (280, x_push (1) 281), (281, x_iadd 282), (282, x_sld scr 283), (283, x_aload 0 284), (284, x_iload 3 285), (285, x_push (2) 286), (286, x_iadd 287), (287, x_sld scr 288)]
theorem o190_5 (scr : Nat × (Nat → Int32)) : ∀ q ∈ k190_5 scr, XSnd xm scr Y190 q.1 q.2 := xcons (s_iadd dL_law_266) (xcons (s_sld rfl dL_law_267) (xcons (s_aload_n rfl dL_law_268) (xcons (s_iload_n rfl dL_law_269) (xcons (s_iconst dL_law_270 rfl) (xcons (s_iadd dL_law_271) (xcons (s_sld rfl dL_law_272) (xcons (s_inv (mid := 90) xC7 cal_90 xw_718 xw_719 xw_720 dL_law_273) (xcons (s_pop dL_law_276) (xcons (s_aload_n rfl dL_law_277) (xcons (s_aload_n rfl dL_law_278) (xcons (s_iload_n rfl dL_law_279) (xcons (s_iconst dL_law_280 rfl) (xcons (s_iadd dL_law_281) (xcons (s_sld rfl dL_law_282) (xcons (s_aload_n rfl dL_law_283) (xcons (s_iload_n rfl dL_law_284) (xcons (s_iconst dL_law_285 rfl) (xcons (s_iadd dL_law_286) (xcons (s_sld rfl dL_law_287) (xnil))))))))))))))))))))
set_option maxRecDepth 20000 in
theorem gL_law_288 : decode cL_law 288 = .ok (.invokevirtual 26, 3) ∧ decode cL_law 291 = .ok (.pop, 1) ∧ decode cL_law 292 = .ok (.goto 832, 3) ∧ decode cL_law 295 = .ok (.aload_n 1, 1) ∧ decode cL_law 296 = .ok (.aload_n 0, 1) ∧ decode cL_law 297 = .ok (.iload_n 3, 1) ∧ decode cL_law 298 = .ok (.iconst 1, 1) := by decide +kernel
theorem dL_law_288 : decode cL_law 288 = .ok (.invokevirtual 26, 3) := gL_law_288.1
theorem dL_law_291 : decode cL_law 291 = .ok (.pop, 1) := gL_law_288.2.1
theorem dL_law_292 : decode cL_law 292 = .ok (.goto 832, 3) := gL_law_288.2.2.1
theorem dL_law_295 : decode cL_law 295 = .ok (.aload_n 1, 1) := gL_law_288.2.2.2.1
theorem dL_law_296 : decode cL_law 296 = .ok (.aload_n 0, 1) := gL_law_288.2.2.2.2.1
theorem dL_law_297 : decode cL_law 297 = .ok (.iload_n 3, 1) := gL_law_288.2.2.2.2.2.1
theorem dL_law_298 : decode cL_law 298 = .ok (.iconst 1, 1) := gL_law_288.2.2.2.2.2.2
set_option maxRecDepth 20000 in
theorem gL_law_299 : decode cL_law 299 = .ok (.iadd, 1) ∧ decode cL_law 300 = .ok (.iaload, 1) ∧ decode cL_law 301 = .ok (.invokevirtual 27, 3) ∧ decode cL_law 304 = .ok (.pop, 1) ∧ decode cL_law 305 = .ok (.aload_n 2, 1) ∧ decode cL_law 306 = .ok (.aload_n 0, 1) ∧ decode cL_law 307 = .ok (.iload_n 3, 1) := by decide +kernel
theorem dL_law_299 : decode cL_law 299 = .ok (.iadd, 1) := gL_law_299.1
theorem dL_law_300 : decode cL_law 300 = .ok (.iaload, 1) := gL_law_299.2.1
theorem dL_law_301 : decode cL_law 301 = .ok (.invokevirtual 27, 3) := gL_law_299.2.2.1
theorem dL_law_304 : decode cL_law 304 = .ok (.pop, 1) := gL_law_299.2.2.2.1
theorem dL_law_305 : decode cL_law 305 = .ok (.aload_n 2, 1) := gL_law_299.2.2.2.2.1
theorem dL_law_306 : decode cL_law 306 = .ok (.aload_n 0, 1) := gL_law_299.2.2.2.2.2.1
theorem dL_law_307 : decode cL_law 307 = .ok (.iload_n 3, 1) := gL_law_299.2.2.2.2.2.2
set_option maxRecDepth 20000 in
theorem gL_law_308 : decode cL_law 308 = .ok (.iconst 1, 1) ∧ decode cL_law 309 = .ok (.iadd, 1) ∧ decode cL_law 310 = .ok (.iaload, 1) ∧ decode cL_law 311 = .ok (.invokevirtual 31, 3) ∧ decode cL_law 314 = .ok (.pop, 1) ∧ decode cL_law 315 = .ok (.goto 809, 3) := by decide +kernel
theorem dL_law_308 : decode cL_law 308 = .ok (.iconst 1, 1) := gL_law_308.1
theorem dL_law_309 : decode cL_law 309 = .ok (.iadd, 1) := gL_law_308.2.1
theorem dL_law_310 : decode cL_law 310 = .ok (.iaload, 1) := gL_law_308.2.2.1
theorem dL_law_311 : decode cL_law 311 = .ok (.invokevirtual 31, 3) := gL_law_308.2.2.2.1
theorem dL_law_314 : decode cL_law 314 = .ok (.pop, 1) := gL_law_308.2.2.2.2.1
theorem dL_law_315 : decode cL_law 315 = .ok (.goto 809, 3) := gL_law_308.2.2.2.2.2
def k190_6 (scr : Nat × (Nat → Int32)) : List (Nat × XI) := [(288, x_inv 156 8 2 291), (291, x_pop 292), (292, x_goto 1124), (295, x_aload 1 296), (296, x_aload 0 297), (297, x_iload 3 298), (298, x_push (1) 299), (299, x_iadd 300), (300, x_sld scr 301), (301, x_inv 73 7 1 304), (304, x_pop 305), (305, x_aload 2 306), (306, x_aload 0 307), (307, x_iload 3 308), (308, x_push (1) 309), (309, x_iadd 310), (310, x_sld scr 311), (311, x_inv 117 8 1 314), (314, x_pop 315), (315, x_goto 1124)]
theorem o190_6 (scr : Nat × (Nat → Int32)) : ∀ q ∈ k190_6 scr, XSnd xm scr Y190 q.1 q.2 := xcons (s_inv (mid := 156) xC8 cal_156 xw_722 xw_723 xw_724 dL_law_288) (xcons (s_pop dL_law_291) (xcons (s_goto dL_law_292 rfl) (xcons (s_aload_n rfl dL_law_295) (xcons (s_aload_n rfl dL_law_296) (xcons (s_iload_n rfl dL_law_297) (xcons (s_iconst dL_law_298 rfl) (xcons (s_iadd dL_law_299) (xcons (s_sld rfl dL_law_300) (xcons (s_inv (mid := 73) xC7 cal_73 xw_726 xw_727 xw_728 dL_law_301) (xcons (s_pop dL_law_304) (xcons (s_aload_n rfl dL_law_305) (xcons (s_aload_n rfl dL_law_306) (xcons (s_iload_n rfl dL_law_307) (xcons (s_iconst dL_law_308 rfl) (xcons (s_iadd dL_law_309) (xcons (s_sld rfl dL_law_310) (xcons (s_inv (mid := 117) xC8 cal_117 xw_730 xw_731 xw_732 dL_law_311) (xcons (s_pop dL_law_314) (xcons (s_goto dL_law_315 rfl) (xnil))))))))))))))))))))
set_option maxRecDepth 20000 in
theorem gL_law_318 : decode cL_law 318 = .ok (.aload_n 1, 1) ∧ decode cL_law 319 = .ok (.aload_n 0, 1) ∧ decode cL_law 320 = .ok (.iload_n 3, 1) ∧ decode cL_law 321 = .ok (.iconst 1, 1) ∧ decode cL_law 322 = .ok (.iadd, 1) ∧ decode cL_law 323 = .ok (.iaload, 1) ∧ decode cL_law 324 = .ok (.aload_n 0, 1) := by decide +kernel
theorem dL_law_318 : decode cL_law 318 = .ok (.aload_n 1, 1) := gL_law_318.1
theorem dL_law_319 : decode cL_law 319 = .ok (.aload_n 0, 1) := gL_law_318.2.1
theorem dL_law_320 : decode cL_law 320 = .ok (.iload_n 3, 1) := gL_law_318.2.2.1
theorem dL_law_321 : decode cL_law 321 = .ok (.iconst 1, 1) := gL_law_318.2.2.2.1
theorem dL_law_322 : decode cL_law 322 = .ok (.iadd, 1) := gL_law_318.2.2.2.2.1
theorem dL_law_323 : decode cL_law 323 = .ok (.iaload, 1) := gL_law_318.2.2.2.2.2.1
theorem dL_law_324 : decode cL_law 324 = .ok (.aload_n 0, 1) := gL_law_318.2.2.2.2.2.2
set_option maxRecDepth 20000 in
theorem gL_law_325 : decode cL_law 325 = .ok (.iload_n 3, 1) ∧ decode cL_law 326 = .ok (.iconst 2, 1) ∧ decode cL_law 327 = .ok (.iadd, 1) ∧ decode cL_law 328 = .ok (.iaload, 1) ∧ decode cL_law 329 = .ok (.aload_n 0, 1) ∧ decode cL_law 330 = .ok (.iload_n 3, 1) ∧ decode cL_law 331 = .ok (.iconst 3, 1) := by decide +kernel
theorem dL_law_325 : decode cL_law 325 = .ok (.iload_n 3, 1) := gL_law_325.1
theorem dL_law_326 : decode cL_law 326 = .ok (.iconst 2, 1) := gL_law_325.2.1
theorem dL_law_327 : decode cL_law 327 = .ok (.iadd, 1) := gL_law_325.2.2.1
theorem dL_law_328 : decode cL_law 328 = .ok (.iaload, 1) := gL_law_325.2.2.2.1
theorem dL_law_329 : decode cL_law 329 = .ok (.aload_n 0, 1) := gL_law_325.2.2.2.2.1
theorem dL_law_330 : decode cL_law 330 = .ok (.iload_n 3, 1) := gL_law_325.2.2.2.2.2.1
theorem dL_law_331 : decode cL_law 331 = .ok (.iconst 3, 1) := gL_law_325.2.2.2.2.2.2
set_option maxRecDepth 20000 in
theorem gL_law_332 : decode cL_law 332 = .ok (.iadd, 1) ∧ decode cL_law 333 = .ok (.iaload, 1) ∧ decode cL_law 334 = .ok (.ifCond .eq 7, 3) ∧ decode cL_law 337 = .ok (.iconst 1, 1) ∧ decode cL_law 338 = .ok (.goto 4, 3) ∧ decode cL_law 341 = .ok (.iconst 0, 1) := by decide +kernel
theorem dL_law_332 : decode cL_law 332 = .ok (.iadd, 1) := gL_law_332.1
theorem dL_law_333 : decode cL_law 333 = .ok (.iaload, 1) := gL_law_332.2.1
theorem dL_law_334 : decode cL_law 334 = .ok (.ifCond .eq 7, 3) := gL_law_332.2.2.1
theorem dL_law_337 : decode cL_law 337 = .ok (.iconst 1, 1) := gL_law_332.2.2.2.1
theorem dL_law_338 : decode cL_law 338 = .ok (.goto 4, 3) := gL_law_332.2.2.2.2.1
theorem dL_law_341 : decode cL_law 341 = .ok (.iconst 0, 1) := gL_law_332.2.2.2.2.2
def k190_7 (scr : Nat × (Nat → Int32)) : List (Nat × XI) := [(318, x_aload 1 319), (319, x_aload 0 320), (320, x_iload 3 321), (321, x_push (1) 322), (322, x_iadd 323), (323, x_sld scr 324), (324, x_aload 0 325), (325, x_iload 3 326), (326, x_push (2) 327), (327, x_iadd 328), (328, x_sld scr 329), (329, x_aload 0 330), (330, x_iload 3 331), (331, x_push (3) 332), (332, x_iadd 333), (333, x_sld scr 334), (334, x_ifeq 341 337), (337, x_push (1) 338), (338, x_goto 342), (341, x_push (0) 342)]
theorem o190_7 (scr : Nat × (Nat → Int32)) : ∀ q ∈ k190_7 scr, XSnd xm scr Y190 q.1 q.2 := xcons (s_aload_n rfl dL_law_318) (xcons (s_aload_n rfl dL_law_319) (xcons (s_iload_n rfl dL_law_320) (xcons (s_iconst dL_law_321 rfl) (xcons (s_iadd dL_law_322) (xcons (s_sld rfl dL_law_323) (xcons (s_aload_n rfl dL_law_324) (xcons (s_iload_n rfl dL_law_325) (xcons (s_iconst dL_law_326 rfl) (xcons (s_iadd dL_law_327) (xcons (s_sld rfl dL_law_328) (xcons (s_aload_n rfl dL_law_329) (xcons (s_iload_n rfl dL_law_330) (xcons (s_iconst dL_law_331 rfl) (xcons (s_iadd dL_law_332) (xcons (s_sld rfl dL_law_333) (xcons (s_ifeq dL_law_334 rfl) (xcons (s_iconst dL_law_337 rfl) (xcons (s_goto dL_law_338 rfl) (xcons (s_iconst dL_law_341 rfl) (xnil))))))))))))))))))))
set_option maxRecDepth 20000 in
theorem gL_law_342 : decode cL_law 342 = .ok (.invokevirtual 32, 3) ∧ decode cL_law 345 = .ok (.pop, 1) ∧ decode cL_law 346 = .ok (.aload_n 2, 1) ∧ decode cL_law 347 = .ok (.aload_n 0, 1) ∧ decode cL_law 348 = .ok (.iload_n 3, 1) ∧ decode cL_law 349 = .ok (.iconst 1, 1) ∧ decode cL_law 350 = .ok (.iadd, 1) := by decide +kernel
theorem dL_law_342 : decode cL_law 342 = .ok (.invokevirtual 32, 3) := gL_law_342.1
theorem dL_law_345 : decode cL_law 345 = .ok (.pop, 1) := gL_law_342.2.1
theorem dL_law_346 : decode cL_law 346 = .ok (.aload_n 2, 1) := gL_law_342.2.2.1
theorem dL_law_347 : decode cL_law 347 = .ok (.aload_n 0, 1) := gL_law_342.2.2.2.1
theorem dL_law_348 : decode cL_law 348 = .ok (.iload_n 3, 1) := gL_law_342.2.2.2.2.1
theorem dL_law_349 : decode cL_law 349 = .ok (.iconst 1, 1) := gL_law_342.2.2.2.2.2.1
theorem dL_law_350 : decode cL_law 350 = .ok (.iadd, 1) := gL_law_342.2.2.2.2.2.2
set_option maxRecDepth 20000 in
theorem gL_law_351 : decode cL_law 351 = .ok (.iaload, 1) ∧ decode cL_law 352 = .ok (.aload_n 0, 1) ∧ decode cL_law 353 = .ok (.iload_n 3, 1) ∧ decode cL_law 354 = .ok (.iconst 2, 1) ∧ decode cL_law 355 = .ok (.iadd, 1) ∧ decode cL_law 356 = .ok (.iaload, 1) ∧ decode cL_law 357 = .ok (.aload_n 0, 1) := by decide +kernel
theorem dL_law_351 : decode cL_law 351 = .ok (.iaload, 1) := gL_law_351.1
theorem dL_law_352 : decode cL_law 352 = .ok (.aload_n 0, 1) := gL_law_351.2.1
theorem dL_law_353 : decode cL_law 353 = .ok (.iload_n 3, 1) := gL_law_351.2.2.1
theorem dL_law_354 : decode cL_law 354 = .ok (.iconst 2, 1) := gL_law_351.2.2.2.1
theorem dL_law_355 : decode cL_law 355 = .ok (.iadd, 1) := gL_law_351.2.2.2.2.1
theorem dL_law_356 : decode cL_law 356 = .ok (.iaload, 1) := gL_law_351.2.2.2.2.2.1
theorem dL_law_357 : decode cL_law 357 = .ok (.aload_n 0, 1) := gL_law_351.2.2.2.2.2.2
set_option maxRecDepth 20000 in
theorem gL_law_358 : decode cL_law 358 = .ok (.iload_n 3, 1) ∧ decode cL_law 359 = .ok (.iconst 3, 1) ∧ decode cL_law 360 = .ok (.iadd, 1) ∧ decode cL_law 361 = .ok (.iaload, 1) ∧ decode cL_law 362 = .ok (.ifCond .eq 7, 3) ∧ decode cL_law 365 = .ok (.iconst 1, 1) := by decide +kernel
theorem dL_law_358 : decode cL_law 358 = .ok (.iload_n 3, 1) := gL_law_358.1
theorem dL_law_359 : decode cL_law 359 = .ok (.iconst 3, 1) := gL_law_358.2.1
theorem dL_law_360 : decode cL_law 360 = .ok (.iadd, 1) := gL_law_358.2.2.1
theorem dL_law_361 : decode cL_law 361 = .ok (.iaload, 1) := gL_law_358.2.2.2.1
theorem dL_law_362 : decode cL_law 362 = .ok (.ifCond .eq 7, 3) := gL_law_358.2.2.2.2.1
theorem dL_law_365 : decode cL_law 365 = .ok (.iconst 1, 1) := gL_law_358.2.2.2.2.2
def k190_8 (scr : Nat × (Nat → Int32)) : List (Nat × XI) := [(342, x_inv 89 7 3 345), (345, x_pop 346), (346, x_aload 2 347), (347, x_aload 0 348), (348, x_iload 3 349), (349, x_push (1) 350), (350, x_iadd 351), (351, x_sld scr 352), (352, x_aload 0 353), (353, x_iload 3 354), (354, x_push (2) 355), (355, x_iadd 356), (356, x_sld scr 357), (357, x_aload 0 358), (358, x_iload 3 359), (359, x_push (3) 360), (360, x_iadd 361), (361, x_sld scr 362), (362, x_ifeq 369 365), (365, x_push (1) 366)]
theorem o190_8 (scr : Nat × (Nat → Int32)) : ∀ q ∈ k190_8 scr, XSnd xm scr Y190 q.1 q.2 := xcons (s_inv (mid := 89) xC7 cal_89 xw_734 xw_735 xw_736 dL_law_342) (xcons (s_pop dL_law_345) (xcons (s_aload_n rfl dL_law_346) (xcons (s_aload_n rfl dL_law_347) (xcons (s_iload_n rfl dL_law_348) (xcons (s_iconst dL_law_349 rfl) (xcons (s_iadd dL_law_350) (xcons (s_sld rfl dL_law_351) (xcons (s_aload_n rfl dL_law_352) (xcons (s_iload_n rfl dL_law_353) (xcons (s_iconst dL_law_354 rfl) (xcons (s_iadd dL_law_355) (xcons (s_sld rfl dL_law_356) (xcons (s_aload_n rfl dL_law_357) (xcons (s_iload_n rfl dL_law_358) (xcons (s_iconst dL_law_359 rfl) (xcons (s_iadd dL_law_360) (xcons (s_sld rfl dL_law_361) (xcons (s_ifeq dL_law_362 rfl) (xcons (s_iconst dL_law_365 rfl) (xnil))))))))))))))))))))
set_option maxRecDepth 20000 in
theorem gL_law_366 : decode cL_law 366 = .ok (.goto 4, 3) ∧ decode cL_law 369 = .ok (.iconst 0, 1) ∧ decode cL_law 370 = .ok (.invokevirtual 36, 3) ∧ decode cL_law 373 = .ok (.pop, 1) ∧ decode cL_law 374 = .ok (.goto 750, 3) ∧ decode cL_law 377 = .ok (.aload_n 1, 1) ∧ decode cL_law 378 = .ok (.aload_n 0, 1) := by decide +kernel
theorem dL_law_366 : decode cL_law 366 = .ok (.goto 4, 3) := gL_law_366.1
theorem dL_law_369 : decode cL_law 369 = .ok (.iconst 0, 1) := gL_law_366.2.1
theorem dL_law_370 : decode cL_law 370 = .ok (.invokevirtual 36, 3) := gL_law_366.2.2.1
theorem dL_law_373 : decode cL_law 373 = .ok (.pop, 1) := gL_law_366.2.2.2.1
theorem dL_law_374 : decode cL_law 374 = .ok (.goto 750, 3) := gL_law_366.2.2.2.2.1
theorem dL_law_377 : decode cL_law 377 = .ok (.aload_n 1, 1) := gL_law_366.2.2.2.2.2.1
theorem dL_law_378 : decode cL_law 378 = .ok (.aload_n 0, 1) := gL_law_366.2.2.2.2.2.2
set_option maxRecDepth 20000 in
theorem gL_law_379 : decode cL_law 379 = .ok (.iload_n 3, 1) ∧ decode cL_law 380 = .ok (.iconst 1, 1) ∧ decode cL_law 381 = .ok (.iadd, 1) ∧ decode cL_law 382 = .ok (.iaload, 1) ∧ decode cL_law 383 = .ok (.aload_n 0, 1) ∧ decode cL_law 384 = .ok (.iload_n 3, 1) ∧ decode cL_law 385 = .ok (.iconst 2, 1) := by decide +kernel
theorem dL_law_379 : decode cL_law 379 = .ok (.iload_n 3, 1) := gL_law_379.1
theorem dL_law_380 : decode cL_law 380 = .ok (.iconst 1, 1) := gL_law_379.2.1
theorem dL_law_381 : decode cL_law 381 = .ok (.iadd, 1) := gL_law_379.2.2.1
theorem dL_law_382 : decode cL_law 382 = .ok (.iaload, 1) := gL_law_379.2.2.2.1
theorem dL_law_383 : decode cL_law 383 = .ok (.aload_n 0, 1) := gL_law_379.2.2.2.2.1
theorem dL_law_384 : decode cL_law 384 = .ok (.iload_n 3, 1) := gL_law_379.2.2.2.2.2.1
theorem dL_law_385 : decode cL_law 385 = .ok (.iconst 2, 1) := gL_law_379.2.2.2.2.2.2
set_option maxRecDepth 20000 in
theorem gL_law_386 : decode cL_law 386 = .ok (.iadd, 1) ∧ decode cL_law 387 = .ok (.iaload, 1) ∧ decode cL_law 388 = .ok (.aload_n 0, 1) ∧ decode cL_law 389 = .ok (.iload_n 3, 1) ∧ decode cL_law 390 = .ok (.iconst 3, 1) ∧ decode cL_law 391 = .ok (.iadd, 1) := by decide +kernel
theorem dL_law_386 : decode cL_law 386 = .ok (.iadd, 1) := gL_law_386.1
theorem dL_law_387 : decode cL_law 387 = .ok (.iaload, 1) := gL_law_386.2.1
theorem dL_law_388 : decode cL_law 388 = .ok (.aload_n 0, 1) := gL_law_386.2.2.1
theorem dL_law_389 : decode cL_law 389 = .ok (.iload_n 3, 1) := gL_law_386.2.2.2.1
theorem dL_law_390 : decode cL_law 390 = .ok (.iconst 3, 1) := gL_law_386.2.2.2.2.1
theorem dL_law_391 : decode cL_law 391 = .ok (.iadd, 1) := gL_law_386.2.2.2.2.2
def k190_9 (scr : Nat × (Nat → Int32)) : List (Nat × XI) := [(366, x_goto 370), (369, x_push (0) 370), (370, x_inv 150 8 3 373), (373, x_pop 374), (374, x_goto 1124), (377, x_aload 1 378), (378, x_aload 0 379), (379, x_iload 3 380), (380, x_push (1) 381), (381, x_iadd 382), (382, x_sld scr 383), (383, x_aload 0 384), (384, x_iload 3 385), (385, x_push (2) 386), (386, x_iadd 387), (387, x_sld scr 388), (388, x_aload 0 389), (389, x_iload 3 390), (390, x_push (3) 391), (391, x_iadd 392)]
theorem o190_9 (scr : Nat × (Nat → Int32)) : ∀ q ∈ k190_9 scr, XSnd xm scr Y190 q.1 q.2 := xcons (s_goto dL_law_366 rfl) (xcons (s_iconst dL_law_369 rfl) (xcons (s_inv (mid := 150) xC8 cal_150 xw_738 xw_739 xw_740 dL_law_370) (xcons (s_pop dL_law_373) (xcons (s_goto dL_law_374 rfl) (xcons (s_aload_n rfl dL_law_377) (xcons (s_aload_n rfl dL_law_378) (xcons (s_iload_n rfl dL_law_379) (xcons (s_iconst dL_law_380 rfl) (xcons (s_iadd dL_law_381) (xcons (s_sld rfl dL_law_382) (xcons (s_aload_n rfl dL_law_383) (xcons (s_iload_n rfl dL_law_384) (xcons (s_iconst dL_law_385 rfl) (xcons (s_iadd dL_law_386) (xcons (s_sld rfl dL_law_387) (xcons (s_aload_n rfl dL_law_388) (xcons (s_iload_n rfl dL_law_389) (xcons (s_iconst dL_law_390 rfl) (xcons (s_iadd dL_law_391) (xnil))))))))))))))))))))
set_option maxRecDepth 20000 in
theorem gL_law_392 : decode cL_law 392 = .ok (.iaload, 1) ∧ decode cL_law 393 = .ok (.ifCond .eq 7, 3) ∧ decode cL_law 396 = .ok (.iconst 1, 1) ∧ decode cL_law 397 = .ok (.goto 4, 3) ∧ decode cL_law 400 = .ok (.iconst 0, 1) ∧ decode cL_law 401 = .ok (.invokevirtual 37, 3) ∧ decode cL_law 404 = .ok (.pop, 1) := by decide +kernel
theorem dL_law_392 : decode cL_law 392 = .ok (.iaload, 1) := gL_law_392.1
theorem dL_law_393 : decode cL_law 393 = .ok (.ifCond .eq 7, 3) := gL_law_392.2.1
theorem dL_law_396 : decode cL_law 396 = .ok (.iconst 1, 1) := gL_law_392.2.2.1
theorem dL_law_397 : decode cL_law 397 = .ok (.goto 4, 3) := gL_law_392.2.2.2.1
theorem dL_law_400 : decode cL_law 400 = .ok (.iconst 0, 1) := gL_law_392.2.2.2.2.1
theorem dL_law_401 : decode cL_law 401 = .ok (.invokevirtual 37, 3) := gL_law_392.2.2.2.2.2.1
theorem dL_law_404 : decode cL_law 404 = .ok (.pop, 1) := gL_law_392.2.2.2.2.2.2
set_option maxRecDepth 20000 in
theorem gL_law_405 : decode cL_law 405 = .ok (.aload_n 2, 1) ∧ decode cL_law 406 = .ok (.aload_n 0, 1) ∧ decode cL_law 407 = .ok (.iload_n 3, 1) ∧ decode cL_law 408 = .ok (.iconst 1, 1) ∧ decode cL_law 409 = .ok (.iadd, 1) ∧ decode cL_law 410 = .ok (.iaload, 1) ∧ decode cL_law 411 = .ok (.aload_n 0, 1) := by decide +kernel
theorem dL_law_405 : decode cL_law 405 = .ok (.aload_n 2, 1) := gL_law_405.1
theorem dL_law_406 : decode cL_law 406 = .ok (.aload_n 0, 1) := gL_law_405.2.1
theorem dL_law_407 : decode cL_law 407 = .ok (.iload_n 3, 1) := gL_law_405.2.2.1
theorem dL_law_408 : decode cL_law 408 = .ok (.iconst 1, 1) := gL_law_405.2.2.2.1
theorem dL_law_409 : decode cL_law 409 = .ok (.iadd, 1) := gL_law_405.2.2.2.2.1
theorem dL_law_410 : decode cL_law 410 = .ok (.iaload, 1) := gL_law_405.2.2.2.2.2.1
theorem dL_law_411 : decode cL_law 411 = .ok (.aload_n 0, 1) := gL_law_405.2.2.2.2.2.2
set_option maxRecDepth 20000 in
theorem gL_law_412 : decode cL_law 412 = .ok (.iload_n 3, 1) ∧ decode cL_law 413 = .ok (.iconst 2, 1) ∧ decode cL_law 414 = .ok (.iadd, 1) ∧ decode cL_law 415 = .ok (.iaload, 1) ∧ decode cL_law 416 = .ok (.aload_n 0, 1) ∧ decode cL_law 417 = .ok (.iload_n 3, 1) := by decide +kernel
theorem dL_law_412 : decode cL_law 412 = .ok (.iload_n 3, 1) := gL_law_412.1
theorem dL_law_413 : decode cL_law 413 = .ok (.iconst 2, 1) := gL_law_412.2.1
theorem dL_law_414 : decode cL_law 414 = .ok (.iadd, 1) := gL_law_412.2.2.1
theorem dL_law_415 : decode cL_law 415 = .ok (.iaload, 1) := gL_law_412.2.2.2.1
theorem dL_law_416 : decode cL_law 416 = .ok (.aload_n 0, 1) := gL_law_412.2.2.2.2.1
theorem dL_law_417 : decode cL_law 417 = .ok (.iload_n 3, 1) := gL_law_412.2.2.2.2.2
def k190_10 (scr : Nat × (Nat → Int32)) : List (Nat × XI) := [(392, x_sld scr 393), (393, x_ifeq 400 396), (396, x_push (1) 397), (397, x_goto 401), (400, x_push (0) 401), (401, x_inv 99 7 3 404), (404, x_pop 405), (405, x_aload 2 406), (406, x_aload 0 407), (407, x_iload 3 408), (408, x_push (1) 409), (409, x_iadd 410), (410, x_sld scr 411), (411, x_aload 0 412), (412, x_iload 3 413), (413, x_push (2) 414), (414, x_iadd 415), (415, x_sld scr 416), (416, x_aload 0 417), (417, x_iload 3 418)]
theorem o190_10 (scr : Nat × (Nat → Int32)) : ∀ q ∈ k190_10 scr, XSnd xm scr Y190 q.1 q.2 := xcons (s_sld rfl dL_law_392) (xcons (s_ifeq dL_law_393 rfl) (xcons (s_iconst dL_law_396 rfl) (xcons (s_goto dL_law_397 rfl) (xcons (s_iconst dL_law_400 rfl) (xcons (s_inv (mid := 99) xC7 cal_99 xw_742 xw_743 xw_744 dL_law_401) (xcons (s_pop dL_law_404) (xcons (s_aload_n rfl dL_law_405) (xcons (s_aload_n rfl dL_law_406) (xcons (s_iload_n rfl dL_law_407) (xcons (s_iconst dL_law_408 rfl) (xcons (s_iadd dL_law_409) (xcons (s_sld rfl dL_law_410) (xcons (s_aload_n rfl dL_law_411) (xcons (s_iload_n rfl dL_law_412) (xcons (s_iconst dL_law_413 rfl) (xcons (s_iadd dL_law_414) (xcons (s_sld rfl dL_law_415) (xcons (s_aload_n rfl dL_law_416) (xcons (s_iload_n rfl dL_law_417) (xnil))))))))))))))))))))
set_option maxRecDepth 20000 in
theorem gL_law_418 : decode cL_law 418 = .ok (.iconst 3, 1) ∧ decode cL_law 419 = .ok (.iadd, 1) ∧ decode cL_law 420 = .ok (.iaload, 1) ∧ decode cL_law 421 = .ok (.ifCond .eq 7, 3) ∧ decode cL_law 424 = .ok (.iconst 1, 1) ∧ decode cL_law 425 = .ok (.goto 4, 3) ∧ decode cL_law 428 = .ok (.iconst 0, 1) := by decide +kernel
theorem dL_law_418 : decode cL_law 418 = .ok (.iconst 3, 1) := gL_law_418.1
theorem dL_law_419 : decode cL_law 419 = .ok (.iadd, 1) := gL_law_418.2.1
theorem dL_law_420 : decode cL_law 420 = .ok (.iaload, 1) := gL_law_418.2.2.1
theorem dL_law_421 : decode cL_law 421 = .ok (.ifCond .eq 7, 3) := gL_law_418.2.2.2.1
theorem dL_law_424 : decode cL_law 424 = .ok (.iconst 1, 1) := gL_law_418.2.2.2.2.1
theorem dL_law_425 : decode cL_law 425 = .ok (.goto 4, 3) := gL_law_418.2.2.2.2.2.1
theorem dL_law_428 : decode cL_law 428 = .ok (.iconst 0, 1) := gL_law_418.2.2.2.2.2.2
set_option maxRecDepth 20000 in
theorem gL_law_429 : decode cL_law 429 = .ok (.invokevirtual 40, 3) ∧ decode cL_law 432 = .ok (.pop, 1) ∧ decode cL_law 433 = .ok (.goto 691, 3) ∧ decode cL_law 436 = .ok (.aload_n 1, 1) ∧ decode cL_law 437 = .ok (.aload_n 0, 1) ∧ decode cL_law 438 = .ok (.iload_n 3, 1) ∧ decode cL_law 439 = .ok (.iconst 1, 1) := by decide +kernel
theorem dL_law_429 : decode cL_law 429 = .ok (.invokevirtual 40, 3) := gL_law_429.1
theorem dL_law_432 : decode cL_law 432 = .ok (.pop, 1) := gL_law_429.2.1
theorem dL_law_433 : decode cL_law 433 = .ok (.goto 691, 3) := gL_law_429.2.2.1
theorem dL_law_436 : decode cL_law 436 = .ok (.aload_n 1, 1) := gL_law_429.2.2.2.1
theorem dL_law_437 : decode cL_law 437 = .ok (.aload_n 0, 1) := gL_law_429.2.2.2.2.1
theorem dL_law_438 : decode cL_law 438 = .ok (.iload_n 3, 1) := gL_law_429.2.2.2.2.2.1
theorem dL_law_439 : decode cL_law 439 = .ok (.iconst 1, 1) := gL_law_429.2.2.2.2.2.2
set_option maxRecDepth 20000 in
theorem gL_law_440 : decode cL_law 440 = .ok (.iadd, 1) ∧ decode cL_law 441 = .ok (.iaload, 1) ∧ decode cL_law 442 = .ok (.aload_n 0, 1) ∧ decode cL_law 443 = .ok (.iload_n 3, 1) ∧ decode cL_law 444 = .ok (.iconst 2, 1) ∧ decode cL_law 445 = .ok (.iadd, 1) := by decide +kernel
theorem dL_law_440 : decode cL_law 440 = .ok (.iadd, 1) := gL_law_440.1
theorem dL_law_441 : decode cL_law 441 = .ok (.iaload, 1) := gL_law_440.2.1
theorem dL_law_442 : decode cL_law 442 = .ok (.aload_n 0, 1) := gL_law_440.2.2.1
theorem dL_law_443 : decode cL_law 443 = .ok (.iload_n 3, 1) := gL_law_440.2.2.2.1
theorem dL_law_444 : decode cL_law 444 = .ok (.iconst 2, 1) := gL_law_440.2.2.2.2.1
theorem dL_law_445 : decode cL_law 445 = .ok (.iadd, 1) := gL_law_440.2.2.2.2.2
def k190_11 (scr : Nat × (Nat → Int32)) : List (Nat × XI) := [(418, x_push (3) 419), (419, x_iadd 420), (420, x_sld scr 421), (421, x_ifeq 428 424), (424, x_push (1) 425), (425, x_goto 429), (428, x_push (0) 429), (429, x_inv 170 8 3 432), (432, x_pop 433), (433, x_goto 1124), (436, x_aload 1 437), (437, x_aload 0 438), (438, x_iload 3 439), (439, x_push (1) 440), (440, x_iadd 441), (441, x_sld scr 442), (442, x_aload 0 443), (443, x_iload 3 444), (444, x_push (2) 445), (445, x_iadd 446)]
theorem o190_11 (scr : Nat × (Nat → Int32)) : ∀ q ∈ k190_11 scr, XSnd xm scr Y190 q.1 q.2 := xcons (s_iconst dL_law_418 rfl) (xcons (s_iadd dL_law_419) (xcons (s_sld rfl dL_law_420) (xcons (s_ifeq dL_law_421 rfl) (xcons (s_iconst dL_law_424 rfl) (xcons (s_goto dL_law_425 rfl) (xcons (s_iconst dL_law_428 rfl) (xcons (s_inv (mid := 170) xC8 cal_170 xw_746 xw_747 xw_748 dL_law_429) (xcons (s_pop dL_law_432) (xcons (s_goto dL_law_433 rfl) (xcons (s_aload_n rfl dL_law_436) (xcons (s_aload_n rfl dL_law_437) (xcons (s_iload_n rfl dL_law_438) (xcons (s_iconst dL_law_439 rfl) (xcons (s_iadd dL_law_440) (xcons (s_sld rfl dL_law_441) (xcons (s_aload_n rfl dL_law_442) (xcons (s_iload_n rfl dL_law_443) (xcons (s_iconst dL_law_444 rfl) (xcons (s_iadd dL_law_445) (xnil))))))))))))))))))))
set_option maxRecDepth 20000 in
theorem gL_law_446 : decode cL_law 446 = .ok (.iaload, 1) ∧ decode cL_law 447 = .ok (.invokevirtual 41, 3) ∧ decode cL_law 450 = .ok (.pop, 1) ∧ decode cL_law 451 = .ok (.aload_n 2, 1) ∧ decode cL_law 452 = .ok (.aload_n 0, 1) ∧ decode cL_law 453 = .ok (.iload_n 3, 1) ∧ decode cL_law 454 = .ok (.iconst 1, 1) := by decide +kernel
theorem dL_law_446 : decode cL_law 446 = .ok (.iaload, 1) := gL_law_446.1
theorem dL_law_447 : decode cL_law 447 = .ok (.invokevirtual 41, 3) := gL_law_446.2.1
theorem dL_law_450 : decode cL_law 450 = .ok (.pop, 1) := gL_law_446.2.2.1
theorem dL_law_451 : decode cL_law 451 = .ok (.aload_n 2, 1) := gL_law_446.2.2.2.1
theorem dL_law_452 : decode cL_law 452 = .ok (.aload_n 0, 1) := gL_law_446.2.2.2.2.1
theorem dL_law_453 : decode cL_law 453 = .ok (.iload_n 3, 1) := gL_law_446.2.2.2.2.2.1
theorem dL_law_454 : decode cL_law 454 = .ok (.iconst 1, 1) := gL_law_446.2.2.2.2.2.2
set_option maxRecDepth 20000 in
theorem gL_law_455 : decode cL_law 455 = .ok (.iadd, 1) ∧ decode cL_law 456 = .ok (.iaload, 1) ∧ decode cL_law 457 = .ok (.aload_n 0, 1) ∧ decode cL_law 458 = .ok (.iload_n 3, 1) ∧ decode cL_law 459 = .ok (.iconst 2, 1) ∧ decode cL_law 460 = .ok (.iadd, 1) ∧ decode cL_law 461 = .ok (.iaload, 1) := by decide +kernel
theorem dL_law_455 : decode cL_law 455 = .ok (.iadd, 1) := gL_law_455.1
theorem dL_law_456 : decode cL_law 456 = .ok (.iaload, 1) := gL_law_455.2.1
theorem dL_law_457 : decode cL_law 457 = .ok (.aload_n 0, 1) := gL_law_455.2.2.1
theorem dL_law_458 : decode cL_law 458 = .ok (.iload_n 3, 1) := gL_law_455.2.2.2.1
theorem dL_law_459 : decode cL_law 459 = .ok (.iconst 2, 1) := gL_law_455.2.2.2.2.1
theorem dL_law_460 : decode cL_law 460 = .ok (.iadd, 1) := gL_law_455.2.2.2.2.2.1
theorem dL_law_461 : decode cL_law 461 = .ok (.iaload, 1) := gL_law_455.2.2.2.2.2.2
set_option maxRecDepth 20000 in
theorem gL_law_462 : decode cL_law 462 = .ok (.invokevirtual 44, 3) ∧ decode cL_law 465 = .ok (.pop, 1) ∧ decode cL_law 466 = .ok (.goto 658, 3) ∧ decode cL_law 469 = .ok (.aload_n 1, 1) ∧ decode cL_law 470 = .ok (.aload_n 0, 1) ∧ decode cL_law 471 = .ok (.iload_n 3, 1) := by decide +kernel
theorem dL_law_462 : decode cL_law 462 = .ok (.invokevirtual 44, 3) := gL_law_462.1
theorem dL_law_465 : decode cL_law 465 = .ok (.pop, 1) := gL_law_462.2.1
theorem dL_law_466 : decode cL_law 466 = .ok (.goto 658, 3) := gL_law_462.2.2.1
theorem dL_law_469 : decode cL_law 469 = .ok (.aload_n 1, 1) := gL_law_462.2.2.2.1
theorem dL_law_470 : decode cL_law 470 = .ok (.aload_n 0, 1) := gL_law_462.2.2.2.2.1
theorem dL_law_471 : decode cL_law 471 = .ok (.iload_n 3, 1) := gL_law_462.2.2.2.2.2
def k190_12 (scr : Nat × (Nat → Int32)) : List (Nat × XI) := [(446, x_sld scr 447), (447, x_inv 100 7 2 450), (450, x_pop 451), (451, x_aload 2 452), (452, x_aload 0 453), (453, x_iload 3 454), (454, x_push (1) 455), (455, x_iadd 456), (456, x_sld scr 457), (457, x_aload 0 458), (458, x_iload 3 459), (459, x_push (2) 460), (460, x_iadd 461), (461, x_sld scr 462), (462, x_inv 173 8 2 465), (465, x_pop 466), (466, x_goto 1124), (469, x_aload 1 470), (470, x_aload 0 471), (471, x_iload 3 472)]
theorem o190_12 (scr : Nat × (Nat → Int32)) : ∀ q ∈ k190_12 scr, XSnd xm scr Y190 q.1 q.2 := xcons (s_sld rfl dL_law_446) (xcons (s_inv (mid := 100) xC7 cal_100 xw_750 xw_751 xw_752 dL_law_447) (xcons (s_pop dL_law_450) (xcons (s_aload_n rfl dL_law_451) (xcons (s_aload_n rfl dL_law_452) (xcons (s_iload_n rfl dL_law_453) (xcons (s_iconst dL_law_454 rfl) (xcons (s_iadd dL_law_455) (xcons (s_sld rfl dL_law_456) (xcons (s_aload_n rfl dL_law_457) (xcons (s_iload_n rfl dL_law_458) (xcons (s_iconst dL_law_459 rfl) (xcons (s_iadd dL_law_460) (xcons (s_sld rfl dL_law_461) (xcons (s_inv (mid := 173) xC8 cal_173 xw_754 xw_755 xw_756 dL_law_462) (xcons (s_pop dL_law_465) (xcons (s_goto dL_law_466 rfl) (xcons (s_aload_n rfl dL_law_469) (xcons (s_aload_n rfl dL_law_470) (xcons (s_iload_n rfl dL_law_471) (xnil))))))))))))))))))))
set_option maxRecDepth 20000 in
theorem gL_law_472 : decode cL_law 472 = .ok (.iconst 1, 1) ∧ decode cL_law 473 = .ok (.iadd, 1) ∧ decode cL_law 474 = .ok (.iaload, 1) ∧ decode cL_law 475 = .ok (.aload_n 0, 1) ∧ decode cL_law 476 = .ok (.iload_n 3, 1) ∧ decode cL_law 477 = .ok (.iconst 2, 1) ∧ decode cL_law 478 = .ok (.iadd, 1) := by decide +kernel
theorem dL_law_472 : decode cL_law 472 = .ok (.iconst 1, 1) := gL_law_472.1
theorem dL_law_473 : decode cL_law 473 = .ok (.iadd, 1) := gL_law_472.2.1
theorem dL_law_474 : decode cL_law 474 = .ok (.iaload, 1) := gL_law_472.2.2.1
theorem dL_law_475 : decode cL_law 475 = .ok (.aload_n 0, 1) := gL_law_472.2.2.2.1
theorem dL_law_476 : decode cL_law 476 = .ok (.iload_n 3, 1) := gL_law_472.2.2.2.2.1
theorem dL_law_477 : decode cL_law 477 = .ok (.iconst 2, 1) := gL_law_472.2.2.2.2.2.1
theorem dL_law_478 : decode cL_law 478 = .ok (.iadd, 1) := gL_law_472.2.2.2.2.2.2
set_option maxRecDepth 20000 in
theorem gL_law_479 : decode cL_law 479 = .ok (.iaload, 1) ∧ decode cL_law 480 = .ok (.invokevirtual 45, 3) ∧ decode cL_law 483 = .ok (.pop, 1) ∧ decode cL_law 484 = .ok (.aload_n 2, 1) ∧ decode cL_law 485 = .ok (.aload_n 0, 1) ∧ decode cL_law 486 = .ok (.iload_n 3, 1) ∧ decode cL_law 487 = .ok (.iconst 1, 1) := by decide +kernel
theorem dL_law_479 : decode cL_law 479 = .ok (.iaload, 1) := gL_law_479.1
theorem dL_law_480 : decode cL_law 480 = .ok (.invokevirtual 45, 3) := gL_law_479.2.1
theorem dL_law_483 : decode cL_law 483 = .ok (.pop, 1) := gL_law_479.2.2.1
theorem dL_law_484 : decode cL_law 484 = .ok (.aload_n 2, 1) := gL_law_479.2.2.2.1
theorem dL_law_485 : decode cL_law 485 = .ok (.aload_n 0, 1) := gL_law_479.2.2.2.2.1
theorem dL_law_486 : decode cL_law 486 = .ok (.iload_n 3, 1) := gL_law_479.2.2.2.2.2.1
theorem dL_law_487 : decode cL_law 487 = .ok (.iconst 1, 1) := gL_law_479.2.2.2.2.2.2
set_option maxRecDepth 20000 in
theorem gL_law_488 : decode cL_law 488 = .ok (.iadd, 1) ∧ decode cL_law 489 = .ok (.iaload, 1) ∧ decode cL_law 490 = .ok (.aload_n 0, 1) ∧ decode cL_law 491 = .ok (.iload_n 3, 1) ∧ decode cL_law 492 = .ok (.iconst 2, 1) ∧ decode cL_law 493 = .ok (.iadd, 1) := by decide +kernel
theorem dL_law_488 : decode cL_law 488 = .ok (.iadd, 1) := gL_law_488.1
theorem dL_law_489 : decode cL_law 489 = .ok (.iaload, 1) := gL_law_488.2.1
theorem dL_law_490 : decode cL_law 490 = .ok (.aload_n 0, 1) := gL_law_488.2.2.1
theorem dL_law_491 : decode cL_law 491 = .ok (.iload_n 3, 1) := gL_law_488.2.2.2.1
theorem dL_law_492 : decode cL_law 492 = .ok (.iconst 2, 1) := gL_law_488.2.2.2.2.1
theorem dL_law_493 : decode cL_law 493 = .ok (.iadd, 1) := gL_law_488.2.2.2.2.2
def k190_13 (scr : Nat × (Nat → Int32)) : List (Nat × XI) := [(472, x_push (1) 473), (473, x_iadd 474), (474, x_sld scr 475), (475, x_aload 0 476), (476, x_iload 3 477), (477, x_push (2) 478), (478, x_iadd 479), (479, x_sld scr 480), (480, x_inv 105 7 2 483), (483, x_pop 484), (484, x_aload 2 485), (485, x_aload 0 486), (486, x_iload 3 487), (487, x_push (1) 488), (488, x_iadd 489), (489, x_sld scr 490), (490, x_aload 0 491), (491, x_iload 3 492), (492, x_push (2) 493), (493, x_iadd 494)]
theorem o190_13 (scr : Nat × (Nat → Int32)) : ∀ q ∈ k190_13 scr, XSnd xm scr Y190 q.1 q.2 := xcons (s_iconst dL_law_472 rfl) (xcons (s_iadd dL_law_473) (xcons (s_sld rfl dL_law_474) (xcons (s_aload_n rfl dL_law_475) (xcons (s_iload_n rfl dL_law_476) (xcons (s_iconst dL_law_477 rfl) (xcons (s_iadd dL_law_478) (xcons (s_sld rfl dL_law_479) (xcons (s_inv (mid := 105) xC7 cal_105 xw_758 xw_759 xw_760 dL_law_480) (xcons (s_pop dL_law_483) (xcons (s_aload_n rfl dL_law_484) (xcons (s_aload_n rfl dL_law_485) (xcons (s_iload_n rfl dL_law_486) (xcons (s_iconst dL_law_487 rfl) (xcons (s_iadd dL_law_488) (xcons (s_sld rfl dL_law_489) (xcons (s_aload_n rfl dL_law_490) (xcons (s_iload_n rfl dL_law_491) (xcons (s_iconst dL_law_492 rfl) (xcons (s_iadd dL_law_493) (xnil))))))))))))))))))))
set_option maxRecDepth 20000 in
theorem gL_law_494 : decode cL_law 494 = .ok (.iaload, 1) ∧ decode cL_law 495 = .ok (.invokevirtual 48, 3) ∧ decode cL_law 498 = .ok (.pop, 1) ∧ decode cL_law 499 = .ok (.goto 625, 3) ∧ decode cL_law 502 = .ok (.aload_n 1, 1) ∧ decode cL_law 503 = .ok (.aload_n 0, 1) ∧ decode cL_law 504 = .ok (.iload_n 3, 1) := by decide +kernel
theorem dL_law_494 : decode cL_law 494 = .ok (.iaload, 1) := gL_law_494.1
theorem dL_law_495 : decode cL_law 495 = .ok (.invokevirtual 48, 3) := gL_law_494.2.1
theorem dL_law_498 : decode cL_law 498 = .ok (.pop, 1) := gL_law_494.2.2.1
theorem dL_law_499 : decode cL_law 499 = .ok (.goto 625, 3) := gL_law_494.2.2.2.1
theorem dL_law_502 : decode cL_law 502 = .ok (.aload_n 1, 1) := gL_law_494.2.2.2.2.1
theorem dL_law_503 : decode cL_law 503 = .ok (.aload_n 0, 1) := gL_law_494.2.2.2.2.2.1
theorem dL_law_504 : decode cL_law 504 = .ok (.iload_n 3, 1) := gL_law_494.2.2.2.2.2.2
set_option maxRecDepth 20000 in
theorem gL_law_505 : decode cL_law 505 = .ok (.iconst 1, 1) ∧ decode cL_law 506 = .ok (.iadd, 1) ∧ decode cL_law 507 = .ok (.iaload, 1) ∧ decode cL_law 508 = .ok (.aload_n 0, 1) ∧ decode cL_law 509 = .ok (.iload_n 3, 1) ∧ decode cL_law 510 = .ok (.iconst 2, 1) ∧ decode cL_law 511 = .ok (.iadd, 1) := by decide +kernel
theorem dL_law_505 : decode cL_law 505 = .ok (.iconst 1, 1) := gL_law_505.1
theorem dL_law_506 : decode cL_law 506 = .ok (.iadd, 1) := gL_law_505.2.1
theorem dL_law_507 : decode cL_law 507 = .ok (.iaload, 1) := gL_law_505.2.2.1
theorem dL_law_508 : decode cL_law 508 = .ok (.aload_n 0, 1) := gL_law_505.2.2.2.1
theorem dL_law_509 : decode cL_law 509 = .ok (.iload_n 3, 1) := gL_law_505.2.2.2.2.1
theorem dL_law_510 : decode cL_law 510 = .ok (.iconst 2, 1) := gL_law_505.2.2.2.2.2.1
theorem dL_law_511 : decode cL_law 511 = .ok (.iadd, 1) := gL_law_505.2.2.2.2.2.2
set_option maxRecDepth 20000 in
theorem gL_law_512 : decode cL_law 512 = .ok (.iaload, 1) ∧ decode cL_law 513 = .ok (.invokevirtual 49, 3) ∧ decode cL_law 516 = .ok (.pop, 1) ∧ decode cL_law 517 = .ok (.aload_n 2, 1) ∧ decode cL_law 518 = .ok (.aload_n 0, 1) ∧ decode cL_law 519 = .ok (.iload_n 3, 1) := by decide +kernel
theorem dL_law_512 : decode cL_law 512 = .ok (.iaload, 1) := gL_law_512.1
theorem dL_law_513 : decode cL_law 513 = .ok (.invokevirtual 49, 3) := gL_law_512.2.1
theorem dL_law_516 : decode cL_law 516 = .ok (.pop, 1) := gL_law_512.2.2.1
theorem dL_law_517 : decode cL_law 517 = .ok (.aload_n 2, 1) := gL_law_512.2.2.2.1
theorem dL_law_518 : decode cL_law 518 = .ok (.aload_n 0, 1) := gL_law_512.2.2.2.2.1
theorem dL_law_519 : decode cL_law 519 = .ok (.iload_n 3, 1) := gL_law_512.2.2.2.2.2
def k190_14 (scr : Nat × (Nat → Int32)) : List (Nat × XI) := [(494, x_sld scr 495), (495, x_inv 186 8 2 498), (498, x_pop 499), (499, x_goto 1124), (502, x_aload 1 503), (503, x_aload 0 504), (504, x_iload 3 505), (505, x_push (1) 506), (506, x_iadd 507), (507, x_sld scr 508), (508, x_aload 0 509), (509, x_iload 3 510), (510, x_push (2) 511), (511, x_iadd 512), (512, x_sld scr 513), (513, x_inv 104 7 2 516), (516, x_pop 517), (517, x_aload 2 518), (518, x_aload 0 519), (519, x_iload 3 520)]
theorem o190_14 (scr : Nat × (Nat → Int32)) : ∀ q ∈ k190_14 scr, XSnd xm scr Y190 q.1 q.2 := xcons (s_sld rfl dL_law_494) (xcons (s_inv (mid := 186) xC8 cal_186 xw_762 xw_763 xw_764 dL_law_495) (xcons (s_pop dL_law_498) (xcons (s_goto dL_law_499 rfl) (xcons (s_aload_n rfl dL_law_502) (xcons (s_aload_n rfl dL_law_503) (xcons (s_iload_n rfl dL_law_504) (xcons (s_iconst dL_law_505 rfl) (xcons (s_iadd dL_law_506) (xcons (s_sld rfl dL_law_507) (xcons (s_aload_n rfl dL_law_508) (xcons (s_iload_n rfl dL_law_509) (xcons (s_iconst dL_law_510 rfl) (xcons (s_iadd dL_law_511) (xcons (s_sld rfl dL_law_512) (xcons (s_inv (mid := 104) xC7 cal_104 xw_766 xw_767 xw_768 dL_law_513) (xcons (s_pop dL_law_516) (xcons (s_aload_n rfl dL_law_517) (xcons (s_aload_n rfl dL_law_518) (xcons (s_iload_n rfl dL_law_519) (xnil))))))))))))))))))))
set_option maxRecDepth 20000 in
theorem gL_law_520 : decode cL_law 520 = .ok (.iconst 1, 1) ∧ decode cL_law 521 = .ok (.iadd, 1) ∧ decode cL_law 522 = .ok (.iaload, 1) ∧ decode cL_law 523 = .ok (.aload_n 0, 1) ∧ decode cL_law 524 = .ok (.iload_n 3, 1) ∧ decode cL_law 525 = .ok (.iconst 2, 1) ∧ decode cL_law 526 = .ok (.iadd, 1) := by decide +kernel
theorem dL_law_520 : decode cL_law 520 = .ok (.iconst 1, 1) := gL_law_520.1
theorem dL_law_521 : decode cL_law 521 = .ok (.iadd, 1) := gL_law_520.2.1
theorem dL_law_522 : decode cL_law 522 = .ok (.iaload, 1) := gL_law_520.2.2.1
theorem dL_law_523 : decode cL_law 523 = .ok (.aload_n 0, 1) := gL_law_520.2.2.2.1
theorem dL_law_524 : decode cL_law 524 = .ok (.iload_n 3, 1) := gL_law_520.2.2.2.2.1
theorem dL_law_525 : decode cL_law 525 = .ok (.iconst 2, 1) := gL_law_520.2.2.2.2.2.1
theorem dL_law_526 : decode cL_law 526 = .ok (.iadd, 1) := gL_law_520.2.2.2.2.2.2
set_option maxRecDepth 20000 in
theorem gL_law_527 : decode cL_law 527 = .ok (.iaload, 1) ∧ decode cL_law 528 = .ok (.invokevirtual 52, 3) ∧ decode cL_law 531 = .ok (.pop, 1) ∧ decode cL_law 532 = .ok (.goto 592, 3) ∧ decode cL_law 535 = .ok (.aload_n 1, 1) ∧ decode cL_law 536 = .ok (.aload_n 0, 1) ∧ decode cL_law 537 = .ok (.iload_n 3, 1) := by decide +kernel
theorem dL_law_527 : decode cL_law 527 = .ok (.iaload, 1) := gL_law_527.1
theorem dL_law_528 : decode cL_law 528 = .ok (.invokevirtual 52, 3) := gL_law_527.2.1
theorem dL_law_531 : decode cL_law 531 = .ok (.pop, 1) := gL_law_527.2.2.1
theorem dL_law_532 : decode cL_law 532 = .ok (.goto 592, 3) := gL_law_527.2.2.2.1
theorem dL_law_535 : decode cL_law 535 = .ok (.aload_n 1, 1) := gL_law_527.2.2.2.2.1
theorem dL_law_536 : decode cL_law 536 = .ok (.aload_n 0, 1) := gL_law_527.2.2.2.2.2.1
theorem dL_law_537 : decode cL_law 537 = .ok (.iload_n 3, 1) := gL_law_527.2.2.2.2.2.2
set_option maxRecDepth 20000 in
theorem gL_law_538 : decode cL_law 538 = .ok (.iconst 1, 1) ∧ decode cL_law 539 = .ok (.iadd, 1) ∧ decode cL_law 540 = .ok (.iaload, 1) ∧ decode cL_law 541 = .ok (.invokevirtual 53, 3) ∧ decode cL_law 544 = .ok (.pop, 1) ∧ decode cL_law 545 = .ok (.aload_n 2, 1) := by decide +kernel
theorem dL_law_538 : decode cL_law 538 = .ok (.iconst 1, 1) := gL_law_538.1
theorem dL_law_539 : decode cL_law 539 = .ok (.iadd, 1) := gL_law_538.2.1
theorem dL_law_540 : decode cL_law 540 = .ok (.iaload, 1) := gL_law_538.2.2.1
theorem dL_law_541 : decode cL_law 541 = .ok (.invokevirtual 53, 3) := gL_law_538.2.2.2.1
theorem dL_law_544 : decode cL_law 544 = .ok (.pop, 1) := gL_law_538.2.2.2.2.1
theorem dL_law_545 : decode cL_law 545 = .ok (.aload_n 2, 1) := gL_law_538.2.2.2.2.2
def k190_15 (scr : Nat × (Nat → Int32)) : List (Nat × XI) := [(520, x_push (1) 521), (521, x_iadd 522), (522, x_sld scr 523), (523, x_aload 0 524), (524, x_iload 3 525), (525, x_push (2) 526), (526, x_iadd 527), (527, x_sld scr 528), (528, x_inv 182 8 2 531), (531, x_pop 532), (532, x_goto 1124), (535, x_aload 1 536), (536, x_aload 0 537), (537, x_iload 3 538), (538, x_push (1) 539), (539, x_iadd 540), (540, x_sld scr 541), (541, x_inv 101 7 1 544), (544, x_pop 545), (545, x_aload 2 546)]
theorem o190_15 (scr : Nat × (Nat → Int32)) : ∀ q ∈ k190_15 scr, XSnd xm scr Y190 q.1 q.2 := xcons (s_iconst dL_law_520 rfl) (xcons (s_iadd dL_law_521) (xcons (s_sld rfl dL_law_522) (xcons (s_aload_n rfl dL_law_523) (xcons (s_iload_n rfl dL_law_524) (xcons (s_iconst dL_law_525 rfl) (xcons (s_iadd dL_law_526) (xcons (s_sld rfl dL_law_527) (xcons (s_inv (mid := 182) xC8 cal_182 xw_770 xw_771 xw_772 dL_law_528) (xcons (s_pop dL_law_531) (xcons (s_goto dL_law_532 rfl) (xcons (s_aload_n rfl dL_law_535) (xcons (s_aload_n rfl dL_law_536) (xcons (s_iload_n rfl dL_law_537) (xcons (s_iconst dL_law_538 rfl) (xcons (s_iadd dL_law_539) (xcons (s_sld rfl dL_law_540) (xcons (s_inv (mid := 101) xC7 cal_101 xw_774 xw_775 xw_776 dL_law_541) (xcons (s_pop dL_law_544) (xcons (s_aload_n rfl dL_law_545) (xnil))))))))))))))))))))
set_option maxRecDepth 20000 in
theorem gL_law_546 : decode cL_law 546 = .ok (.aload_n 0, 1) ∧ decode cL_law 547 = .ok (.iload_n 3, 1) ∧ decode cL_law 548 = .ok (.iconst 1, 1) ∧ decode cL_law 549 = .ok (.iadd, 1) ∧ decode cL_law 550 = .ok (.iaload, 1) ∧ decode cL_law 551 = .ok (.invokevirtual 56, 3) ∧ decode cL_law 554 = .ok (.pop, 1) := by decide +kernel
theorem dL_law_546 : decode cL_law 546 = .ok (.aload_n 0, 1) := gL_law_546.1
theorem dL_law_547 : decode cL_law 547 = .ok (.iload_n 3, 1) := gL_law_546.2.1
theorem dL_law_548 : decode cL_law 548 = .ok (.iconst 1, 1) := gL_law_546.2.2.1
theorem dL_law_549 : decode cL_law 549 = .ok (.iadd, 1) := gL_law_546.2.2.2.1
theorem dL_law_550 : decode cL_law 550 = .ok (.iaload, 1) := gL_law_546.2.2.2.2.1
theorem dL_law_551 : decode cL_law 551 = .ok (.invokevirtual 56, 3) := gL_law_546.2.2.2.2.2.1
theorem dL_law_554 : decode cL_law 554 = .ok (.pop, 1) := gL_law_546.2.2.2.2.2.2
set_option maxRecDepth 20000 in
theorem gL_law_555 : decode cL_law 555 = .ok (.goto 569, 3) ∧ decode cL_law 558 = .ok (.aload_n 1, 1) ∧ decode cL_law 559 = .ok (.aload_n 0, 1) ∧ decode cL_law 560 = .ok (.iload_n 3, 1) ∧ decode cL_law 561 = .ok (.iconst 1, 1) ∧ decode cL_law 562 = .ok (.iadd, 1) ∧ decode cL_law 563 = .ok (.iaload, 1) := by decide +kernel
theorem dL_law_555 : decode cL_law 555 = .ok (.goto 569, 3) := gL_law_555.1
theorem dL_law_558 : decode cL_law 558 = .ok (.aload_n 1, 1) := gL_law_555.2.1
theorem dL_law_559 : decode cL_law 559 = .ok (.aload_n 0, 1) := gL_law_555.2.2.1
theorem dL_law_560 : decode cL_law 560 = .ok (.iload_n 3, 1) := gL_law_555.2.2.2.1
theorem dL_law_561 : decode cL_law 561 = .ok (.iconst 1, 1) := gL_law_555.2.2.2.2.1
theorem dL_law_562 : decode cL_law 562 = .ok (.iadd, 1) := gL_law_555.2.2.2.2.2.1
theorem dL_law_563 : decode cL_law 563 = .ok (.iaload, 1) := gL_law_555.2.2.2.2.2.2
set_option maxRecDepth 20000 in
theorem gL_law_564 : decode cL_law 564 = .ok (.invokevirtual 57, 3) ∧ decode cL_law 567 = .ok (.pop, 1) ∧ decode cL_law 568 = .ok (.aload_n 2, 1) ∧ decode cL_law 569 = .ok (.aload_n 0, 1) ∧ decode cL_law 570 = .ok (.iload_n 3, 1) ∧ decode cL_law 571 = .ok (.iconst 1, 1) := by decide +kernel
theorem dL_law_564 : decode cL_law 564 = .ok (.invokevirtual 57, 3) := gL_law_564.1
theorem dL_law_567 : decode cL_law 567 = .ok (.pop, 1) := gL_law_564.2.1
theorem dL_law_568 : decode cL_law 568 = .ok (.aload_n 2, 1) := gL_law_564.2.2.1
theorem dL_law_569 : decode cL_law 569 = .ok (.aload_n 0, 1) := gL_law_564.2.2.2.1
theorem dL_law_570 : decode cL_law 570 = .ok (.iload_n 3, 1) := gL_law_564.2.2.2.2.1
theorem dL_law_571 : decode cL_law 571 = .ok (.iconst 1, 1) := gL_law_564.2.2.2.2.2
def k190_16 (scr : Nat × (Nat → Int32)) : List (Nat × XI) := [(546, x_aload 0 547), (547, x_iload 3 548), (548, x_push (1) 549), (549, x_iadd 550), (550, x_sld scr 551), (551, x_inv 175 8 1 554), (554, x_pop 555), (555, x_goto 1124), (558, x_aload 1 559), (559, x_aload 0 560), (560, x_iload 3 561), (561, x_push (1) 562), (562, x_iadd 563), (563, x_sld scr 564), (564, x_inv 96 7 1 567), (567, x_pop 568), (568, x_aload 2 569), (569, x_aload 0 570), (570, x_iload 3 571), (571, x_push (1) 572)]
theorem o190_16 (scr : Nat × (Nat → Int32)) : ∀ q ∈ k190_16 scr, XSnd xm scr Y190 q.1 q.2 := xcons (s_aload_n rfl dL_law_546) (xcons (s_iload_n rfl dL_law_547) (xcons (s_iconst dL_law_548 rfl) (xcons (s_iadd dL_law_549) (xcons (s_sld rfl dL_law_550) (xcons (s_inv (mid := 175) xC8 cal_175 xw_778 xw_779 xw_780 dL_law_551) (xcons (s_pop dL_law_554) (xcons (s_goto dL_law_555 rfl) (xcons (s_aload_n rfl dL_law_558) (xcons (s_aload_n rfl dL_law_559) (xcons (s_iload_n rfl dL_law_560) (xcons (s_iconst dL_law_561 rfl) (xcons (s_iadd dL_law_562) (xcons (s_sld rfl dL_law_563) (xcons (s_inv (mid := 96) xC7 cal_96 xw_782 xw_783 xw_784 dL_law_564) (xcons (s_pop dL_law_567) (xcons (s_aload_n rfl dL_law_568) (xcons (s_aload_n rfl dL_law_569) (xcons (s_iload_n rfl dL_law_570) (xcons (s_iconst dL_law_571 rfl) (xnil))))))))))))))))))))
set_option maxRecDepth 20000 in
theorem gL_law_572 : decode cL_law 572 = .ok (.iadd, 1) ∧ decode cL_law 573 = .ok (.iaload, 1) ∧ decode cL_law 574 = .ok (.invokevirtual 60, 3) ∧ decode cL_law 577 = .ok (.pop, 1) ∧ decode cL_law 578 = .ok (.goto 546, 3) ∧ decode cL_law 581 = .ok (.aload_n 1, 1) ∧ decode cL_law 582 = .ok (.invokevirtual 61, 3) := by decide +kernel
theorem dL_law_572 : decode cL_law 572 = .ok (.iadd, 1) := gL_law_572.1
theorem dL_law_573 : decode cL_law 573 = .ok (.iaload, 1) := gL_law_572.2.1
theorem dL_law_574 : decode cL_law 574 = .ok (.invokevirtual 60, 3) := gL_law_572.2.2.1
theorem dL_law_577 : decode cL_law 577 = .ok (.pop, 1) := gL_law_572.2.2.2.1
theorem dL_law_578 : decode cL_law 578 = .ok (.goto 546, 3) := gL_law_572.2.2.2.2.1
theorem dL_law_581 : decode cL_law 581 = .ok (.aload_n 1, 1) := gL_law_572.2.2.2.2.2.1
theorem dL_law_582 : decode cL_law 582 = .ok (.invokevirtual 61, 3) := gL_law_572.2.2.2.2.2.2
set_option maxRecDepth 20000 in
theorem gL_law_585 : decode cL_law 585 = .ok (.pop, 1) ∧ decode cL_law 586 = .ok (.aload_n 2, 1) ∧ decode cL_law 587 = .ok (.invokevirtual 65, 3) ∧ decode cL_law 590 = .ok (.pop, 1) ∧ decode cL_law 591 = .ok (.goto 533, 3) ∧ decode cL_law 594 = .ok (.aload_n 1, 1) ∧ decode cL_law 595 = .ok (.aload_n 0, 1) := by decide +kernel
theorem dL_law_585 : decode cL_law 585 = .ok (.pop, 1) := gL_law_585.1
theorem dL_law_586 : decode cL_law 586 = .ok (.aload_n 2, 1) := gL_law_585.2.1
theorem dL_law_587 : decode cL_law 587 = .ok (.invokevirtual 65, 3) := gL_law_585.2.2.1
theorem dL_law_590 : decode cL_law 590 = .ok (.pop, 1) := gL_law_585.2.2.2.1
theorem dL_law_591 : decode cL_law 591 = .ok (.goto 533, 3) := gL_law_585.2.2.2.2.1
theorem dL_law_594 : decode cL_law 594 = .ok (.aload_n 1, 1) := gL_law_585.2.2.2.2.2.1
theorem dL_law_595 : decode cL_law 595 = .ok (.aload_n 0, 1) := gL_law_585.2.2.2.2.2.2
set_option maxRecDepth 20000 in
theorem gL_law_596 : decode cL_law 596 = .ok (.iload_n 3, 1) ∧ decode cL_law 597 = .ok (.iconst 1, 1) ∧ decode cL_law 598 = .ok (.iadd, 1) ∧ decode cL_law 599 = .ok (.iaload, 1) ∧ decode cL_law 600 = .ok (.invokevirtual 66, 3) ∧ decode cL_law 603 = .ok (.pop, 1) := by decide +kernel
theorem dL_law_596 : decode cL_law 596 = .ok (.iload_n 3, 1) := gL_law_596.1
theorem dL_law_597 : decode cL_law 597 = .ok (.iconst 1, 1) := gL_law_596.2.1
theorem dL_law_598 : decode cL_law 598 = .ok (.iadd, 1) := gL_law_596.2.2.1
theorem dL_law_599 : decode cL_law 599 = .ok (.iaload, 1) := gL_law_596.2.2.2.1
theorem dL_law_600 : decode cL_law 600 = .ok (.invokevirtual 66, 3) := gL_law_596.2.2.2.2.1
theorem dL_law_603 : decode cL_law 603 = .ok (.pop, 1) := gL_law_596.2.2.2.2.2
def k190_17 (scr : Nat × (Nat → Int32)) : List (Nat × XI) := [(572, x_iadd 573), (573, x_sld scr 574), (574, x_inv 165 8 1 577), (577, x_pop 578), (578, x_goto 1124), (581, x_aload 1 582), (582, x_inv 77 7 0 585), (585, x_pop 586), (586, x_aload 2 587), (587, x_inv 124 8 0 590), (590, x_pop 591), (591, x_goto 1124), (594, x_aload 1 595), (595, x_aload 0 596), (596, x_iload 3 597), (597, x_push (1) 598), (598, x_iadd 599), (599, x_sld scr 600), (600, x_inv 88 7 1 603), (603, x_pop 604)]
theorem o190_17 (scr : Nat × (Nat → Int32)) : ∀ q ∈ k190_17 scr, XSnd xm scr Y190 q.1 q.2 := xcons (s_iadd dL_law_572) (xcons (s_sld rfl dL_law_573) (xcons (s_inv (mid := 165) xC8 cal_165 xw_785 xw_554 xw_555 dL_law_574) (xcons (s_pop dL_law_577) (xcons (s_goto dL_law_578 rfl) (xcons (s_aload_n rfl dL_law_581) (xcons (s_inv (mid := 77) xC7 cal_77 xw_787 xw_788 xw_789 dL_law_582) (xcons (s_pop dL_law_585) (xcons (s_aload_n rfl dL_law_586) (xcons (s_inv (mid := 124) xC8 cal_124 xw_791 xw_792 xw_793 dL_law_587) (xcons (s_pop dL_law_590) (xcons (s_goto dL_law_591 rfl) (xcons (s_aload_n rfl dL_law_594) (xcons (s_aload_n rfl dL_law_595) (xcons (s_iload_n rfl dL_law_596) (xcons (s_iconst dL_law_597 rfl) (xcons (s_iadd dL_law_598) (xcons (s_sld rfl dL_law_599) (xcons (s_inv (mid := 88) xC7 cal_88 xw_795 xw_796 xw_797 dL_law_600) (xcons (s_pop dL_law_603) (xnil))))))))))))))))))))
set_option maxRecDepth 20000 in
theorem gL_law_604 : decode cL_law 604 = .ok (.aload_n 2, 1) ∧ decode cL_law 605 = .ok (.aload_n 0, 1) ∧ decode cL_law 606 = .ok (.iload_n 3, 1) ∧ decode cL_law 607 = .ok (.iconst 1, 1) ∧ decode cL_law 608 = .ok (.iadd, 1) ∧ decode cL_law 609 = .ok (.iaload, 1) ∧ decode cL_law 610 = .ok (.invokevirtual 69, 3) := by decide +kernel
theorem dL_law_604 : decode cL_law 604 = .ok (.aload_n 2, 1) := gL_law_604.1
theorem dL_law_605 : decode cL_law 605 = .ok (.aload_n 0, 1) := gL_law_604.2.1
theorem dL_law_606 : decode cL_law 606 = .ok (.iload_n 3, 1) := gL_law_604.2.2.1
theorem dL_law_607 : decode cL_law 607 = .ok (.iconst 1, 1) := gL_law_604.2.2.2.1
theorem dL_law_608 : decode cL_law 608 = .ok (.iadd, 1) := gL_law_604.2.2.2.2.1
theorem dL_law_609 : decode cL_law 609 = .ok (.iaload, 1) := gL_law_604.2.2.2.2.2.1
theorem dL_law_610 : decode cL_law 610 = .ok (.invokevirtual 69, 3) := gL_law_604.2.2.2.2.2.2
set_option maxRecDepth 20000 in
theorem gL_law_613 : decode cL_law 613 = .ok (.pop, 1) ∧ decode cL_law 614 = .ok (.goto 510, 3) ∧ decode cL_law 617 = .ok (.aload_n 1, 1) ∧ decode cL_law 618 = .ok (.aload_n 0, 1) ∧ decode cL_law 619 = .ok (.iload_n 3, 1) ∧ decode cL_law 620 = .ok (.iconst 1, 1) ∧ decode cL_law 621 = .ok (.iadd, 1) := by decide +kernel
theorem dL_law_613 : decode cL_law 613 = .ok (.pop, 1) := gL_law_613.1
theorem dL_law_614 : decode cL_law 614 = .ok (.goto 510, 3) := gL_law_613.2.1
theorem dL_law_617 : decode cL_law 617 = .ok (.aload_n 1, 1) := gL_law_613.2.2.1
theorem dL_law_618 : decode cL_law 618 = .ok (.aload_n 0, 1) := gL_law_613.2.2.2.1
theorem dL_law_619 : decode cL_law 619 = .ok (.iload_n 3, 1) := gL_law_613.2.2.2.2.1
theorem dL_law_620 : decode cL_law 620 = .ok (.iconst 1, 1) := gL_law_613.2.2.2.2.2.1
theorem dL_law_621 : decode cL_law 621 = .ok (.iadd, 1) := gL_law_613.2.2.2.2.2.2
set_option maxRecDepth 20000 in
theorem gL_law_622 : decode cL_law 622 = .ok (.iaload, 1) ∧ decode cL_law 623 = .ok (.aload_n 0, 1) ∧ decode cL_law 624 = .ok (.iload_n 3, 1) ∧ decode cL_law 625 = .ok (.iconst 2, 1) ∧ decode cL_law 626 = .ok (.iadd, 1) ∧ decode cL_law 627 = .ok (.iaload, 1) := by decide +kernel
theorem dL_law_622 : decode cL_law 622 = .ok (.iaload, 1) := gL_law_622.1
theorem dL_law_623 : decode cL_law 623 = .ok (.aload_n 0, 1) := gL_law_622.2.1
theorem dL_law_624 : decode cL_law 624 = .ok (.iload_n 3, 1) := gL_law_622.2.2.1
theorem dL_law_625 : decode cL_law 625 = .ok (.iconst 2, 1) := gL_law_622.2.2.2.1
theorem dL_law_626 : decode cL_law 626 = .ok (.iadd, 1) := gL_law_622.2.2.2.2.1
theorem dL_law_627 : decode cL_law 627 = .ok (.iaload, 1) := gL_law_622.2.2.2.2.2
def k190_18 (scr : Nat × (Nat → Int32)) : List (Nat × XI) := [(604, x_aload 2 605), (605, x_aload 0 606), (606, x_iload 3 607), (607, x_push (1) 608), (608, x_iadd 609), (609, x_sld scr 610), (610, x_inv 148 8 1 613), (613, x_pop 614), (614, x_goto 1124), (617, x_aload 1 618), (618, x_aload 0 619), (619, x_iload 3 620), (620, x_push (1) 621), (621, x_iadd 622), (622, x_sld scr 623), (623, x_aload 0 624), (624, x_iload 3 625), (625, x_push (2) 626), (626, x_iadd 627), (627, x_sld scr 628)]
theorem o190_18 (scr : Nat × (Nat → Int32)) : ∀ q ∈ k190_18 scr, XSnd xm scr Y190 q.1 q.2 := xcons (s_aload_n rfl dL_law_604) (xcons (s_aload_n rfl dL_law_605) (xcons (s_iload_n rfl dL_law_606) (xcons (s_iconst dL_law_607 rfl) (xcons (s_iadd dL_law_608) (xcons (s_sld rfl dL_law_609) (xcons (s_inv (mid := 148) xC8 cal_148 xw_799 xw_800 xw_801 dL_law_610) (xcons (s_pop dL_law_613) (xcons (s_goto dL_law_614 rfl) (xcons (s_aload_n rfl dL_law_617) (xcons (s_aload_n rfl dL_law_618) (xcons (s_iload_n rfl dL_law_619) (xcons (s_iconst dL_law_620 rfl) (xcons (s_iadd dL_law_621) (xcons (s_sld rfl dL_law_622) (xcons (s_aload_n rfl dL_law_623) (xcons (s_iload_n rfl dL_law_624) (xcons (s_iconst dL_law_625 rfl) (xcons (s_iadd dL_law_626) (xcons (s_sld rfl dL_law_627) (xnil))))))))))))))))))))
set_option maxRecDepth 20000 in
theorem gL_law_628 : decode cL_law 628 = .ok (.invokevirtual 70, 3) ∧ decode cL_law 631 = .ok (.pop, 1) ∧ decode cL_law 632 = .ok (.aload_n 2, 1) ∧ decode cL_law 633 = .ok (.aload_n 0, 1) ∧ decode cL_law 634 = .ok (.iload_n 3, 1) ∧ decode cL_law 635 = .ok (.iconst 1, 1) ∧ decode cL_law 636 = .ok (.iadd, 1) := by decide +kernel
theorem dL_law_628 : decode cL_law 628 = .ok (.invokevirtual 70, 3) := gL_law_628.1
theorem dL_law_631 : decode cL_law 631 = .ok (.pop, 1) := gL_law_628.2.1
theorem dL_law_632 : decode cL_law 632 = .ok (.aload_n 2, 1) := gL_law_628.2.2.1
theorem dL_law_633 : decode cL_law 633 = .ok (.aload_n 0, 1) := gL_law_628.2.2.2.1
theorem dL_law_634 : decode cL_law 634 = .ok (.iload_n 3, 1) := gL_law_628.2.2.2.2.1
theorem dL_law_635 : decode cL_law 635 = .ok (.iconst 1, 1) := gL_law_628.2.2.2.2.2.1
theorem dL_law_636 : decode cL_law 636 = .ok (.iadd, 1) := gL_law_628.2.2.2.2.2.2
set_option maxRecDepth 20000 in
theorem gL_law_637 : decode cL_law 637 = .ok (.iaload, 1) ∧ decode cL_law 638 = .ok (.aload_n 0, 1) ∧ decode cL_law 639 = .ok (.iload_n 3, 1) ∧ decode cL_law 640 = .ok (.iconst 2, 1) ∧ decode cL_law 641 = .ok (.iadd, 1) ∧ decode cL_law 642 = .ok (.iaload, 1) ∧ decode cL_law 643 = .ok (.invokevirtual 73, 3) := by decide +kernel
theorem dL_law_637 : decode cL_law 637 = .ok (.iaload, 1) := gL_law_637.1
theorem dL_law_638 : decode cL_law 638 = .ok (.aload_n 0, 1) := gL_law_637.2.1
theorem dL_law_639 : decode cL_law 639 = .ok (.iload_n 3, 1) := gL_law_637.2.2.1
theorem dL_law_640 : decode cL_law 640 = .ok (.iconst 2, 1) := gL_law_637.2.2.2.1
theorem dL_law_641 : decode cL_law 641 = .ok (.iadd, 1) := gL_law_637.2.2.2.2.1
theorem dL_law_642 : decode cL_law 642 = .ok (.iaload, 1) := gL_law_637.2.2.2.2.2.1
theorem dL_law_643 : decode cL_law 643 = .ok (.invokevirtual 73, 3) := gL_law_637.2.2.2.2.2.2
set_option maxRecDepth 20000 in
theorem gL_law_646 : decode cL_law 646 = .ok (.pop, 1) ∧ decode cL_law 647 = .ok (.goto 477, 3) ∧ decode cL_law 650 = .ok (.aload_n 1, 1) ∧ decode cL_law 651 = .ok (.aload_n 0, 1) ∧ decode cL_law 652 = .ok (.iload_n 3, 1) ∧ decode cL_law 653 = .ok (.iconst 1, 1) := by decide +kernel
theorem dL_law_646 : decode cL_law 646 = .ok (.pop, 1) := gL_law_646.1
theorem dL_law_647 : decode cL_law 647 = .ok (.goto 477, 3) := gL_law_646.2.1
theorem dL_law_650 : decode cL_law 650 = .ok (.aload_n 1, 1) := gL_law_646.2.2.1
theorem dL_law_651 : decode cL_law 651 = .ok (.aload_n 0, 1) := gL_law_646.2.2.2.1
theorem dL_law_652 : decode cL_law 652 = .ok (.iload_n 3, 1) := gL_law_646.2.2.2.2.1
theorem dL_law_653 : decode cL_law 653 = .ok (.iconst 1, 1) := gL_law_646.2.2.2.2.2
def k190_19 (scr : Nat × (Nat → Int32)) : List (Nat × XI) := [(628, x_inv 71 7 2 631), (631, x_pop 632), (632, x_aload 2 633), (633, x_aload 0 634), (634, x_iload 3 635), (635, x_push (1) 636), (636, x_iadd 637), (637, x_sld scr 638), (638, x_aload 0 639), (639, x_iload 3 640), (640, x_push (2) 641), (641, x_iadd 642), (642, x_sld scr 643), (643, x_inv 113 8 2 646), (646, x_pop 647), (647, x_goto 1124), (650, x_aload 1 651), (651, x_aload 0 652), (652, x_iload 3 653), (653, x_push (1) 654)]
theorem o190_19 (scr : Nat × (Nat → Int32)) : ∀ q ∈ k190_19 scr, XSnd xm scr Y190 q.1 q.2 := xcons (s_inv (mid := 71) xC7 cal_71 xw_803 xw_804 xw_805 dL_law_628) (xcons (s_pop dL_law_631) (xcons (s_aload_n rfl dL_law_632) (xcons (s_aload_n rfl dL_law_633) (xcons (s_iload_n rfl dL_law_634) (xcons (s_iconst dL_law_635 rfl) (xcons (s_iadd dL_law_636) (xcons (s_sld rfl dL_law_637) (xcons (s_aload_n rfl dL_law_638) (xcons (s_iload_n rfl dL_law_639) (xcons (s_iconst dL_law_640 rfl) (xcons (s_iadd dL_law_641) (xcons (s_sld rfl dL_law_642) (xcons (s_inv (mid := 113) xC8 cal_113 xw_807 xw_808 xw_809 dL_law_643) (xcons (s_pop dL_law_646) (xcons (s_goto dL_law_647 rfl) (xcons (s_aload_n rfl dL_law_650) (xcons (s_aload_n rfl dL_law_651) (xcons (s_iload_n rfl dL_law_652) (xcons (s_iconst dL_law_653 rfl) (xnil))))))))))))))))))))
set_option maxRecDepth 20000 in
theorem gL_law_654 : decode cL_law 654 = .ok (.iadd, 1) ∧ decode cL_law 655 = .ok (.iaload, 1) ∧ decode cL_law 656 = .ok (.aload_n 0, 1) ∧ decode cL_law 657 = .ok (.iload_n 3, 1) ∧ decode cL_law 658 = .ok (.iconst 2, 1) ∧ decode cL_law 659 = .ok (.iadd, 1) ∧ decode cL_law 660 = .ok (.iaload, 1) := by decide +kernel
theorem dL_law_654 : decode cL_law 654 = .ok (.iadd, 1) := gL_law_654.1
theorem dL_law_655 : decode cL_law 655 = .ok (.iaload, 1) := gL_law_654.2.1
theorem dL_law_656 : decode cL_law 656 = .ok (.aload_n 0, 1) := gL_law_654.2.2.1
theorem dL_law_657 : decode cL_law 657 = .ok (.iload_n 3, 1) := gL_law_654.2.2.2.1
theorem dL_law_658 : decode cL_law 658 = .ok (.iconst 2, 1) := gL_law_654.2.2.2.2.1
theorem dL_law_659 : decode cL_law 659 = .ok (.iadd, 1) := gL_law_654.2.2.2.2.2.1
theorem dL_law_660 : decode cL_law 660 = .ok (.iaload, 1) := gL_law_654.2.2.2.2.2.2
set_option maxRecDepth 20000 in
theorem gL_law_661 : decode cL_law 661 = .ok (.invokevirtual 74, 3) ∧ decode cL_law 664 = .ok (.pop, 1) ∧ decode cL_law 665 = .ok (.aload_n 2, 1) ∧ decode cL_law 666 = .ok (.aload_n 0, 1) ∧ decode cL_law 667 = .ok (.iload_n 3, 1) ∧ decode cL_law 668 = .ok (.iconst 1, 1) ∧ decode cL_law 669 = .ok (.iadd, 1) := by decide +kernel
theorem dL_law_661 : decode cL_law 661 = .ok (.invokevirtual 74, 3) := gL_law_661.1
theorem dL_law_664 : decode cL_law 664 = .ok (.pop, 1) := gL_law_661.2.1
theorem dL_law_665 : decode cL_law 665 = .ok (.aload_n 2, 1) := gL_law_661.2.2.1
theorem dL_law_666 : decode cL_law 666 = .ok (.aload_n 0, 1) := gL_law_661.2.2.2.1
theorem dL_law_667 : decode cL_law 667 = .ok (.iload_n 3, 1) := gL_law_661.2.2.2.2.1
theorem dL_law_668 : decode cL_law 668 = .ok (.iconst 1, 1) := gL_law_661.2.2.2.2.2.1
theorem dL_law_669 : decode cL_law 669 = .ok (.iadd, 1) := gL_law_661.2.2.2.2.2.2
set_option maxRecDepth 20000 in
theorem gL_law_670 : decode cL_law 670 = .ok (.iaload, 1) ∧ decode cL_law 671 = .ok (.aload_n 0, 1) ∧ decode cL_law 672 = .ok (.iload_n 3, 1) ∧ decode cL_law 673 = .ok (.iconst 2, 1) ∧ decode cL_law 674 = .ok (.iadd, 1) ∧ decode cL_law 675 = .ok (.iaload, 1) := by decide +kernel
theorem dL_law_670 : decode cL_law 670 = .ok (.iaload, 1) := gL_law_670.1
theorem dL_law_671 : decode cL_law 671 = .ok (.aload_n 0, 1) := gL_law_670.2.1
theorem dL_law_672 : decode cL_law 672 = .ok (.iload_n 3, 1) := gL_law_670.2.2.1
theorem dL_law_673 : decode cL_law 673 = .ok (.iconst 2, 1) := gL_law_670.2.2.2.1
theorem dL_law_674 : decode cL_law 674 = .ok (.iadd, 1) := gL_law_670.2.2.2.2.1
theorem dL_law_675 : decode cL_law 675 = .ok (.iaload, 1) := gL_law_670.2.2.2.2.2
def k190_20 (scr : Nat × (Nat → Int32)) : List (Nat × XI) := [(654, x_iadd 655), (655, x_sld scr 656), (656, x_aload 0 657), (657, x_iload 3 658), (658, x_push (2) 659), (659, x_iadd 660), (660, x_sld scr 661), (661, x_inv 76 7 2 664), (664, x_pop 665), (665, x_aload 2 666), (666, x_aload 0 667), (667, x_iload 3 668), (668, x_push (1) 669), (669, x_iadd 670), (670, x_sld scr 671), (671, x_aload 0 672), (672, x_iload 3 673), (673, x_push (2) 674), (674, x_iadd 675), (675, x_sld scr 676)]
theorem o190_20 (scr : Nat × (Nat → Int32)) : ∀ q ∈ k190_20 scr, XSnd xm scr Y190 q.1 q.2 := xcons (s_iadd dL_law_654) (xcons (s_sld rfl dL_law_655) (xcons (s_aload_n rfl dL_law_656) (xcons (s_iload_n rfl dL_law_657) (xcons (s_iconst dL_law_658 rfl) (xcons (s_iadd dL_law_659) (xcons (s_sld rfl dL_law_660) (xcons (s_inv (mid := 76) xC7 cal_76 xw_811 xw_812 xw_813 dL_law_661) (xcons (s_pop dL_law_664) (xcons (s_aload_n rfl dL_law_665) (xcons (s_aload_n rfl dL_law_666) (xcons (s_iload_n rfl dL_law_667) (xcons (s_iconst dL_law_668 rfl) (xcons (s_iadd dL_law_669) (xcons (s_sld rfl dL_law_670) (xcons (s_aload_n rfl dL_law_671) (xcons (s_iload_n rfl dL_law_672) (xcons (s_iconst dL_law_673 rfl) (xcons (s_iadd dL_law_674) (xcons (s_sld rfl dL_law_675) (xnil))))))))))))))))))))
set_option maxRecDepth 20000 in
theorem gL_law_676 : decode cL_law 676 = .ok (.invokevirtual 77, 3) ∧ decode cL_law 679 = .ok (.pop, 1) ∧ decode cL_law 680 = .ok (.goto 444, 3) ∧ decode cL_law 683 = .ok (.aload_n 1, 1) ∧ decode cL_law 684 = .ok (.invokevirtual 78, 3) ∧ decode cL_law 687 = .ok (.pop, 1) ∧ decode cL_law 688 = .ok (.aload_n 2, 1) := by decide +kernel
theorem dL_law_676 : decode cL_law 676 = .ok (.invokevirtual 77, 3) := gL_law_676.1
theorem dL_law_679 : decode cL_law 679 = .ok (.pop, 1) := gL_law_676.2.1
theorem dL_law_680 : decode cL_law 680 = .ok (.goto 444, 3) := gL_law_676.2.2.1
theorem dL_law_683 : decode cL_law 683 = .ok (.aload_n 1, 1) := gL_law_676.2.2.2.1
theorem dL_law_684 : decode cL_law 684 = .ok (.invokevirtual 78, 3) := gL_law_676.2.2.2.2.1
theorem dL_law_687 : decode cL_law 687 = .ok (.pop, 1) := gL_law_676.2.2.2.2.2.1
theorem dL_law_688 : decode cL_law 688 = .ok (.aload_n 2, 1) := gL_law_676.2.2.2.2.2.2
set_option maxRecDepth 20000 in
theorem gL_law_689 : decode cL_law 689 = .ok (.invokevirtual 81, 3) ∧ decode cL_law 692 = .ok (.pop, 1) ∧ decode cL_law 693 = .ok (.goto 431, 3) ∧ decode cL_law 696 = .ok (.aload_n 1, 1) ∧ decode cL_law 697 = .ok (.invokevirtual 82, 3) ∧ decode cL_law 700 = .ok (.pop, 1) ∧ decode cL_law 701 = .ok (.aload_n 2, 1) := by decide +kernel
theorem dL_law_689 : decode cL_law 689 = .ok (.invokevirtual 81, 3) := gL_law_689.1
theorem dL_law_692 : decode cL_law 692 = .ok (.pop, 1) := gL_law_689.2.1
theorem dL_law_693 : decode cL_law 693 = .ok (.goto 431, 3) := gL_law_689.2.2.1
theorem dL_law_696 : decode cL_law 696 = .ok (.aload_n 1, 1) := gL_law_689.2.2.2.1
theorem dL_law_697 : decode cL_law 697 = .ok (.invokevirtual 82, 3) := gL_law_689.2.2.2.2.1
theorem dL_law_700 : decode cL_law 700 = .ok (.pop, 1) := gL_law_689.2.2.2.2.2.1
theorem dL_law_701 : decode cL_law 701 = .ok (.aload_n 2, 1) := gL_law_689.2.2.2.2.2.2
set_option maxRecDepth 20000 in
theorem gL_law_702 : decode cL_law 702 = .ok (.invokevirtual 85, 3) ∧ decode cL_law 705 = .ok (.pop, 1) ∧ decode cL_law 706 = .ok (.goto 418, 3) ∧ decode cL_law 709 = .ok (.aload_n 1, 1) ∧ decode cL_law 710 = .ok (.aload_n 0, 1) ∧ decode cL_law 711 = .ok (.iload_n 3, 1) := by decide +kernel
theorem dL_law_702 : decode cL_law 702 = .ok (.invokevirtual 85, 3) := gL_law_702.1
theorem dL_law_705 : decode cL_law 705 = .ok (.pop, 1) := gL_law_702.2.1
theorem dL_law_706 : decode cL_law 706 = .ok (.goto 418, 3) := gL_law_702.2.2.1
theorem dL_law_709 : decode cL_law 709 = .ok (.aload_n 1, 1) := gL_law_702.2.2.2.1
theorem dL_law_710 : decode cL_law 710 = .ok (.aload_n 0, 1) := gL_law_702.2.2.2.2.1
theorem dL_law_711 : decode cL_law 711 = .ok (.iload_n 3, 1) := gL_law_702.2.2.2.2.2
def k190_21 (scr : Nat × (Nat → Int32)) : List (Nat × XI) := [(676, x_inv 123 8 2 679), (679, x_pop 680), (680, x_goto 1124), (683, x_aload 1 684), (684, x_inv 79 7 0 687), (687, x_pop 688), (688, x_aload 2 689), (689, x_inv 127 8 0 692), (692, x_pop 693), (693, x_goto 1124), (696, x_aload 1 697), (697, x_inv 93 7 0 700), (700, x_pop 701), (701, x_aload 2 702), (702, x_inv 161 8 0 705), (705, x_pop 706), (706, x_goto 1124), (709, x_aload 1 710), (710, x_aload 0 711), (711, x_iload 3 712)]
theorem o190_21 (scr : Nat × (Nat → Int32)) : ∀ q ∈ k190_21 scr, XSnd xm scr Y190 q.1 q.2 := xcons (s_inv (mid := 123) xC8 cal_123 xw_815 xw_816 xw_817 dL_law_676) (xcons (s_pop dL_law_679) (xcons (s_goto dL_law_680 rfl) (xcons (s_aload_n rfl dL_law_683) (xcons (s_inv (mid := 79) xC7 cal_79 xw_819 xw_820 xw_821 dL_law_684) (xcons (s_pop dL_law_687) (xcons (s_aload_n rfl dL_law_688) (xcons (s_inv (mid := 127) xC8 cal_127 xw_823 xw_824 xw_825 dL_law_689) (xcons (s_pop dL_law_692) (xcons (s_goto dL_law_693 rfl) (xcons (s_aload_n rfl dL_law_696) (xcons (s_inv (mid := 93) xC7 cal_93 xw_827 xw_828 xw_829 dL_law_697) (xcons (s_pop dL_law_700) (xcons (s_aload_n rfl dL_law_701) (xcons (s_inv (mid := 161) xC8 cal_161 xw_831 xw_832 xw_833 dL_law_702) (xcons (s_pop dL_law_705) (xcons (s_goto dL_law_706 rfl) (xcons (s_aload_n rfl dL_law_709) (xcons (s_aload_n rfl dL_law_710) (xcons (s_iload_n rfl dL_law_711) (xnil))))))))))))))))))))
set_option maxRecDepth 20000 in
theorem gL_law_712 : decode cL_law 712 = .ok (.iconst 1, 1) ∧ decode cL_law 713 = .ok (.iadd, 1) ∧ decode cL_law 714 = .ok (.iaload, 1) ∧ decode cL_law 715 = .ok (.aload_n 0, 1) ∧ decode cL_law 716 = .ok (.iload_n 3, 1) ∧ decode cL_law 717 = .ok (.iconst 2, 1) ∧ decode cL_law 718 = .ok (.iadd, 1) := by decide +kernel
theorem dL_law_712 : decode cL_law 712 = .ok (.iconst 1, 1) := gL_law_712.1
theorem dL_law_713 : decode cL_law 713 = .ok (.iadd, 1) := gL_law_712.2.1
theorem dL_law_714 : decode cL_law 714 = .ok (.iaload, 1) := gL_law_712.2.2.1
theorem dL_law_715 : decode cL_law 715 = .ok (.aload_n 0, 1) := gL_law_712.2.2.2.1
theorem dL_law_716 : decode cL_law 716 = .ok (.iload_n 3, 1) := gL_law_712.2.2.2.2.1
theorem dL_law_717 : decode cL_law 717 = .ok (.iconst 2, 1) := gL_law_712.2.2.2.2.2.1
theorem dL_law_718 : decode cL_law 718 = .ok (.iadd, 1) := gL_law_712.2.2.2.2.2.2
set_option maxRecDepth 20000 in
theorem gL_law_719 : decode cL_law 719 = .ok (.iaload, 1) ∧ decode cL_law 720 = .ok (.aload_n 0, 1) ∧ decode cL_law 721 = .ok (.iload_n 3, 1) ∧ decode cL_law 722 = .ok (.iconst 3, 1) ∧ decode cL_law 723 = .ok (.iadd, 1) ∧ decode cL_law 724 = .ok (.iaload, 1) ∧ decode cL_law 725 = .ok (.invokevirtual 86, 3) := by decide +kernel
theorem dL_law_719 : decode cL_law 719 = .ok (.iaload, 1) := gL_law_719.1
theorem dL_law_720 : decode cL_law 720 = .ok (.aload_n 0, 1) := gL_law_719.2.1
theorem dL_law_721 : decode cL_law 721 = .ok (.iload_n 3, 1) := gL_law_719.2.2.1
theorem dL_law_722 : decode cL_law 722 = .ok (.iconst 3, 1) := gL_law_719.2.2.2.1
theorem dL_law_723 : decode cL_law 723 = .ok (.iadd, 1) := gL_law_719.2.2.2.2.1
theorem dL_law_724 : decode cL_law 724 = .ok (.iaload, 1) := gL_law_719.2.2.2.2.2.1
theorem dL_law_725 : decode cL_law 725 = .ok (.invokevirtual 86, 3) := gL_law_719.2.2.2.2.2.2
set_option maxRecDepth 20000 in
theorem gL_law_728 : decode cL_law 728 = .ok (.pop, 1) ∧ decode cL_law 729 = .ok (.aload_n 2, 1) ∧ decode cL_law 730 = .ok (.aload_n 0, 1) ∧ decode cL_law 731 = .ok (.iload_n 3, 1) ∧ decode cL_law 732 = .ok (.iconst 1, 1) ∧ decode cL_law 733 = .ok (.iadd, 1) := by decide +kernel
theorem dL_law_728 : decode cL_law 728 = .ok (.pop, 1) := gL_law_728.1
theorem dL_law_729 : decode cL_law 729 = .ok (.aload_n 2, 1) := gL_law_728.2.1
theorem dL_law_730 : decode cL_law 730 = .ok (.aload_n 0, 1) := gL_law_728.2.2.1
theorem dL_law_731 : decode cL_law 731 = .ok (.iload_n 3, 1) := gL_law_728.2.2.2.1
theorem dL_law_732 : decode cL_law 732 = .ok (.iconst 1, 1) := gL_law_728.2.2.2.2.1
theorem dL_law_733 : decode cL_law 733 = .ok (.iadd, 1) := gL_law_728.2.2.2.2.2
def k190_22 (scr : Nat × (Nat → Int32)) : List (Nat × XI) := [(712, x_push (1) 713), (713, x_iadd 714), (714, x_sld scr 715), (715, x_aload 0 716), (716, x_iload 3 717), (717, x_push (2) 718), (718, x_iadd 719), (719, x_sld scr 720), (720, x_aload 0 721), (721, x_iload 3 722), (722, x_push (3) 723), (723, x_iadd 724), (724, x_sld scr 725), (725, x_inv 106 7 3 728), (728, x_pop 729), (729, x_aload 2 730), (730, x_aload 0 731), (731, x_iload 3 732), (732, x_push (1) 733), (733, x_iadd 734)]
theorem o190_22 (scr : Nat × (Nat → Int32)) : ∀ q ∈ k190_22 scr, XSnd xm scr Y190 q.1 q.2 := xcons (s_iconst dL_law_712 rfl) (xcons (s_iadd dL_law_713) (xcons (s_sld rfl dL_law_714) (xcons (s_aload_n rfl dL_law_715) (xcons (s_iload_n rfl dL_law_716) (xcons (s_iconst dL_law_717 rfl) (xcons (s_iadd dL_law_718) (xcons (s_sld rfl dL_law_719) (xcons (s_aload_n rfl dL_law_720) (xcons (s_iload_n rfl dL_law_721) (xcons (s_iconst dL_law_722 rfl) (xcons (s_iadd dL_law_723) (xcons (s_sld rfl dL_law_724) (xcons (s_inv (mid := 106) xC7 cal_106 xw_835 xw_836 xw_837 dL_law_725) (xcons (s_pop dL_law_728) (xcons (s_aload_n rfl dL_law_729) (xcons (s_aload_n rfl dL_law_730) (xcons (s_iload_n rfl dL_law_731) (xcons (s_iconst dL_law_732 rfl) (xcons (s_iadd dL_law_733) (xnil))))))))))))))))))))
set_option maxRecDepth 20000 in
theorem gL_law_734 : decode cL_law 734 = .ok (.iaload, 1) ∧ decode cL_law 735 = .ok (.aload_n 0, 1) ∧ decode cL_law 736 = .ok (.iload_n 3, 1) ∧ decode cL_law 737 = .ok (.iconst 2, 1) ∧ decode cL_law 738 = .ok (.iadd, 1) ∧ decode cL_law 739 = .ok (.iaload, 1) ∧ decode cL_law 740 = .ok (.aload_n 0, 1) := by decide +kernel
theorem dL_law_734 : decode cL_law 734 = .ok (.iaload, 1) := gL_law_734.1
theorem dL_law_735 : decode cL_law 735 = .ok (.aload_n 0, 1) := gL_law_734.2.1
theorem dL_law_736 : decode cL_law 736 = .ok (.iload_n 3, 1) := gL_law_734.2.2.1
theorem dL_law_737 : decode cL_law 737 = .ok (.iconst 2, 1) := gL_law_734.2.2.2.1
theorem dL_law_738 : decode cL_law 738 = .ok (.iadd, 1) := gL_law_734.2.2.2.2.1
theorem dL_law_739 : decode cL_law 739 = .ok (.iaload, 1) := gL_law_734.2.2.2.2.2.1
theorem dL_law_740 : decode cL_law 740 = .ok (.aload_n 0, 1) := gL_law_734.2.2.2.2.2.2
set_option maxRecDepth 20000 in
theorem gL_law_741 : decode cL_law 741 = .ok (.iload_n 3, 1) ∧ decode cL_law 742 = .ok (.iconst 3, 1) ∧ decode cL_law 743 = .ok (.iadd, 1) ∧ decode cL_law 744 = .ok (.iaload, 1) ∧ decode cL_law 745 = .ok (.invokevirtual 89, 3) ∧ decode cL_law 748 = .ok (.pop, 1) ∧ decode cL_law 749 = .ok (.goto 375, 3) := by decide +kernel
theorem dL_law_741 : decode cL_law 741 = .ok (.iload_n 3, 1) := gL_law_741.1
theorem dL_law_742 : decode cL_law 742 = .ok (.iconst 3, 1) := gL_law_741.2.1
theorem dL_law_743 : decode cL_law 743 = .ok (.iadd, 1) := gL_law_741.2.2.1
theorem dL_law_744 : decode cL_law 744 = .ok (.iaload, 1) := gL_law_741.2.2.2.1
theorem dL_law_745 : decode cL_law 745 = .ok (.invokevirtual 89, 3) := gL_law_741.2.2.2.2.1
theorem dL_law_748 : decode cL_law 748 = .ok (.pop, 1) := gL_law_741.2.2.2.2.2.1
theorem dL_law_749 : decode cL_law 749 = .ok (.goto 375, 3) := gL_law_741.2.2.2.2.2.2
set_option maxRecDepth 20000 in
theorem gL_law_752 : decode cL_law 752 = .ok (.aload_n 1, 1) ∧ decode cL_law 753 = .ok (.aload_n 0, 1) ∧ decode cL_law 754 = .ok (.iload_n 3, 1) ∧ decode cL_law 755 = .ok (.iconst 1, 1) ∧ decode cL_law 756 = .ok (.iadd, 1) ∧ decode cL_law 757 = .ok (.iaload, 1) := by decide +kernel
theorem dL_law_752 : decode cL_law 752 = .ok (.aload_n 1, 1) := gL_law_752.1
theorem dL_law_753 : decode cL_law 753 = .ok (.aload_n 0, 1) := gL_law_752.2.1
theorem dL_law_754 : decode cL_law 754 = .ok (.iload_n 3, 1) := gL_law_752.2.2.1
theorem dL_law_755 : decode cL_law 755 = .ok (.iconst 1, 1) := gL_law_752.2.2.2.1
theorem dL_law_756 : decode cL_law 756 = .ok (.iadd, 1) := gL_law_752.2.2.2.2.1
theorem dL_law_757 : decode cL_law 757 = .ok (.iaload, 1) := gL_law_752.2.2.2.2.2
def k190_23 (scr : Nat × (Nat → Int32)) : List (Nat × XI) := [(734, x_sld scr 735), (735, x_aload 0 736), (736, x_iload 3 737), (737, x_push (2) 738), (738, x_iadd 739), (739, x_sld scr 740), (740, x_aload 0 741), (741, x_iload 3 742), (742, x_push (3) 743), (743, x_iadd 744), (744, x_sld scr 745), (745, x_inv 188 8 3 748), (748, x_pop 749), (749, x_goto 1124), (752, x_aload 1 753), (753, x_aload 0 754), (754, x_iload 3 755), (755, x_push (1) 756), (756, x_iadd 757), (757, x_sld scr 758)]
theorem o190_23 (scr : Nat × (Nat → Int32)) : ∀ q ∈ k190_23 scr, XSnd xm scr Y190 q.1 q.2 := xcons (s_sld rfl dL_law_734) (xcons (s_aload_n rfl dL_law_735) (xcons (s_iload_n rfl dL_law_736) (xcons (s_iconst dL_law_737 rfl) (xcons (s_iadd dL_law_738) (xcons (s_sld rfl dL_law_739) (xcons (s_aload_n rfl dL_law_740) (xcons (s_iload_n rfl dL_law_741) (xcons (s_iconst dL_law_742 rfl) (xcons (s_iadd dL_law_743) (xcons (s_sld rfl dL_law_744) (xcons (s_inv (mid := 188) xC8 cal_188 xw_839 xw_840 xw_841 dL_law_745) (xcons (s_pop dL_law_748) (xcons (s_goto dL_law_749 rfl) (xcons (s_aload_n rfl dL_law_752) (xcons (s_aload_n rfl dL_law_753) (xcons (s_iload_n rfl dL_law_754) (xcons (s_iconst dL_law_755 rfl) (xcons (s_iadd dL_law_756) (xcons (s_sld rfl dL_law_757) (xnil))))))))))))))))))))
set_option maxRecDepth 20000 in
theorem gL_law_758 : decode cL_law 758 = .ok (.aload_n 0, 1) ∧ decode cL_law 759 = .ok (.iload_n 3, 1) ∧ decode cL_law 760 = .ok (.iconst 2, 1) ∧ decode cL_law 761 = .ok (.iadd, 1) ∧ decode cL_law 762 = .ok (.iaload, 1) ∧ decode cL_law 763 = .ok (.invokevirtual 90, 3) ∧ decode cL_law 766 = .ok (.pop, 1) := by decide +kernel
theorem dL_law_758 : decode cL_law 758 = .ok (.aload_n 0, 1) := gL_law_758.1
theorem dL_law_759 : decode cL_law 759 = .ok (.iload_n 3, 1) := gL_law_758.2.1
theorem dL_law_760 : decode cL_law 760 = .ok (.iconst 2, 1) := gL_law_758.2.2.1
theorem dL_law_761 : decode cL_law 761 = .ok (.iadd, 1) := gL_law_758.2.2.2.1
theorem dL_law_762 : decode cL_law 762 = .ok (.iaload, 1) := gL_law_758.2.2.2.2.1
theorem dL_law_763 : decode cL_law 763 = .ok (.invokevirtual 90, 3) := gL_law_758.2.2.2.2.2.1
theorem dL_law_766 : decode cL_law 766 = .ok (.pop, 1) := gL_law_758.2.2.2.2.2.2
set_option maxRecDepth 20000 in
theorem gL_law_767 : decode cL_law 767 = .ok (.aload_n 2, 1) ∧ decode cL_law 768 = .ok (.aload_n 0, 1) ∧ decode cL_law 769 = .ok (.iload_n 3, 1) ∧ decode cL_law 770 = .ok (.iconst 1, 1) ∧ decode cL_law 771 = .ok (.iadd, 1) ∧ decode cL_law 772 = .ok (.iaload, 1) ∧ decode cL_law 773 = .ok (.aload_n 0, 1) := by decide +kernel
theorem dL_law_767 : decode cL_law 767 = .ok (.aload_n 2, 1) := gL_law_767.1
theorem dL_law_768 : decode cL_law 768 = .ok (.aload_n 0, 1) := gL_law_767.2.1
theorem dL_law_769 : decode cL_law 769 = .ok (.iload_n 3, 1) := gL_law_767.2.2.1
theorem dL_law_770 : decode cL_law 770 = .ok (.iconst 1, 1) := gL_law_767.2.2.2.1
theorem dL_law_771 : decode cL_law 771 = .ok (.iadd, 1) := gL_law_767.2.2.2.2.1
theorem dL_law_772 : decode cL_law 772 = .ok (.iaload, 1) := gL_law_767.2.2.2.2.2.1
theorem dL_law_773 : decode cL_law 773 = .ok (.aload_n 0, 1) := gL_law_767.2.2.2.2.2.2
set_option maxRecDepth 20000 in
theorem gL_law_774 : decode cL_law 774 = .ok (.iload_n 3, 1) ∧ decode cL_law 775 = .ok (.iconst 2, 1) ∧ decode cL_law 776 = .ok (.iadd, 1) ∧ decode cL_law 777 = .ok (.iaload, 1) ∧ decode cL_law 778 = .ok (.invokevirtual 93, 3) ∧ decode cL_law 781 = .ok (.pop, 1) := by decide +kernel
theorem dL_law_774 : decode cL_law 774 = .ok (.iload_n 3, 1) := gL_law_774.1
theorem dL_law_775 : decode cL_law 775 = .ok (.iconst 2, 1) := gL_law_774.2.1
theorem dL_law_776 : decode cL_law 776 = .ok (.iadd, 1) := gL_law_774.2.2.1
theorem dL_law_777 : decode cL_law 777 = .ok (.iaload, 1) := gL_law_774.2.2.2.1
theorem dL_law_778 : decode cL_law 778 = .ok (.invokevirtual 93, 3) := gL_law_774.2.2.2.2.1
theorem dL_law_781 : decode cL_law 781 = .ok (.pop, 1) := gL_law_774.2.2.2.2.2
def k190_24 (scr : Nat × (Nat → Int32)) : List (Nat × XI) := [(758, x_aload 0 759), (759, x_iload 3 760), (760, x_push (2) 761), (761, x_iadd 762), (762, x_sld scr 763), (763, x_inv 70 7 2 766), (766, x_pop 767), (767, x_aload 2 768), (768, x_aload 0 769), (769, x_iload 3 770), (770, x_push (1) 771), (771, x_iadd 772), (772, x_sld scr 773), (773, x_aload 0 774), (774, x_iload 3 775), (775, x_push (2) 776), (776, x_iadd 777), (777, x_sld scr 778), (778, x_inv 111 8 2 781), (781, x_pop 782)]
theorem o190_24 (scr : Nat × (Nat → Int32)) : ∀ q ∈ k190_24 scr, XSnd xm scr Y190 q.1 q.2 := xcons (s_aload_n rfl dL_law_758) (xcons (s_iload_n rfl dL_law_759) (xcons (s_iconst dL_law_760 rfl) (xcons (s_iadd dL_law_761) (xcons (s_sld rfl dL_law_762) (xcons (s_inv (mid := 70) xC7 cal_70 xw_843 xw_844 xw_845 dL_law_763) (xcons (s_pop dL_law_766) (xcons (s_aload_n rfl dL_law_767) (xcons (s_aload_n rfl dL_law_768) (xcons (s_iload_n rfl dL_law_769) (xcons (s_iconst dL_law_770 rfl) (xcons (s_iadd dL_law_771) (xcons (s_sld rfl dL_law_772) (xcons (s_aload_n rfl dL_law_773) (xcons (s_iload_n rfl dL_law_774) (xcons (s_iconst dL_law_775 rfl) (xcons (s_iadd dL_law_776) (xcons (s_sld rfl dL_law_777) (xcons (s_inv (mid := 111) xC8 cal_111 xw_847 xw_848 xw_849 dL_law_778) (xcons (s_pop dL_law_781) (xnil))))))))))))))))))))
set_option maxRecDepth 20000 in
theorem gL_law_782 : decode cL_law 782 = .ok (.goto 342, 3) ∧ decode cL_law 785 = .ok (.aload_n 1, 1) ∧ decode cL_law 786 = .ok (.aload_n 0, 1) ∧ decode cL_law 787 = .ok (.iload_n 3, 1) ∧ decode cL_law 788 = .ok (.iconst 1, 1) ∧ decode cL_law 789 = .ok (.iadd, 1) ∧ decode cL_law 790 = .ok (.iaload, 1) := by decide +kernel
theorem dL_law_782 : decode cL_law 782 = .ok (.goto 342, 3) := gL_law_782.1
theorem dL_law_785 : decode cL_law 785 = .ok (.aload_n 1, 1) := gL_law_782.2.1
theorem dL_law_786 : decode cL_law 786 = .ok (.aload_n 0, 1) := gL_law_782.2.2.1
theorem dL_law_787 : decode cL_law 787 = .ok (.iload_n 3, 1) := gL_law_782.2.2.2.1
theorem dL_law_788 : decode cL_law 788 = .ok (.iconst 1, 1) := gL_law_782.2.2.2.2.1
theorem dL_law_789 : decode cL_law 789 = .ok (.iadd, 1) := gL_law_782.2.2.2.2.2.1
theorem dL_law_790 : decode cL_law 790 = .ok (.iaload, 1) := gL_law_782.2.2.2.2.2.2
set_option maxRecDepth 20000 in
theorem gL_law_791 : decode cL_law 791 = .ok (.aload_n 0, 1) ∧ decode cL_law 792 = .ok (.iload_n 3, 1) ∧ decode cL_law 793 = .ok (.iconst 2, 1) ∧ decode cL_law 794 = .ok (.iadd, 1) ∧ decode cL_law 795 = .ok (.iaload, 1) ∧ decode cL_law 796 = .ok (.invokevirtual 94, 3) ∧ decode cL_law 799 = .ok (.pop, 1) := by decide +kernel
theorem dL_law_791 : decode cL_law 791 = .ok (.aload_n 0, 1) := gL_law_791.1
theorem dL_law_792 : decode cL_law 792 = .ok (.iload_n 3, 1) := gL_law_791.2.1
theorem dL_law_793 : decode cL_law 793 = .ok (.iconst 2, 1) := gL_law_791.2.2.1
theorem dL_law_794 : decode cL_law 794 = .ok (.iadd, 1) := gL_law_791.2.2.2.1
theorem dL_law_795 : decode cL_law 795 = .ok (.iaload, 1) := gL_law_791.2.2.2.2.1
theorem dL_law_796 : decode cL_law 796 = .ok (.invokevirtual 94, 3) := gL_law_791.2.2.2.2.2.1
theorem dL_law_799 : decode cL_law 799 = .ok (.pop, 1) := gL_law_791.2.2.2.2.2.2
set_option maxRecDepth 20000 in
theorem gL_law_800 : decode cL_law 800 = .ok (.aload_n 2, 1) ∧ decode cL_law 801 = .ok (.aload_n 0, 1) ∧ decode cL_law 802 = .ok (.iload_n 3, 1) ∧ decode cL_law 803 = .ok (.iconst 1, 1) ∧ decode cL_law 804 = .ok (.iadd, 1) ∧ decode cL_law 805 = .ok (.iaload, 1) := by decide +kernel
theorem dL_law_800 : decode cL_law 800 = .ok (.aload_n 2, 1) := gL_law_800.1
theorem dL_law_801 : decode cL_law 801 = .ok (.aload_n 0, 1) := gL_law_800.2.1
theorem dL_law_802 : decode cL_law 802 = .ok (.iload_n 3, 1) := gL_law_800.2.2.1
theorem dL_law_803 : decode cL_law 803 = .ok (.iconst 1, 1) := gL_law_800.2.2.2.1
theorem dL_law_804 : decode cL_law 804 = .ok (.iadd, 1) := gL_law_800.2.2.2.2.1
theorem dL_law_805 : decode cL_law 805 = .ok (.iaload, 1) := gL_law_800.2.2.2.2.2
def k190_25 (scr : Nat × (Nat → Int32)) : List (Nat × XI) := [(782, x_goto 1124), (785, x_aload 1 786), (786, x_aload 0 787), (787, x_iload 3 788), (788, x_push (1) 789), (789, x_iadd 790), (790, x_sld scr 791), (791, x_aload 0 792), (792, x_iload 3 793), (793, x_push (2) 794), (794, x_iadd 795), (795, x_sld scr 796), (796, x_inv 94 7 2 799), (799, x_pop 800), (800, x_aload 2 801), (801, x_aload 0 802), (802, x_iload 3 803), (803, x_push (1) 804), (804, x_iadd 805), (805, x_sld scr 806)]
theorem o190_25 (scr : Nat × (Nat → Int32)) : ∀ q ∈ k190_25 scr, XSnd xm scr Y190 q.1 q.2 := xcons (s_goto dL_law_782 rfl) (xcons (s_aload_n rfl dL_law_785) (xcons (s_aload_n rfl dL_law_786) (xcons (s_iload_n rfl dL_law_787) (xcons (s_iconst dL_law_788 rfl) (xcons (s_iadd dL_law_789) (xcons (s_sld rfl dL_law_790) (xcons (s_aload_n rfl dL_law_791) (xcons (s_iload_n rfl dL_law_792) (xcons (s_iconst dL_law_793 rfl) (xcons (s_iadd dL_law_794) (xcons (s_sld rfl dL_law_795) (xcons (s_inv (mid := 94) xC7 cal_94 xw_851 xw_852 xw_853 dL_law_796) (xcons (s_pop dL_law_799) (xcons (s_aload_n rfl dL_law_800) (xcons (s_aload_n rfl dL_law_801) (xcons (s_iload_n rfl dL_law_802) (xcons (s_iconst dL_law_803 rfl) (xcons (s_iadd dL_law_804) (xcons (s_sld rfl dL_law_805) (xnil))))))))))))))))))))
set_option maxRecDepth 20000 in
theorem gL_law_806 : decode cL_law 806 = .ok (.aload_n 0, 1) ∧ decode cL_law 807 = .ok (.iload_n 3, 1) ∧ decode cL_law 808 = .ok (.iconst 2, 1) ∧ decode cL_law 809 = .ok (.iadd, 1) ∧ decode cL_law 810 = .ok (.iaload, 1) ∧ decode cL_law 811 = .ok (.invokevirtual 97, 3) ∧ decode cL_law 814 = .ok (.pop, 1) := by decide +kernel
theorem dL_law_806 : decode cL_law 806 = .ok (.aload_n 0, 1) := gL_law_806.1
theorem dL_law_807 : decode cL_law 807 = .ok (.iload_n 3, 1) := gL_law_806.2.1
theorem dL_law_808 : decode cL_law 808 = .ok (.iconst 2, 1) := gL_law_806.2.2.1
theorem dL_law_809 : decode cL_law 809 = .ok (.iadd, 1) := gL_law_806.2.2.2.1
theorem dL_law_810 : decode cL_law 810 = .ok (.iaload, 1) := gL_law_806.2.2.2.2.1
theorem dL_law_811 : decode cL_law 811 = .ok (.invokevirtual 97, 3) := gL_law_806.2.2.2.2.2.1
theorem dL_law_814 : decode cL_law 814 = .ok (.pop, 1) := gL_law_806.2.2.2.2.2.2
set_option maxRecDepth 20000 in
theorem gL_law_815 : decode cL_law 815 = .ok (.goto 309, 3) ∧ decode cL_law 818 = .ok (.aload_n 1, 1) ∧ decode cL_law 819 = .ok (.aload_n 0, 1) ∧ decode cL_law 820 = .ok (.iload_n 3, 1) ∧ decode cL_law 821 = .ok (.iconst 1, 1) ∧ decode cL_law 822 = .ok (.iadd, 1) ∧ decode cL_law 823 = .ok (.iaload, 1) := by decide +kernel
theorem dL_law_815 : decode cL_law 815 = .ok (.goto 309, 3) := gL_law_815.1
theorem dL_law_818 : decode cL_law 818 = .ok (.aload_n 1, 1) := gL_law_815.2.1
theorem dL_law_819 : decode cL_law 819 = .ok (.aload_n 0, 1) := gL_law_815.2.2.1
theorem dL_law_820 : decode cL_law 820 = .ok (.iload_n 3, 1) := gL_law_815.2.2.2.1
theorem dL_law_821 : decode cL_law 821 = .ok (.iconst 1, 1) := gL_law_815.2.2.2.2.1
theorem dL_law_822 : decode cL_law 822 = .ok (.iadd, 1) := gL_law_815.2.2.2.2.2.1
theorem dL_law_823 : decode cL_law 823 = .ok (.iaload, 1) := gL_law_815.2.2.2.2.2.2
set_option maxRecDepth 20000 in
theorem gL_law_824 : decode cL_law 824 = .ok (.invokevirtual 98, 3) ∧ decode cL_law 827 = .ok (.pop, 1) ∧ decode cL_law 828 = .ok (.aload_n 2, 1) ∧ decode cL_law 829 = .ok (.aload_n 0, 1) ∧ decode cL_law 830 = .ok (.iload_n 3, 1) ∧ decode cL_law 831 = .ok (.iconst 1, 1) := by decide +kernel
theorem dL_law_824 : decode cL_law 824 = .ok (.invokevirtual 98, 3) := gL_law_824.1
theorem dL_law_827 : decode cL_law 827 = .ok (.pop, 1) := gL_law_824.2.1
theorem dL_law_828 : decode cL_law 828 = .ok (.aload_n 2, 1) := gL_law_824.2.2.1
theorem dL_law_829 : decode cL_law 829 = .ok (.aload_n 0, 1) := gL_law_824.2.2.2.1
theorem dL_law_830 : decode cL_law 830 = .ok (.iload_n 3, 1) := gL_law_824.2.2.2.2.1
theorem dL_law_831 : decode cL_law 831 = .ok (.iconst 1, 1) := gL_law_824.2.2.2.2.2
def k190_26 (scr : Nat × (Nat → Int32)) : List (Nat × XI) := [(806, x_aload 0 807), (807, x_iload 3 808), (808, x_push (2) 809), (809, x_iadd 810), (810, x_sld scr 811), (811, x_inv 162 8 2 814), (814, x_pop 815), (815, x_goto 1124), (818, x_aload 1 819), (819, x_aload 0 820), (820, x_iload 3 821), (821, x_push (1) 822), (822, x_iadd 823), (823, x_sld scr 824), (824, x_inv 78 7 1 827), (827, x_pop 828), (828, x_aload 2 829), (829, x_aload 0 830), (830, x_iload 3 831), (831, x_push (1) 832)]
theorem o190_26 (scr : Nat × (Nat → Int32)) : ∀ q ∈ k190_26 scr, XSnd xm scr Y190 q.1 q.2 := xcons (s_aload_n rfl dL_law_806) (xcons (s_iload_n rfl dL_law_807) (xcons (s_iconst dL_law_808 rfl) (xcons (s_iadd dL_law_809) (xcons (s_sld rfl dL_law_810) (xcons (s_inv (mid := 162) xC8 cal_162 xw_855 xw_856 xw_857 dL_law_811) (xcons (s_pop dL_law_814) (xcons (s_goto dL_law_815 rfl) (xcons (s_aload_n rfl dL_law_818) (xcons (s_aload_n rfl dL_law_819) (xcons (s_iload_n rfl dL_law_820) (xcons (s_iconst dL_law_821 rfl) (xcons (s_iadd dL_law_822) (xcons (s_sld rfl dL_law_823) (xcons (s_inv (mid := 78) xC7 cal_78 xw_859 xw_860 xw_861 dL_law_824) (xcons (s_pop dL_law_827) (xcons (s_aload_n rfl dL_law_828) (xcons (s_aload_n rfl dL_law_829) (xcons (s_iload_n rfl dL_law_830) (xcons (s_iconst dL_law_831 rfl) (xnil))))))))))))))))))))
set_option maxRecDepth 20000 in
theorem gL_law_832 : decode cL_law 832 = .ok (.iadd, 1) ∧ decode cL_law 833 = .ok (.iaload, 1) ∧ decode cL_law 834 = .ok (.invokevirtual 101, 3) ∧ decode cL_law 837 = .ok (.pop, 1) ∧ decode cL_law 838 = .ok (.goto 286, 3) ∧ decode cL_law 841 = .ok (.aload_n 1, 1) ∧ decode cL_law 842 = .ok (.invokevirtual 102, 3) := by decide +kernel
theorem dL_law_832 : decode cL_law 832 = .ok (.iadd, 1) := gL_law_832.1
theorem dL_law_833 : decode cL_law 833 = .ok (.iaload, 1) := gL_law_832.2.1
theorem dL_law_834 : decode cL_law 834 = .ok (.invokevirtual 101, 3) := gL_law_832.2.2.1
theorem dL_law_837 : decode cL_law 837 = .ok (.pop, 1) := gL_law_832.2.2.2.1
theorem dL_law_838 : decode cL_law 838 = .ok (.goto 286, 3) := gL_law_832.2.2.2.2.1
theorem dL_law_841 : decode cL_law 841 = .ok (.aload_n 1, 1) := gL_law_832.2.2.2.2.2.1
theorem dL_law_842 : decode cL_law 842 = .ok (.invokevirtual 102, 3) := gL_law_832.2.2.2.2.2.2
set_option maxRecDepth 20000 in
theorem gL_law_845 : decode cL_law 845 = .ok (.pop, 1) ∧ decode cL_law 846 = .ok (.aload_n 2, 1) ∧ decode cL_law 847 = .ok (.invokevirtual 105, 3) ∧ decode cL_law 850 = .ok (.pop, 1) ∧ decode cL_law 851 = .ok (.goto 273, 3) ∧ decode cL_law 854 = .ok (.aload_n 1, 1) ∧ decode cL_law 855 = .ok (.aload_n 0, 1) := by decide +kernel
theorem dL_law_845 : decode cL_law 845 = .ok (.pop, 1) := gL_law_845.1
theorem dL_law_846 : decode cL_law 846 = .ok (.aload_n 2, 1) := gL_law_845.2.1
theorem dL_law_847 : decode cL_law 847 = .ok (.invokevirtual 105, 3) := gL_law_845.2.2.1
theorem dL_law_850 : decode cL_law 850 = .ok (.pop, 1) := gL_law_845.2.2.2.1
theorem dL_law_851 : decode cL_law 851 = .ok (.goto 273, 3) := gL_law_845.2.2.2.2.1
theorem dL_law_854 : decode cL_law 854 = .ok (.aload_n 1, 1) := gL_law_845.2.2.2.2.2.1
theorem dL_law_855 : decode cL_law 855 = .ok (.aload_n 0, 1) := gL_law_845.2.2.2.2.2.2
set_option maxRecDepth 20000 in
theorem gL_law_856 : decode cL_law 856 = .ok (.iload_n 3, 1) ∧ decode cL_law 857 = .ok (.iconst 1, 1) ∧ decode cL_law 858 = .ok (.iadd, 1) ∧ decode cL_law 859 = .ok (.iaload, 1) ∧ decode cL_law 860 = .ok (.invokevirtual 106, 3) ∧ decode cL_law 863 = .ok (.pop, 1) := by decide +kernel
theorem dL_law_856 : decode cL_law 856 = .ok (.iload_n 3, 1) := gL_law_856.1
theorem dL_law_857 : decode cL_law 857 = .ok (.iconst 1, 1) := gL_law_856.2.1
theorem dL_law_858 : decode cL_law 858 = .ok (.iadd, 1) := gL_law_856.2.2.1
theorem dL_law_859 : decode cL_law 859 = .ok (.iaload, 1) := gL_law_856.2.2.2.1
theorem dL_law_860 : decode cL_law 860 = .ok (.invokevirtual 106, 3) := gL_law_856.2.2.2.2.1
theorem dL_law_863 : decode cL_law 863 = .ok (.pop, 1) := gL_law_856.2.2.2.2.2
def k190_27 (scr : Nat × (Nat → Int32)) : List (Nat × XI) := [(832, x_iadd 833), (833, x_sld scr 834), (834, x_inv 126 8 1 837), (837, x_pop 838), (838, x_goto 1124), (841, x_aload 1 842), (842, x_inv 97 7 0 845), (845, x_pop 846), (846, x_aload 2 847), (847, x_inv 167 8 0 850), (850, x_pop 851), (851, x_goto 1124), (854, x_aload 1 855), (855, x_aload 0 856), (856, x_iload 3 857), (857, x_push (1) 858), (858, x_iadd 859), (859, x_sld scr 860), (860, x_inv 75 7 1 863), (863, x_pop 864)]
theorem o190_27 (scr : Nat × (Nat → Int32)) : ∀ q ∈ k190_27 scr, XSnd xm scr Y190 q.1 q.2 := xcons (s_iadd dL_law_832) (xcons (s_sld rfl dL_law_833) (xcons (s_inv (mid := 126) xC8 cal_126 xw_863 xw_864 xw_865 dL_law_834) (xcons (s_pop dL_law_837) (xcons (s_goto dL_law_838 rfl) (xcons (s_aload_n rfl dL_law_841) (xcons (s_inv (mid := 97) xC7 cal_97 xw_867 xw_868 xw_869 dL_law_842) (xcons (s_pop dL_law_845) (xcons (s_aload_n rfl dL_law_846) (xcons (s_inv (mid := 167) xC8 cal_167 xw_871 xw_872 xw_873 dL_law_847) (xcons (s_pop dL_law_850) (xcons (s_goto dL_law_851 rfl) (xcons (s_aload_n rfl dL_law_854) (xcons (s_aload_n rfl dL_law_855) (xcons (s_iload_n rfl dL_law_856) (xcons (s_iconst dL_law_857 rfl) (xcons (s_iadd dL_law_858) (xcons (s_sld rfl dL_law_859) (xcons (s_inv (mid := 75) xC7 cal_75 xw_875 xw_876 xw_877 dL_law_860) (xcons (s_pop dL_law_863) (xnil))))))))))))))))))))
set_option maxRecDepth 20000 in
theorem gL_law_864 : decode cL_law 864 = .ok (.aload_n 2, 1) ∧ decode cL_law 865 = .ok (.aload_n 0, 1) ∧ decode cL_law 866 = .ok (.iload_n 3, 1) ∧ decode cL_law 867 = .ok (.iconst 1, 1) ∧ decode cL_law 868 = .ok (.iadd, 1) ∧ decode cL_law 869 = .ok (.iaload, 1) ∧ decode cL_law 870 = .ok (.invokevirtual 109, 3) := by decide +kernel
theorem dL_law_864 : decode cL_law 864 = .ok (.aload_n 2, 1) := gL_law_864.1
theorem dL_law_865 : decode cL_law 865 = .ok (.aload_n 0, 1) := gL_law_864.2.1
theorem dL_law_866 : decode cL_law 866 = .ok (.iload_n 3, 1) := gL_law_864.2.2.1
theorem dL_law_867 : decode cL_law 867 = .ok (.iconst 1, 1) := gL_law_864.2.2.2.1
theorem dL_law_868 : decode cL_law 868 = .ok (.iadd, 1) := gL_law_864.2.2.2.2.1
theorem dL_law_869 : decode cL_law 869 = .ok (.iaload, 1) := gL_law_864.2.2.2.2.2.1
theorem dL_law_870 : decode cL_law 870 = .ok (.invokevirtual 109, 3) := gL_law_864.2.2.2.2.2.2
set_option maxRecDepth 20000 in
theorem gL_law_873 : decode cL_law 873 = .ok (.pop, 1) ∧ decode cL_law 874 = .ok (.goto 250, 3) ∧ decode cL_law 877 = .ok (.aload_n 1, 1) ∧ decode cL_law 878 = .ok (.aload_n 0, 1) ∧ decode cL_law 879 = .ok (.iload_n 3, 1) ∧ decode cL_law 880 = .ok (.iconst 1, 1) ∧ decode cL_law 881 = .ok (.iadd, 1) := by decide +kernel
theorem dL_law_873 : decode cL_law 873 = .ok (.pop, 1) := gL_law_873.1
theorem dL_law_874 : decode cL_law 874 = .ok (.goto 250, 3) := gL_law_873.2.1
theorem dL_law_877 : decode cL_law 877 = .ok (.aload_n 1, 1) := gL_law_873.2.2.1
theorem dL_law_878 : decode cL_law 878 = .ok (.aload_n 0, 1) := gL_law_873.2.2.2.1
theorem dL_law_879 : decode cL_law 879 = .ok (.iload_n 3, 1) := gL_law_873.2.2.2.2.1
theorem dL_law_880 : decode cL_law 880 = .ok (.iconst 1, 1) := gL_law_873.2.2.2.2.2.1
theorem dL_law_881 : decode cL_law 881 = .ok (.iadd, 1) := gL_law_873.2.2.2.2.2.2
set_option maxRecDepth 20000 in
theorem gL_law_882 : decode cL_law 882 = .ok (.iaload, 1) ∧ decode cL_law 883 = .ok (.invokevirtual 110, 3) ∧ decode cL_law 886 = .ok (.pop, 1) ∧ decode cL_law 887 = .ok (.aload_n 2, 1) ∧ decode cL_law 888 = .ok (.aload_n 0, 1) ∧ decode cL_law 889 = .ok (.iload_n 3, 1) := by decide +kernel
theorem dL_law_882 : decode cL_law 882 = .ok (.iaload, 1) := gL_law_882.1
theorem dL_law_883 : decode cL_law 883 = .ok (.invokevirtual 110, 3) := gL_law_882.2.1
theorem dL_law_886 : decode cL_law 886 = .ok (.pop, 1) := gL_law_882.2.2.1
theorem dL_law_887 : decode cL_law 887 = .ok (.aload_n 2, 1) := gL_law_882.2.2.2.1
theorem dL_law_888 : decode cL_law 888 = .ok (.aload_n 0, 1) := gL_law_882.2.2.2.2.1
theorem dL_law_889 : decode cL_law 889 = .ok (.iload_n 3, 1) := gL_law_882.2.2.2.2.2
def k190_28 (scr : Nat × (Nat → Int32)) : List (Nat × XI) := [(864, x_aload 2 865), (865, x_aload 0 866), (866, x_iload 3 867), (867, x_push (1) 868), (868, x_iadd 869), (869, x_sld scr 870), (870, x_inv 122 8 1 873), (873, x_pop 874), (874, x_goto 1124), (877, x_aload 1 878), (878, x_aload 0 879), (879, x_iload 3 880), (880, x_push (1) 881), (881, x_iadd 882), (882, x_sld scr 883), (883, x_inv 98 7 1 886), (886, x_pop 887), (887, x_aload 2 888), (888, x_aload 0 889), (889, x_iload 3 890)]
theorem o190_28 (scr : Nat × (Nat → Int32)) : ∀ q ∈ k190_28 scr, XSnd xm scr Y190 q.1 q.2 := xcons (s_aload_n rfl dL_law_864) (xcons (s_aload_n rfl dL_law_865) (xcons (s_iload_n rfl dL_law_866) (xcons (s_iconst dL_law_867 rfl) (xcons (s_iadd dL_law_868) (xcons (s_sld rfl dL_law_869) (xcons (s_inv (mid := 122) xC8 cal_122 xw_879 xw_880 xw_881 dL_law_870) (xcons (s_pop dL_law_873) (xcons (s_goto dL_law_874 rfl) (xcons (s_aload_n rfl dL_law_877) (xcons (s_aload_n rfl dL_law_878) (xcons (s_iload_n rfl dL_law_879) (xcons (s_iconst dL_law_880 rfl) (xcons (s_iadd dL_law_881) (xcons (s_sld rfl dL_law_882) (xcons (s_inv (mid := 98) xC7 cal_98 xw_883 xw_884 xw_885 dL_law_883) (xcons (s_pop dL_law_886) (xcons (s_aload_n rfl dL_law_887) (xcons (s_aload_n rfl dL_law_888) (xcons (s_iload_n rfl dL_law_889) (xnil))))))))))))))))))))
set_option maxRecDepth 20000 in
theorem gL_law_890 : decode cL_law 890 = .ok (.iconst 1, 1) ∧ decode cL_law 891 = .ok (.iadd, 1) ∧ decode cL_law 892 = .ok (.iaload, 1) ∧ decode cL_law 893 = .ok (.invokevirtual 113, 3) ∧ decode cL_law 896 = .ok (.pop, 1) ∧ decode cL_law 897 = .ok (.goto 227, 3) ∧ decode cL_law 900 = .ok (.aload_n 1, 1) := by decide +kernel
theorem dL_law_890 : decode cL_law 890 = .ok (.iconst 1, 1) := gL_law_890.1
theorem dL_law_891 : decode cL_law 891 = .ok (.iadd, 1) := gL_law_890.2.1
theorem dL_law_892 : decode cL_law 892 = .ok (.iaload, 1) := gL_law_890.2.2.1
theorem dL_law_893 : decode cL_law 893 = .ok (.invokevirtual 113, 3) := gL_law_890.2.2.2.1
theorem dL_law_896 : decode cL_law 896 = .ok (.pop, 1) := gL_law_890.2.2.2.2.1
theorem dL_law_897 : decode cL_law 897 = .ok (.goto 227, 3) := gL_law_890.2.2.2.2.2.1
theorem dL_law_900 : decode cL_law 900 = .ok (.aload_n 1, 1) := gL_law_890.2.2.2.2.2.2
set_option maxRecDepth 20000 in
theorem gL_law_901 : decode cL_law 901 = .ok (.aload_n 0, 1) ∧ decode cL_law 902 = .ok (.iload_n 3, 1) ∧ decode cL_law 903 = .ok (.iconst 1, 1) ∧ decode cL_law 904 = .ok (.iadd, 1) ∧ decode cL_law 905 = .ok (.iaload, 1) ∧ decode cL_law 906 = .ok (.aload_n 0, 1) ∧ decode cL_law 907 = .ok (.iload_n 3, 1) := by decide +kernel
theorem dL_law_901 : decode cL_law 901 = .ok (.aload_n 0, 1) := gL_law_901.1
theorem dL_law_902 : decode cL_law 902 = .ok (.iload_n 3, 1) := gL_law_901.2.1
theorem dL_law_903 : decode cL_law 903 = .ok (.iconst 1, 1) := gL_law_901.2.2.1
theorem dL_law_904 : decode cL_law 904 = .ok (.iadd, 1) := gL_law_901.2.2.2.1
theorem dL_law_905 : decode cL_law 905 = .ok (.iaload, 1) := gL_law_901.2.2.2.2.1
theorem dL_law_906 : decode cL_law 906 = .ok (.aload_n 0, 1) := gL_law_901.2.2.2.2.2.1
theorem dL_law_907 : decode cL_law 907 = .ok (.iload_n 3, 1) := gL_law_901.2.2.2.2.2.2
set_option maxRecDepth 20000 in
theorem gL_law_908 : decode cL_law 908 = .ok (.iconst 2, 1) ∧ decode cL_law 909 = .ok (.iadd, 1) ∧ decode cL_law 910 = .ok (.iaload, 1) ∧ decode cL_law 911 = .ok (.invokevirtual 114, 3) ∧ decode cL_law 914 = .ok (.pop, 1) ∧ decode cL_law 915 = .ok (.aload_n 2, 1) := by decide +kernel
theorem dL_law_908 : decode cL_law 908 = .ok (.iconst 2, 1) := gL_law_908.1
theorem dL_law_909 : decode cL_law 909 = .ok (.iadd, 1) := gL_law_908.2.1
theorem dL_law_910 : decode cL_law 910 = .ok (.iaload, 1) := gL_law_908.2.2.1
theorem dL_law_911 : decode cL_law 911 = .ok (.invokevirtual 114, 3) := gL_law_908.2.2.2.1
theorem dL_law_914 : decode cL_law 914 = .ok (.pop, 1) := gL_law_908.2.2.2.2.1
theorem dL_law_915 : decode cL_law 915 = .ok (.aload_n 2, 1) := gL_law_908.2.2.2.2.2
def k190_29 (scr : Nat × (Nat → Int32)) : List (Nat × XI) := [(890, x_push (1) 891), (891, x_iadd 892), (892, x_sld scr 893), (893, x_inv 168 8 1 896), (896, x_pop 897), (897, x_goto 1124), (900, x_aload 1 901), (901, x_aload 0 902), (902, x_iload 3 903), (903, x_push (1) 904), (904, x_iadd 905), (905, x_sld scr 906), (906, x_aload 0 907), (907, x_iload 3 908), (908, x_push (2) 909), (909, x_iadd 910), (910, x_sld scr 911), (911, x_inv 91 7 2 914), (914, x_pop 915), (915, x_aload 2 916)]
theorem o190_29 (scr : Nat × (Nat → Int32)) : ∀ q ∈ k190_29 scr, XSnd xm scr Y190 q.1 q.2 := xcons (s_iconst dL_law_890 rfl) (xcons (s_iadd dL_law_891) (xcons (s_sld rfl dL_law_892) (xcons (s_inv (mid := 168) xC8 cal_168 xw_887 xw_888 xw_889 dL_law_893) (xcons (s_pop dL_law_896) (xcons (s_goto dL_law_897 rfl) (xcons (s_aload_n rfl dL_law_900) (xcons (s_aload_n rfl dL_law_901) (xcons (s_iload_n rfl dL_law_902) (xcons (s_iconst dL_law_903 rfl) (xcons (s_iadd dL_law_904) (xcons (s_sld rfl dL_law_905) (xcons (s_aload_n rfl dL_law_906) (xcons (s_iload_n rfl dL_law_907) (xcons (s_iconst dL_law_908 rfl) (xcons (s_iadd dL_law_909) (xcons (s_sld rfl dL_law_910) (xcons (s_inv (mid := 91) xC7 cal_91 xw_891 xw_892 xw_893 dL_law_911) (xcons (s_pop dL_law_914) (xcons (s_aload_n rfl dL_law_915) (xnil))))))))))))))))))))
set_option maxRecDepth 20000 in
theorem gL_law_916 : decode cL_law 916 = .ok (.aload_n 0, 1) ∧ decode cL_law 917 = .ok (.iload_n 3, 1) ∧ decode cL_law 918 = .ok (.iconst 1, 1) ∧ decode cL_law 919 = .ok (.iadd, 1) ∧ decode cL_law 920 = .ok (.iaload, 1) ∧ decode cL_law 921 = .ok (.aload_n 0, 1) ∧ decode cL_law 922 = .ok (.iload_n 3, 1) := by decide +kernel
theorem dL_law_916 : decode cL_law 916 = .ok (.aload_n 0, 1) := gL_law_916.1
theorem dL_law_917 : decode cL_law 917 = .ok (.iload_n 3, 1) := gL_law_916.2.1
theorem dL_law_918 : decode cL_law 918 = .ok (.iconst 1, 1) := gL_law_916.2.2.1
theorem dL_law_919 : decode cL_law 919 = .ok (.iadd, 1) := gL_law_916.2.2.2.1
theorem dL_law_920 : decode cL_law 920 = .ok (.iaload, 1) := gL_law_916.2.2.2.2.1
theorem dL_law_921 : decode cL_law 921 = .ok (.aload_n 0, 1) := gL_law_916.2.2.2.2.2.1
theorem dL_law_922 : decode cL_law 922 = .ok (.iload_n 3, 1) := gL_law_916.2.2.2.2.2.2
set_option maxRecDepth 20000 in
theorem gL_law_923 : decode cL_law 923 = .ok (.iconst 2, 1) ∧ decode cL_law 924 = .ok (.iadd, 1) ∧ decode cL_law 925 = .ok (.iaload, 1) ∧ decode cL_law 926 = .ok (.invokevirtual 117, 3) ∧ decode cL_law 929 = .ok (.pop, 1) ∧ decode cL_law 930 = .ok (.goto 194, 3) ∧ decode cL_law 933 = .ok (.aload_n 1, 1) := by decide +kernel
theorem dL_law_923 : decode cL_law 923 = .ok (.iconst 2, 1) := gL_law_923.1
theorem dL_law_924 : decode cL_law 924 = .ok (.iadd, 1) := gL_law_923.2.1
theorem dL_law_925 : decode cL_law 925 = .ok (.iaload, 1) := gL_law_923.2.2.1
theorem dL_law_926 : decode cL_law 926 = .ok (.invokevirtual 117, 3) := gL_law_923.2.2.2.1
theorem dL_law_929 : decode cL_law 929 = .ok (.pop, 1) := gL_law_923.2.2.2.2.1
theorem dL_law_930 : decode cL_law 930 = .ok (.goto 194, 3) := gL_law_923.2.2.2.2.2.1
theorem dL_law_933 : decode cL_law 933 = .ok (.aload_n 1, 1) := gL_law_923.2.2.2.2.2.2
set_option maxRecDepth 20000 in
theorem gL_law_934 : decode cL_law 934 = .ok (.invokevirtual 118, 3) ∧ decode cL_law 937 = .ok (.pop, 1) ∧ decode cL_law 938 = .ok (.aload_n 2, 1) ∧ decode cL_law 939 = .ok (.invokevirtual 121, 3) ∧ decode cL_law 942 = .ok (.pop, 1) ∧ decode cL_law 943 = .ok (.goto 181, 3) := by decide +kernel
theorem dL_law_934 : decode cL_law 934 = .ok (.invokevirtual 118, 3) := gL_law_934.1
theorem dL_law_937 : decode cL_law 937 = .ok (.pop, 1) := gL_law_934.2.1
theorem dL_law_938 : decode cL_law 938 = .ok (.aload_n 2, 1) := gL_law_934.2.2.1
theorem dL_law_939 : decode cL_law 939 = .ok (.invokevirtual 121, 3) := gL_law_934.2.2.2.1
theorem dL_law_942 : decode cL_law 942 = .ok (.pop, 1) := gL_law_934.2.2.2.2.1
theorem dL_law_943 : decode cL_law 943 = .ok (.goto 181, 3) := gL_law_934.2.2.2.2.2
def k190_30 (scr : Nat × (Nat → Int32)) : List (Nat × XI) := [(916, x_aload 0 917), (917, x_iload 3 918), (918, x_push (1) 919), (919, x_iadd 920), (920, x_sld scr 921), (921, x_aload 0 922), (922, x_iload 3 923), (923, x_push (2) 924), (924, x_iadd 925), (925, x_sld scr 926), (926, x_inv 157 8 2 929), (929, x_pop 930), (930, x_goto 1124), (933, x_aload 1 934), (934, x_inv 82 7 0 937), (937, x_pop 938), (938, x_aload 2 939), (939, x_inv 133 8 0 942), (942, x_pop 943), (943, x_goto 1124)]
theorem o190_30 (scr : Nat × (Nat → Int32)) : ∀ q ∈ k190_30 scr, XSnd xm scr Y190 q.1 q.2 := xcons (s_aload_n rfl dL_law_916) (xcons (s_iload_n rfl dL_law_917) (xcons (s_iconst dL_law_918 rfl) (xcons (s_iadd dL_law_919) (xcons (s_sld rfl dL_law_920) (xcons (s_aload_n rfl dL_law_921) (xcons (s_iload_n rfl dL_law_922) (xcons (s_iconst dL_law_923 rfl) (xcons (s_iadd dL_law_924) (xcons (s_sld rfl dL_law_925) (xcons (s_inv (mid := 157) xC8 cal_157 xw_895 xw_896 xw_897 dL_law_926) (xcons (s_pop dL_law_929) (xcons (s_goto dL_law_930 rfl) (xcons (s_aload_n rfl dL_law_933) (xcons (s_inv (mid := 82) xC7 cal_82 xw_899 xw_900 xw_901 dL_law_934) (xcons (s_pop dL_law_937) (xcons (s_aload_n rfl dL_law_938) (xcons (s_inv (mid := 133) xC8 cal_133 xw_903 xw_904 xw_905 dL_law_939) (xcons (s_pop dL_law_942) (xcons (s_goto dL_law_943 rfl) (xnil))))))))))))))))))))
set_option maxRecDepth 20000 in
theorem gL_law_946 : decode cL_law 946 = .ok (.aload_n 1, 1) ∧ decode cL_law 947 = .ok (.invokevirtual 122, 3) ∧ decode cL_law 950 = .ok (.aload_n 2, 1) ∧ decode cL_law 951 = .ok (.invokevirtual 125, 3) ∧ decode cL_law 954 = .ok (.if_icmp .eq 170, 3) ∧ decode cL_law 957 = .ok (.iconst 0, 1) ∧ decode cL_law 958 = .ok (.ireturn, 1) := by decide +kernel
theorem dL_law_946 : decode cL_law 946 = .ok (.aload_n 1, 1) := gL_law_946.1
theorem dL_law_947 : decode cL_law 947 = .ok (.invokevirtual 122, 3) := gL_law_946.2.1
theorem dL_law_950 : decode cL_law 950 = .ok (.aload_n 2, 1) := gL_law_946.2.2.1
theorem dL_law_951 : decode cL_law 951 = .ok (.invokevirtual 125, 3) := gL_law_946.2.2.2.1
theorem dL_law_954 : decode cL_law 954 = .ok (.if_icmp .eq 170, 3) := gL_law_946.2.2.2.2.1
theorem dL_law_957 : decode cL_law 957 = .ok (.iconst 0, 1) := gL_law_946.2.2.2.2.2.1
theorem dL_law_958 : decode cL_law 958 = .ok (.ireturn, 1) := gL_law_946.2.2.2.2.2.2
set_option maxRecDepth 20000 in
theorem gL_law_959 : decode cL_law 959 = .ok (.aload_n 1, 1) ∧ decode cL_law 960 = .ok (.aload_n 0, 1) ∧ decode cL_law 961 = .ok (.iload_n 3, 1) ∧ decode cL_law 962 = .ok (.iconst 1, 1) ∧ decode cL_law 963 = .ok (.iadd, 1) ∧ decode cL_law 964 = .ok (.iaload, 1) ∧ decode cL_law 965 = .ok (.aload_n 0, 1) := by decide +kernel
theorem dL_law_959 : decode cL_law 959 = .ok (.aload_n 1, 1) := gL_law_959.1
theorem dL_law_960 : decode cL_law 960 = .ok (.aload_n 0, 1) := gL_law_959.2.1
theorem dL_law_961 : decode cL_law 961 = .ok (.iload_n 3, 1) := gL_law_959.2.2.1
theorem dL_law_962 : decode cL_law 962 = .ok (.iconst 1, 1) := gL_law_959.2.2.2.1
theorem dL_law_963 : decode cL_law 963 = .ok (.iadd, 1) := gL_law_959.2.2.2.2.1
theorem dL_law_964 : decode cL_law 964 = .ok (.iaload, 1) := gL_law_959.2.2.2.2.2.1
theorem dL_law_965 : decode cL_law 965 = .ok (.aload_n 0, 1) := gL_law_959.2.2.2.2.2.2
set_option maxRecDepth 20000 in
theorem gL_law_966 : decode cL_law 966 = .ok (.iload_n 3, 1) ∧ decode cL_law 967 = .ok (.iconst 2, 1) ∧ decode cL_law 968 = .ok (.iadd, 1) ∧ decode cL_law 969 = .ok (.iaload, 1) ∧ decode cL_law 970 = .ok (.invokevirtual 126, 3) ∧ decode cL_law 973 = .ok (.pop, 1) := by decide +kernel
theorem dL_law_966 : decode cL_law 966 = .ok (.iload_n 3, 1) := gL_law_966.1
theorem dL_law_967 : decode cL_law 967 = .ok (.iconst 2, 1) := gL_law_966.2.1
theorem dL_law_968 : decode cL_law 968 = .ok (.iadd, 1) := gL_law_966.2.2.1
theorem dL_law_969 : decode cL_law 969 = .ok (.iaload, 1) := gL_law_966.2.2.2.1
theorem dL_law_970 : decode cL_law 970 = .ok (.invokevirtual 126, 3) := gL_law_966.2.2.2.2.1
theorem dL_law_973 : decode cL_law 973 = .ok (.pop, 1) := gL_law_966.2.2.2.2.2
def k190_31 (scr : Nat × (Nat → Int32)) : List (Nat × XI) := [(946, x_aload 1 947), (947, x_inv 69 7 0 950), (950, x_aload 2 951), (951, x_inv 109 8 0 954), (954, x_iceq 1124 957), (957, x_push (0) 958), (958, x_zret), (959, x_aload 1 960), (960, x_aload 0 961), (961, x_iload 3 962), (962, x_push (1) 963), (963, x_iadd 964), (964, x_sld scr 965), (965, x_aload 0 966), (966, x_iload 3 967), (967, x_push (2) 968), (968, x_iadd 969), (969, x_sld scr 970), (970, x_inv 81 7 2 973), (973, x_pop 974)]
theorem o190_31 (scr : Nat × (Nat → Int32)) : ∀ q ∈ k190_31 scr, XSnd xm scr Y190 q.1 q.2 := xcons (s_aload_n rfl dL_law_946) (xcons (s_inv (mid := 69) xC7 cal_69 xw_907 xw_908 xw_909 dL_law_947) (xcons (s_aload_n rfl dL_law_950) (xcons (s_inv (mid := 109) xC8 cal_109 xw_911 xw_912 xw_913 dL_law_951) (xcons (s_iceq dL_law_954 rfl) (xcons (s_iconst dL_law_957 rfl) (xcons (s_zret dL_law_958 rfl) (xcons (s_aload_n rfl dL_law_959) (xcons (s_aload_n rfl dL_law_960) (xcons (s_iload_n rfl dL_law_961) (xcons (s_iconst dL_law_962 rfl) (xcons (s_iadd dL_law_963) (xcons (s_sld rfl dL_law_964) (xcons (s_aload_n rfl dL_law_965) (xcons (s_iload_n rfl dL_law_966) (xcons (s_iconst dL_law_967 rfl) (xcons (s_iadd dL_law_968) (xcons (s_sld rfl dL_law_969) (xcons (s_inv (mid := 81) xC7 cal_81 xw_915 xw_916 xw_917 dL_law_970) (xcons (s_pop dL_law_973) (xnil))))))))))))))))))))
set_option maxRecDepth 20000 in
theorem gL_law_974 : decode cL_law 974 = .ok (.aload_n 2, 1) ∧ decode cL_law 975 = .ok (.aload_n 0, 1) ∧ decode cL_law 976 = .ok (.iload_n 3, 1) ∧ decode cL_law 977 = .ok (.iconst 1, 1) ∧ decode cL_law 978 = .ok (.iadd, 1) ∧ decode cL_law 979 = .ok (.iaload, 1) ∧ decode cL_law 980 = .ok (.aload_n 0, 1) := by decide +kernel
theorem dL_law_974 : decode cL_law 974 = .ok (.aload_n 2, 1) := gL_law_974.1
theorem dL_law_975 : decode cL_law 975 = .ok (.aload_n 0, 1) := gL_law_974.2.1
theorem dL_law_976 : decode cL_law 976 = .ok (.iload_n 3, 1) := gL_law_974.2.2.1
theorem dL_law_977 : decode cL_law 977 = .ok (.iconst 1, 1) := gL_law_974.2.2.2.1
theorem dL_law_978 : decode cL_law 978 = .ok (.iadd, 1) := gL_law_974.2.2.2.2.1
theorem dL_law_979 : decode cL_law 979 = .ok (.iaload, 1) := gL_law_974.2.2.2.2.2.1
theorem dL_law_980 : decode cL_law 980 = .ok (.aload_n 0, 1) := gL_law_974.2.2.2.2.2.2
set_option maxRecDepth 20000 in
theorem gL_law_981 : decode cL_law 981 = .ok (.iload_n 3, 1) ∧ decode cL_law 982 = .ok (.iconst 2, 1) ∧ decode cL_law 983 = .ok (.iadd, 1) ∧ decode cL_law 984 = .ok (.iaload, 1) ∧ decode cL_law 985 = .ok (.invokevirtual 129, 3) ∧ decode cL_law 988 = .ok (.pop, 1) ∧ decode cL_law 989 = .ok (.goto 135, 3) := by decide +kernel
theorem dL_law_981 : decode cL_law 981 = .ok (.iload_n 3, 1) := gL_law_981.1
theorem dL_law_982 : decode cL_law 982 = .ok (.iconst 2, 1) := gL_law_981.2.1
theorem dL_law_983 : decode cL_law 983 = .ok (.iadd, 1) := gL_law_981.2.2.1
theorem dL_law_984 : decode cL_law 984 = .ok (.iaload, 1) := gL_law_981.2.2.2.1
theorem dL_law_985 : decode cL_law 985 = .ok (.invokevirtual 129, 3) := gL_law_981.2.2.2.2.1
theorem dL_law_988 : decode cL_law 988 = .ok (.pop, 1) := gL_law_981.2.2.2.2.2.1
theorem dL_law_989 : decode cL_law 989 = .ok (.goto 135, 3) := gL_law_981.2.2.2.2.2.2
set_option maxRecDepth 20000 in
theorem gL_law_992 : decode cL_law 992 = .ok (.aload_n 1, 1) ∧ decode cL_law 993 = .ok (.aload_n 0, 1) ∧ decode cL_law 994 = .ok (.iload_n 3, 1) ∧ decode cL_law 995 = .ok (.iconst 1, 1) ∧ decode cL_law 996 = .ok (.iadd, 1) ∧ decode cL_law 997 = .ok (.iaload, 1) := by decide +kernel
theorem dL_law_992 : decode cL_law 992 = .ok (.aload_n 1, 1) := gL_law_992.1
theorem dL_law_993 : decode cL_law 993 = .ok (.aload_n 0, 1) := gL_law_992.2.1
theorem dL_law_994 : decode cL_law 994 = .ok (.iload_n 3, 1) := gL_law_992.2.2.1
theorem dL_law_995 : decode cL_law 995 = .ok (.iconst 1, 1) := gL_law_992.2.2.2.1
theorem dL_law_996 : decode cL_law 996 = .ok (.iadd, 1) := gL_law_992.2.2.2.2.1
theorem dL_law_997 : decode cL_law 997 = .ok (.iaload, 1) := gL_law_992.2.2.2.2.2
def k190_32 (scr : Nat × (Nat → Int32)) : List (Nat × XI) := [(974, x_aload 2 975), (975, x_aload 0 976), (976, x_iload 3 977), (977, x_push (1) 978), (978, x_iadd 979), (979, x_sld scr 980), (980, x_aload 0 981), (981, x_iload 3 982), (982, x_push (2) 983), (983, x_iadd 984), (984, x_sld scr 985), (985, x_inv 131 8 2 988), (988, x_pop 989), (989, x_goto 1124), (992, x_aload 1 993), (993, x_aload 0 994), (994, x_iload 3 995), (995, x_push (1) 996), (996, x_iadd 997), (997, x_sld scr 998)]
theorem o190_32 (scr : Nat × (Nat → Int32)) : ∀ q ∈ k190_32 scr, XSnd xm scr Y190 q.1 q.2 := xcons (s_aload_n rfl dL_law_974) (xcons (s_aload_n rfl dL_law_975) (xcons (s_iload_n rfl dL_law_976) (xcons (s_iconst dL_law_977 rfl) (xcons (s_iadd dL_law_978) (xcons (s_sld rfl dL_law_979) (xcons (s_aload_n rfl dL_law_980) (xcons (s_iload_n rfl dL_law_981) (xcons (s_iconst dL_law_982 rfl) (xcons (s_iadd dL_law_983) (xcons (s_sld rfl dL_law_984) (xcons (s_inv (mid := 131) xC8 cal_131 xw_919 xw_920 xw_921 dL_law_985) (xcons (s_pop dL_law_988) (xcons (s_goto dL_law_989 rfl) (xcons (s_aload_n rfl dL_law_992) (xcons (s_aload_n rfl dL_law_993) (xcons (s_iload_n rfl dL_law_994) (xcons (s_iconst dL_law_995 rfl) (xcons (s_iadd dL_law_996) (xcons (s_sld rfl dL_law_997) (xnil))))))))))))))))))))
set_option maxRecDepth 20000 in
theorem gL_law_998 : decode cL_law 998 = .ok (.aload_n 0, 1) ∧ decode cL_law 999 = .ok (.iload_n 3, 1) ∧ decode cL_law 1000 = .ok (.iconst 2, 1) ∧ decode cL_law 1001 = .ok (.iadd, 1) ∧ decode cL_law 1002 = .ok (.iaload, 1) ∧ decode cL_law 1003 = .ok (.invokevirtual 130, 3) ∧ decode cL_law 1006 = .ok (.pop, 1) := by decide +kernel
theorem dL_law_998 : decode cL_law 998 = .ok (.aload_n 0, 1) := gL_law_998.1
theorem dL_law_999 : decode cL_law 999 = .ok (.iload_n 3, 1) := gL_law_998.2.1
theorem dL_law_1000 : decode cL_law 1000 = .ok (.iconst 2, 1) := gL_law_998.2.2.1
theorem dL_law_1001 : decode cL_law 1001 = .ok (.iadd, 1) := gL_law_998.2.2.2.1
theorem dL_law_1002 : decode cL_law 1002 = .ok (.iaload, 1) := gL_law_998.2.2.2.2.1
theorem dL_law_1003 : decode cL_law 1003 = .ok (.invokevirtual 130, 3) := gL_law_998.2.2.2.2.2.1
theorem dL_law_1006 : decode cL_law 1006 = .ok (.pop, 1) := gL_law_998.2.2.2.2.2.2
set_option maxRecDepth 20000 in
theorem gL_law_1007 : decode cL_law 1007 = .ok (.aload_n 2, 1) ∧ decode cL_law 1008 = .ok (.aload_n 0, 1) ∧ decode cL_law 1009 = .ok (.iload_n 3, 1) ∧ decode cL_law 1010 = .ok (.iconst 1, 1) ∧ decode cL_law 1011 = .ok (.iadd, 1) ∧ decode cL_law 1012 = .ok (.iaload, 1) ∧ decode cL_law 1013 = .ok (.aload_n 0, 1) := by decide +kernel
theorem dL_law_1007 : decode cL_law 1007 = .ok (.aload_n 2, 1) := gL_law_1007.1
theorem dL_law_1008 : decode cL_law 1008 = .ok (.aload_n 0, 1) := gL_law_1007.2.1
theorem dL_law_1009 : decode cL_law 1009 = .ok (.iload_n 3, 1) := gL_law_1007.2.2.1
theorem dL_law_1010 : decode cL_law 1010 = .ok (.iconst 1, 1) := gL_law_1007.2.2.2.1
theorem dL_law_1011 : decode cL_law 1011 = .ok (.iadd, 1) := gL_law_1007.2.2.2.2.1
theorem dL_law_1012 : decode cL_law 1012 = .ok (.iaload, 1) := gL_law_1007.2.2.2.2.2.1
theorem dL_law_1013 : decode cL_law 1013 = .ok (.aload_n 0, 1) := gL_law_1007.2.2.2.2.2.2
set_option maxRecDepth 20000 in
theorem gL_law_1014 : decode cL_law 1014 = .ok (.iload_n 3, 1) ∧ decode cL_law 1015 = .ok (.iconst 2, 1) ∧ decode cL_law 1016 = .ok (.iadd, 1) ∧ decode cL_law 1017 = .ok (.iaload, 1) ∧ decode cL_law 1018 = .ok (.invokevirtual 133, 3) ∧ decode cL_law 1021 = .ok (.pop, 1) := by decide +kernel
theorem dL_law_1014 : decode cL_law 1014 = .ok (.iload_n 3, 1) := gL_law_1014.1
theorem dL_law_1015 : decode cL_law 1015 = .ok (.iconst 2, 1) := gL_law_1014.2.1
theorem dL_law_1016 : decode cL_law 1016 = .ok (.iadd, 1) := gL_law_1014.2.2.1
theorem dL_law_1017 : decode cL_law 1017 = .ok (.iaload, 1) := gL_law_1014.2.2.2.1
theorem dL_law_1018 : decode cL_law 1018 = .ok (.invokevirtual 133, 3) := gL_law_1014.2.2.2.2.1
theorem dL_law_1021 : decode cL_law 1021 = .ok (.pop, 1) := gL_law_1014.2.2.2.2.2
def k190_33 (scr : Nat × (Nat → Int32)) : List (Nat × XI) := [(998, x_aload 0 999), (999, x_iload 3 1000), (1000, x_push (2) 1001), (1001, x_iadd 1002), (1002, x_sld scr 1003), (1003, x_inv 95 7 2 1006), (1006, x_pop 1007), (1007, x_aload 2 1008), (1008, x_aload 0 1009), (1009, x_iload 3 1010), (1010, x_push (1) 1011), (1011, x_iadd 1012), (1012, x_sld scr 1013), (1013, x_aload 0 1014), (1014, x_iload 3 1015), (1015, x_push (2) 1016), (1016, x_iadd 1017), (1017, x_sld scr 1018), (1018, x_inv 164 8 2 1021), (1021, x_pop 1022)]
theorem o190_33 (scr : Nat × (Nat → Int32)) : ∀ q ∈ k190_33 scr, XSnd xm scr Y190 q.1 q.2 := xcons (s_aload_n rfl dL_law_998) (xcons (s_iload_n rfl dL_law_999) (xcons (s_iconst dL_law_1000 rfl) (xcons (s_iadd dL_law_1001) (xcons (s_sld rfl dL_law_1002) (xcons (s_inv (mid := 95) xC7 cal_95 xw_923 xw_924 xw_925 dL_law_1003) (xcons (s_pop dL_law_1006) (xcons (s_aload_n rfl dL_law_1007) (xcons (s_aload_n rfl dL_law_1008) (xcons (s_iload_n rfl dL_law_1009) (xcons (s_iconst dL_law_1010 rfl) (xcons (s_iadd dL_law_1011) (xcons (s_sld rfl dL_law_1012) (xcons (s_aload_n rfl dL_law_1013) (xcons (s_iload_n rfl dL_law_1014) (xcons (s_iconst dL_law_1015 rfl) (xcons (s_iadd dL_law_1016) (xcons (s_sld rfl dL_law_1017) (xcons (s_inv (mid := 164) xC8 cal_164 xw_927 xw_928 xw_929 dL_law_1018) (xcons (s_pop dL_law_1021) (xnil))))))))))))))))))))
set_option maxRecDepth 20000 in
theorem gL_law_1022 : decode cL_law 1022 = .ok (.goto 102, 3) ∧ decode cL_law 1025 = .ok (.aload_n 1, 1) ∧ decode cL_law 1026 = .ok (.aload_n 0, 1) ∧ decode cL_law 1027 = .ok (.iload_n 3, 1) ∧ decode cL_law 1028 = .ok (.iconst 1, 1) ∧ decode cL_law 1029 = .ok (.iadd, 1) ∧ decode cL_law 1030 = .ok (.iaload, 1) := by decide +kernel
theorem dL_law_1022 : decode cL_law 1022 = .ok (.goto 102, 3) := gL_law_1022.1
theorem dL_law_1025 : decode cL_law 1025 = .ok (.aload_n 1, 1) := gL_law_1022.2.1
theorem dL_law_1026 : decode cL_law 1026 = .ok (.aload_n 0, 1) := gL_law_1022.2.2.1
theorem dL_law_1027 : decode cL_law 1027 = .ok (.iload_n 3, 1) := gL_law_1022.2.2.2.1
theorem dL_law_1028 : decode cL_law 1028 = .ok (.iconst 1, 1) := gL_law_1022.2.2.2.2.1
theorem dL_law_1029 : decode cL_law 1029 = .ok (.iadd, 1) := gL_law_1022.2.2.2.2.2.1
theorem dL_law_1030 : decode cL_law 1030 = .ok (.iaload, 1) := gL_law_1022.2.2.2.2.2.2
set_option maxRecDepth 20000 in
theorem gL_law_1031 : decode cL_law 1031 = .ok (.aload_n 0, 1) ∧ decode cL_law 1032 = .ok (.iload_n 3, 1) ∧ decode cL_law 1033 = .ok (.iconst 2, 1) ∧ decode cL_law 1034 = .ok (.iadd, 1) ∧ decode cL_law 1035 = .ok (.iaload, 1) ∧ decode cL_law 1036 = .ok (.aload_n 0, 1) ∧ decode cL_law 1037 = .ok (.iload_n 3, 1) := by decide +kernel
theorem dL_law_1031 : decode cL_law 1031 = .ok (.aload_n 0, 1) := gL_law_1031.1
theorem dL_law_1032 : decode cL_law 1032 = .ok (.iload_n 3, 1) := gL_law_1031.2.1
theorem dL_law_1033 : decode cL_law 1033 = .ok (.iconst 2, 1) := gL_law_1031.2.2.1
theorem dL_law_1034 : decode cL_law 1034 = .ok (.iadd, 1) := gL_law_1031.2.2.2.1
theorem dL_law_1035 : decode cL_law 1035 = .ok (.iaload, 1) := gL_law_1031.2.2.2.2.1
theorem dL_law_1036 : decode cL_law 1036 = .ok (.aload_n 0, 1) := gL_law_1031.2.2.2.2.2.1
theorem dL_law_1037 : decode cL_law 1037 = .ok (.iload_n 3, 1) := gL_law_1031.2.2.2.2.2.2
set_option maxRecDepth 20000 in
theorem gL_law_1038 : decode cL_law 1038 = .ok (.iconst 3, 1) ∧ decode cL_law 1039 = .ok (.iadd, 1) ∧ decode cL_law 1040 = .ok (.iaload, 1) ∧ decode cL_law 1041 = .ok (.invokevirtual 134, 3) ∧ decode cL_law 1044 = .ok (.pop, 1) ∧ decode cL_law 1045 = .ok (.aload_n 2, 1) := by decide +kernel
theorem dL_law_1038 : decode cL_law 1038 = .ok (.iconst 3, 1) := gL_law_1038.1
theorem dL_law_1039 : decode cL_law 1039 = .ok (.iadd, 1) := gL_law_1038.2.1
theorem dL_law_1040 : decode cL_law 1040 = .ok (.iaload, 1) := gL_law_1038.2.2.1
theorem dL_law_1041 : decode cL_law 1041 = .ok (.invokevirtual 134, 3) := gL_law_1038.2.2.2.1
theorem dL_law_1044 : decode cL_law 1044 = .ok (.pop, 1) := gL_law_1038.2.2.2.2.1
theorem dL_law_1045 : decode cL_law 1045 = .ok (.aload_n 2, 1) := gL_law_1038.2.2.2.2.2
def k190_34 (scr : Nat × (Nat → Int32)) : List (Nat × XI) := [(1022, x_goto 1124), (1025, x_aload 1 1026), (1026, x_aload 0 1027), (1027, x_iload 3 1028), (1028, x_push (1) 1029), (1029, x_iadd 1030), (1030, x_sld scr 1031), (1031, x_aload 0 1032), (1032, x_iload 3 1033), (1033, x_push (2) 1034), (1034, x_iadd 1035), (1035, x_sld scr 1036), (1036, x_aload 0 1037), (1037, x_iload 3 1038), (1038, x_push (3) 1039), (1039, x_iadd 1040), (1040, x_sld scr 1041), (1041, x_inv 92 7 3 1044), (1044, x_pop 1045), (1045, x_aload 2 1046)]
theorem o190_34 (scr : Nat × (Nat → Int32)) : ∀ q ∈ k190_34 scr, XSnd xm scr Y190 q.1 q.2 := xcons (s_goto dL_law_1022 rfl) (xcons (s_aload_n rfl dL_law_1025) (xcons (s_aload_n rfl dL_law_1026) (xcons (s_iload_n rfl dL_law_1027) (xcons (s_iconst dL_law_1028 rfl) (xcons (s_iadd dL_law_1029) (xcons (s_sld rfl dL_law_1030) (xcons (s_aload_n rfl dL_law_1031) (xcons (s_iload_n rfl dL_law_1032) (xcons (s_iconst dL_law_1033 rfl) (xcons (s_iadd dL_law_1034) (xcons (s_sld rfl dL_law_1035) (xcons (s_aload_n rfl dL_law_1036) (xcons (s_iload_n rfl dL_law_1037) (xcons (s_iconst dL_law_1038 rfl) (xcons (s_iadd dL_law_1039) (xcons (s_sld rfl dL_law_1040) (xcons (s_inv (mid := 92) xC7 cal_92 xw_931 xw_932 xw_933 dL_law_1041) (xcons (s_pop dL_law_1044) (xcons (s_aload_n rfl dL_law_1045) (xnil))))))))))))))))))))
set_option maxRecDepth 20000 in
theorem gL_law_1046 : decode cL_law 1046 = .ok (.aload_n 0, 1) ∧ decode cL_law 1047 = .ok (.iload_n 3, 1) ∧ decode cL_law 1048 = .ok (.iconst 1, 1) ∧ decode cL_law 1049 = .ok (.iadd, 1) ∧ decode cL_law 1050 = .ok (.iaload, 1) ∧ decode cL_law 1051 = .ok (.aload_n 0, 1) ∧ decode cL_law 1052 = .ok (.iload_n 3, 1) := by decide +kernel
theorem dL_law_1046 : decode cL_law 1046 = .ok (.aload_n 0, 1) := gL_law_1046.1
theorem dL_law_1047 : decode cL_law 1047 = .ok (.iload_n 3, 1) := gL_law_1046.2.1
theorem dL_law_1048 : decode cL_law 1048 = .ok (.iconst 1, 1) := gL_law_1046.2.2.1
theorem dL_law_1049 : decode cL_law 1049 = .ok (.iadd, 1) := gL_law_1046.2.2.2.1
theorem dL_law_1050 : decode cL_law 1050 = .ok (.iaload, 1) := gL_law_1046.2.2.2.2.1
theorem dL_law_1051 : decode cL_law 1051 = .ok (.aload_n 0, 1) := gL_law_1046.2.2.2.2.2.1
theorem dL_law_1052 : decode cL_law 1052 = .ok (.iload_n 3, 1) := gL_law_1046.2.2.2.2.2.2
set_option maxRecDepth 20000 in
theorem gL_law_1053 : decode cL_law 1053 = .ok (.iconst 2, 1) ∧ decode cL_law 1054 = .ok (.iadd, 1) ∧ decode cL_law 1055 = .ok (.iaload, 1) ∧ decode cL_law 1056 = .ok (.aload_n 0, 1) ∧ decode cL_law 1057 = .ok (.iload_n 3, 1) ∧ decode cL_law 1058 = .ok (.iconst 3, 1) ∧ decode cL_law 1059 = .ok (.iadd, 1) := by decide +kernel
theorem dL_law_1053 : decode cL_law 1053 = .ok (.iconst 2, 1) := gL_law_1053.1
theorem dL_law_1054 : decode cL_law 1054 = .ok (.iadd, 1) := gL_law_1053.2.1
theorem dL_law_1055 : decode cL_law 1055 = .ok (.iaload, 1) := gL_law_1053.2.2.1
theorem dL_law_1056 : decode cL_law 1056 = .ok (.aload_n 0, 1) := gL_law_1053.2.2.2.1
theorem dL_law_1057 : decode cL_law 1057 = .ok (.iload_n 3, 1) := gL_law_1053.2.2.2.2.1
theorem dL_law_1058 : decode cL_law 1058 = .ok (.iconst 3, 1) := gL_law_1053.2.2.2.2.2.1
theorem dL_law_1059 : decode cL_law 1059 = .ok (.iadd, 1) := gL_law_1053.2.2.2.2.2.2
set_option maxRecDepth 20000 in
theorem gL_law_1060 : decode cL_law 1060 = .ok (.iaload, 1) ∧ decode cL_law 1061 = .ok (.invokevirtual 137, 3) ∧ decode cL_law 1064 = .ok (.pop, 1) ∧ decode cL_law 1065 = .ok (.goto 59, 3) ∧ decode cL_law 1068 = .ok (.aload_n 1, 1) ∧ decode cL_law 1069 = .ok (.aload_n 0, 1) := by decide +kernel
theorem dL_law_1060 : decode cL_law 1060 = .ok (.iaload, 1) := gL_law_1060.1
theorem dL_law_1061 : decode cL_law 1061 = .ok (.invokevirtual 137, 3) := gL_law_1060.2.1
theorem dL_law_1064 : decode cL_law 1064 = .ok (.pop, 1) := gL_law_1060.2.2.1
theorem dL_law_1065 : decode cL_law 1065 = .ok (.goto 59, 3) := gL_law_1060.2.2.2.1
theorem dL_law_1068 : decode cL_law 1068 = .ok (.aload_n 1, 1) := gL_law_1060.2.2.2.2.1
theorem dL_law_1069 : decode cL_law 1069 = .ok (.aload_n 0, 1) := gL_law_1060.2.2.2.2.2
def k190_35 (scr : Nat × (Nat → Int32)) : List (Nat × XI) := [(1046, x_aload 0 1047), (1047, x_iload 3 1048), (1048, x_push (1) 1049), (1049, x_iadd 1050), (1050, x_sld scr 1051), (1051, x_aload 0 1052), (1052, x_iload 3 1053), (1053, x_push (2) 1054), (1054, x_iadd 1055), (1055, x_sld scr 1056), (1056, x_aload 0 1057), (1057, x_iload 3 1058), (1058, x_push (3) 1059), (1059, x_iadd 1060), (1060, x_sld scr 1061), (1061, x_inv 160 8 3 1064), (1064, x_pop 1065), (1065, x_goto 1124), (1068, x_aload 1 1069), (1069, x_aload 0 1070)]
theorem o190_35 (scr : Nat × (Nat → Int32)) : ∀ q ∈ k190_35 scr, XSnd xm scr Y190 q.1 q.2 := xcons (s_aload_n rfl dL_law_1046) (xcons (s_iload_n rfl dL_law_1047) (xcons (s_iconst dL_law_1048 rfl) (xcons (s_iadd dL_law_1049) (xcons (s_sld rfl dL_law_1050) (xcons (s_aload_n rfl dL_law_1051) (xcons (s_iload_n rfl dL_law_1052) (xcons (s_iconst dL_law_1053 rfl) (xcons (s_iadd dL_law_1054) (xcons (s_sld rfl dL_law_1055) (xcons (s_aload_n rfl dL_law_1056) (xcons (s_iload_n rfl dL_law_1057) (xcons (s_iconst dL_law_1058 rfl) (xcons (s_iadd dL_law_1059) (xcons (s_sld rfl dL_law_1060) (xcons (s_inv (mid := 160) xC8 cal_160 xw_935 xw_936 xw_937 dL_law_1061) (xcons (s_pop dL_law_1064) (xcons (s_goto dL_law_1065 rfl) (xcons (s_aload_n rfl dL_law_1068) (xcons (s_aload_n rfl dL_law_1069) (xnil))))))))))))))))))))
set_option maxRecDepth 20000 in
theorem gL_law_1070 : decode cL_law 1070 = .ok (.iload_n 3, 1) ∧ decode cL_law 1071 = .ok (.iconst 1, 1) ∧ decode cL_law 1072 = .ok (.iadd, 1) ∧ decode cL_law 1073 = .ok (.iaload, 1) ∧ decode cL_law 1074 = .ok (.aload_n 0, 1) ∧ decode cL_law 1075 = .ok (.iload_n 3, 1) ∧ decode cL_law 1076 = .ok (.iconst 2, 1) := by decide +kernel
theorem dL_law_1070 : decode cL_law 1070 = .ok (.iload_n 3, 1) := gL_law_1070.1
theorem dL_law_1071 : decode cL_law 1071 = .ok (.iconst 1, 1) := gL_law_1070.2.1
theorem dL_law_1072 : decode cL_law 1072 = .ok (.iadd, 1) := gL_law_1070.2.2.1
theorem dL_law_1073 : decode cL_law 1073 = .ok (.iaload, 1) := gL_law_1070.2.2.2.1
theorem dL_law_1074 : decode cL_law 1074 = .ok (.aload_n 0, 1) := gL_law_1070.2.2.2.2.1
theorem dL_law_1075 : decode cL_law 1075 = .ok (.iload_n 3, 1) := gL_law_1070.2.2.2.2.2.1
theorem dL_law_1076 : decode cL_law 1076 = .ok (.iconst 2, 1) := gL_law_1070.2.2.2.2.2.2
set_option maxRecDepth 20000 in
theorem gL_law_1077 : decode cL_law 1077 = .ok (.iadd, 1) ∧ decode cL_law 1078 = .ok (.iaload, 1) ∧ decode cL_law 1079 = .ok (.invokevirtual 138, 3) ∧ decode cL_law 1082 = .ok (.pop, 1) ∧ decode cL_law 1083 = .ok (.aload_n 2, 1) ∧ decode cL_law 1084 = .ok (.aload_n 0, 1) ∧ decode cL_law 1085 = .ok (.iload_n 3, 1) := by decide +kernel
theorem dL_law_1077 : decode cL_law 1077 = .ok (.iadd, 1) := gL_law_1077.1
theorem dL_law_1078 : decode cL_law 1078 = .ok (.iaload, 1) := gL_law_1077.2.1
theorem dL_law_1079 : decode cL_law 1079 = .ok (.invokevirtual 138, 3) := gL_law_1077.2.2.1
theorem dL_law_1082 : decode cL_law 1082 = .ok (.pop, 1) := gL_law_1077.2.2.2.1
theorem dL_law_1083 : decode cL_law 1083 = .ok (.aload_n 2, 1) := gL_law_1077.2.2.2.2.1
theorem dL_law_1084 : decode cL_law 1084 = .ok (.aload_n 0, 1) := gL_law_1077.2.2.2.2.2.1
theorem dL_law_1085 : decode cL_law 1085 = .ok (.iload_n 3, 1) := gL_law_1077.2.2.2.2.2.2
set_option maxRecDepth 20000 in
theorem gL_law_1086 : decode cL_law 1086 = .ok (.iconst 1, 1) ∧ decode cL_law 1087 = .ok (.iadd, 1) ∧ decode cL_law 1088 = .ok (.iaload, 1) ∧ decode cL_law 1089 = .ok (.aload_n 0, 1) ∧ decode cL_law 1090 = .ok (.iload_n 3, 1) ∧ decode cL_law 1091 = .ok (.iconst 2, 1) := by decide +kernel
theorem dL_law_1086 : decode cL_law 1086 = .ok (.iconst 1, 1) := gL_law_1086.1
theorem dL_law_1087 : decode cL_law 1087 = .ok (.iadd, 1) := gL_law_1086.2.1
theorem dL_law_1088 : decode cL_law 1088 = .ok (.iaload, 1) := gL_law_1086.2.2.1
theorem dL_law_1089 : decode cL_law 1089 = .ok (.aload_n 0, 1) := gL_law_1086.2.2.2.1
theorem dL_law_1090 : decode cL_law 1090 = .ok (.iload_n 3, 1) := gL_law_1086.2.2.2.2.1
theorem dL_law_1091 : decode cL_law 1091 = .ok (.iconst 2, 1) := gL_law_1086.2.2.2.2.2
def k190_36 (scr : Nat × (Nat → Int32)) : List (Nat × XI) := [(1070, x_iload 3 1071), (1071, x_push (1) 1072), (1072, x_iadd 1073), (1073, x_sld scr 1074), (1074, x_aload 0 1075), (1075, x_iload 3 1076), (1076, x_push (2) 1077), (1077, x_iadd 1078), (1078, x_sld scr 1079), (1079, x_inv 103 7 2 1082), (1082, x_pop 1083), (1083, x_aload 2 1084), (1084, x_aload 0 1085), (1085, x_iload 3 1086), (1086, x_push (1) 1087), (1087, x_iadd 1088), (1088, x_sld scr 1089), (1089, x_aload 0 1090), (1090, x_iload 3 1091), (1091, x_push (2) 1092)]
theorem o190_36 (scr : Nat × (Nat → Int32)) : ∀ q ∈ k190_36 scr, XSnd xm scr Y190 q.1 q.2 := xcons (s_iload_n rfl dL_law_1070) (xcons (s_iconst dL_law_1071 rfl) (xcons (s_iadd dL_law_1072) (xcons (s_sld rfl dL_law_1073) (xcons (s_aload_n rfl dL_law_1074) (xcons (s_iload_n rfl dL_law_1075) (xcons (s_iconst dL_law_1076 rfl) (xcons (s_iadd dL_law_1077) (xcons (s_sld rfl dL_law_1078) (xcons (s_inv (mid := 103) xC7 cal_103 xw_939 xw_940 xw_941 dL_law_1079) (xcons (s_pop dL_law_1082) (xcons (s_aload_n rfl dL_law_1083) (xcons (s_aload_n rfl dL_law_1084) (xcons (s_iload_n rfl dL_law_1085) (xcons (s_iconst dL_law_1086 rfl) (xcons (s_iadd dL_law_1087) (xcons (s_sld rfl dL_law_1088) (xcons (s_aload_n rfl dL_law_1089) (xcons (s_iload_n rfl dL_law_1090) (xcons (s_iconst dL_law_1091 rfl) (xnil))))))))))))))))))))
set_option maxRecDepth 20000 in
theorem gL_law_1092 : decode cL_law 1092 = .ok (.iadd, 1) ∧ decode cL_law 1093 = .ok (.iaload, 1) ∧ decode cL_law 1094 = .ok (.invokevirtual 141, 3) ∧ decode cL_law 1097 = .ok (.pop, 1) ∧ decode cL_law 1098 = .ok (.goto 26, 3) ∧ decode cL_law 1101 = .ok (.aload_n 1, 1) ∧ decode cL_law 1102 = .ok (.aload_n 0, 1) := by decide +kernel
theorem dL_law_1092 : decode cL_law 1092 = .ok (.iadd, 1) := gL_law_1092.1
theorem dL_law_1093 : decode cL_law 1093 = .ok (.iaload, 1) := gL_law_1092.2.1
theorem dL_law_1094 : decode cL_law 1094 = .ok (.invokevirtual 141, 3) := gL_law_1092.2.2.1
theorem dL_law_1097 : decode cL_law 1097 = .ok (.pop, 1) := gL_law_1092.2.2.2.1
theorem dL_law_1098 : decode cL_law 1098 = .ok (.goto 26, 3) := gL_law_1092.2.2.2.2.1
theorem dL_law_1101 : decode cL_law 1101 = .ok (.aload_n 1, 1) := gL_law_1092.2.2.2.2.2.1
theorem dL_law_1102 : decode cL_law 1102 = .ok (.aload_n 0, 1) := gL_law_1092.2.2.2.2.2.2
set_option maxRecDepth 20000 in
theorem gL_law_1103 : decode cL_law 1103 = .ok (.iload_n 3, 1) ∧ decode cL_law 1104 = .ok (.iconst 1, 1) ∧ decode cL_law 1105 = .ok (.iadd, 1) ∧ decode cL_law 1106 = .ok (.iaload, 1) ∧ decode cL_law 1107 = .ok (.invokevirtual 142, 3) ∧ decode cL_law 1110 = .ok (.pop, 1) ∧ decode cL_law 1111 = .ok (.aload_n 2, 1) := by decide +kernel
theorem dL_law_1103 : decode cL_law 1103 = .ok (.iload_n 3, 1) := gL_law_1103.1
theorem dL_law_1104 : decode cL_law 1104 = .ok (.iconst 1, 1) := gL_law_1103.2.1
theorem dL_law_1105 : decode cL_law 1105 = .ok (.iadd, 1) := gL_law_1103.2.2.1
theorem dL_law_1106 : decode cL_law 1106 = .ok (.iaload, 1) := gL_law_1103.2.2.2.1
theorem dL_law_1107 : decode cL_law 1107 = .ok (.invokevirtual 142, 3) := gL_law_1103.2.2.2.2.1
theorem dL_law_1110 : decode cL_law 1110 = .ok (.pop, 1) := gL_law_1103.2.2.2.2.2.1
theorem dL_law_1111 : decode cL_law 1111 = .ok (.aload_n 2, 1) := gL_law_1103.2.2.2.2.2.2
set_option maxRecDepth 20000 in
theorem gL_law_1112 : decode cL_law 1112 = .ok (.aload_n 0, 1) ∧ decode cL_law 1113 = .ok (.iload_n 3, 1) ∧ decode cL_law 1114 = .ok (.iconst 1, 1) ∧ decode cL_law 1115 = .ok (.iadd, 1) ∧ decode cL_law 1116 = .ok (.iaload, 1) ∧ decode cL_law 1117 = .ok (.invokevirtual 145, 3) := by decide +kernel
theorem dL_law_1112 : decode cL_law 1112 = .ok (.aload_n 0, 1) := gL_law_1112.1
theorem dL_law_1113 : decode cL_law 1113 = .ok (.iload_n 3, 1) := gL_law_1112.2.1
theorem dL_law_1114 : decode cL_law 1114 = .ok (.iconst 1, 1) := gL_law_1112.2.2.1
theorem dL_law_1115 : decode cL_law 1115 = .ok (.iadd, 1) := gL_law_1112.2.2.2.1
theorem dL_law_1116 : decode cL_law 1116 = .ok (.iaload, 1) := gL_law_1112.2.2.2.2.1
theorem dL_law_1117 : decode cL_law 1117 = .ok (.invokevirtual 145, 3) := gL_law_1112.2.2.2.2.2
def k190_37 (scr : Nat × (Nat → Int32)) : List (Nat × XI) := [(1092, x_iadd 1093), (1093, x_sld scr 1094), (1094, x_inv 181 8 2 1097), (1097, x_pop 1098), (1098, x_goto 1124), (1101, x_aload 1 1102), (1102, x_aload 0 1103), (1103, x_iload 3 1104), (1104, x_push (1) 1105), (1105, x_iadd 1106), (1106, x_sld scr 1107), (1107, x_inv 72 7 1 1110), (1110, x_pop 1111), (1111, x_aload 2 1112), (1112, x_aload 0 1113), (1113, x_iload 3 1114), (1114, x_push (1) 1115), (1115, x_iadd 1116), (1116, x_sld scr 1117), (1117, x_inv 116 8 1 1120)]
theorem o190_37 (scr : Nat × (Nat → Int32)) : ∀ q ∈ k190_37 scr, XSnd xm scr Y190 q.1 q.2 := xcons (s_iadd dL_law_1092) (xcons (s_sld rfl dL_law_1093) (xcons (s_inv (mid := 181) xC8 cal_181 xw_943 xw_944 xw_945 dL_law_1094) (xcons (s_pop dL_law_1097) (xcons (s_goto dL_law_1098 rfl) (xcons (s_aload_n rfl dL_law_1101) (xcons (s_aload_n rfl dL_law_1102) (xcons (s_iload_n rfl dL_law_1103) (xcons (s_iconst dL_law_1104 rfl) (xcons (s_iadd dL_law_1105) (xcons (s_sld rfl dL_law_1106) (xcons (s_inv (mid := 72) xC7 cal_72 xw_947 xw_948 xw_949 dL_law_1107) (xcons (s_pop dL_law_1110) (xcons (s_aload_n rfl dL_law_1111) (xcons (s_aload_n rfl dL_law_1112) (xcons (s_iload_n rfl dL_law_1113) (xcons (s_iconst dL_law_1114 rfl) (xcons (s_iadd dL_law_1115) (xcons (s_sld rfl dL_law_1116) (xcons (s_inv (mid := 116) xC8 cal_116 xw_951 xw_952 xw_953 dL_law_1117) (xnil))))))))))))))))))))
set_option maxRecDepth 20000 in
theorem gL_law_1120 : decode cL_law 1120 = .ok (.pop, 1) ∧ decode cL_law 1121 = .ok (.goto 3, 3) ∧ decode cL_law 1124 = .ok (.iinc 3 4, 3) ∧ decode cL_law 1127 = .ok (.goto (-1109), 3) ∧ decode cL_law 1130 = .ok (.iconst 1, 1) ∧ decode cL_law 1131 = .ok (.ireturn, 1) := by decide +kernel
theorem dL_law_1120 : decode cL_law 1120 = .ok (.pop, 1) := gL_law_1120.1
theorem dL_law_1121 : decode cL_law 1121 = .ok (.goto 3, 3) := gL_law_1120.2.1
theorem dL_law_1124 : decode cL_law 1124 = .ok (.iinc 3 4, 3) := gL_law_1120.2.2.1
theorem dL_law_1127 : decode cL_law 1127 = .ok (.goto (-1109), 3) := gL_law_1120.2.2.2.1
theorem dL_law_1130 : decode cL_law 1130 = .ok (.iconst 1, 1) := gL_law_1120.2.2.2.2.1
theorem dL_law_1131 : decode cL_law 1131 = .ok (.ireturn, 1) := gL_law_1120.2.2.2.2.2
def k190_38 (scr : Nat × (Nat → Int32)) : List (Nat × XI) := [(1120, x_pop 1121), (1121, x_goto 1124), (1124, x_iinc 3 (4) 1127), (1127, x_goto 18), (1130, x_push (1) 1131), (1131, x_zret)]
theorem o190_38 (scr : Nat × (Nat → Int32)) : ∀ q ∈ k190_38 scr, XSnd xm scr Y190 q.1 q.2 := xcons (s_pop dL_law_1120) (xcons (s_goto dL_law_1121 rfl) (xcons (s_iinc dL_law_1124 rfl (by decide)) (xcons (s_goto dL_law_1127 rfl) (xcons (s_iconst dL_law_1130 rfl) (xcons (s_zret dL_law_1131 rfl) (xnil))))))
def k190 (scr : Nat × (Nat → Int32)) (pc : Nat) : XI := if pc < 628 then if pc < 366 then if pc < 242 then if pc < 196 then if pc < 31 then xlk (k190_0 scr) pc else xlk (k190_1 scr) pc else if pc < 220 then xlk (k190_2 scr) pc else xlk (k190_3 scr) pc else if pc < 288 then if pc < 266 then xlk (k190_4 scr) pc else xlk (k190_5 scr) pc else if pc < 318 then xlk (k190_6 scr) pc else if pc < 342 then xlk (k190_7 scr) pc else xlk (k190_8 scr) pc else if pc < 494 then if pc < 418 then if pc < 392 then xlk (k190_9 scr) pc else xlk (k190_10 scr) pc else if pc < 446 then xlk (k190_11 scr) pc else if pc < 472 then xlk (k190_12 scr) pc else xlk (k190_13 scr) pc else if pc < 546 then if pc < 520 then xlk (k190_14 scr) pc else xlk (k190_15 scr) pc else if pc < 572 then xlk (k190_16 scr) pc else if pc < 604 then xlk (k190_17 scr) pc else xlk (k190_18 scr) pc else if pc < 890 then if pc < 758 then if pc < 676 then if pc < 654 then xlk (k190_19 scr) pc else xlk (k190_20 scr) pc else if pc < 712 then xlk (k190_21 scr) pc else if pc < 734 then xlk (k190_22 scr) pc else xlk (k190_23 scr) pc else if pc < 806 then if pc < 782 then xlk (k190_24 scr) pc else xlk (k190_25 scr) pc else if pc < 832 then xlk (k190_26 scr) pc else if pc < 864 then xlk (k190_27 scr) pc else xlk (k190_28 scr) pc else if pc < 1022 then if pc < 946 then if pc < 916 then xlk (k190_29 scr) pc else xlk (k190_30 scr) pc else if pc < 974 then xlk (k190_31 scr) pc else if pc < 998 then xlk (k190_32 scr) pc else xlk (k190_33 scr) pc else if pc < 1070 then if pc < 1046 then xlk (k190_34 scr) pc else xlk (k190_35 scr) pc else if pc < 1092 then xlk (k190_36 scr) pc else if pc < 1120 then xlk (k190_37 scr) pc else xlk (k190_38 scr) pc
theorem o190 (scr : Nat × (Nat → Int32)) (pc : Nat) : XSnd xm scr Y190 pc (k190 scr pc) := by
  unfold k190
  exact xite (xite (xite (xite (xite (xlk_ok (o190_0 scr) pc) (xlk_ok (o190_1 scr) pc)) (xite (xlk_ok (o190_2 scr) pc) (xlk_ok (o190_3 scr) pc))) (xite (xite (xlk_ok (o190_4 scr) pc) (xlk_ok (o190_5 scr) pc)) (xite (xlk_ok (o190_6 scr) pc) (xite (xlk_ok (o190_7 scr) pc) (xlk_ok (o190_8 scr) pc))))) (xite (xite (xite (xlk_ok (o190_9 scr) pc) (xlk_ok (o190_10 scr) pc)) (xite (xlk_ok (o190_11 scr) pc) (xite (xlk_ok (o190_12 scr) pc) (xlk_ok (o190_13 scr) pc)))) (xite (xite (xlk_ok (o190_14 scr) pc) (xlk_ok (o190_15 scr) pc)) (xite (xlk_ok (o190_16 scr) pc) (xite (xlk_ok (o190_17 scr) pc) (xlk_ok (o190_18 scr) pc)))))) (xite (xite (xite (xite (xlk_ok (o190_19 scr) pc) (xlk_ok (o190_20 scr) pc)) (xite (xlk_ok (o190_21 scr) pc) (xite (xlk_ok (o190_22 scr) pc) (xlk_ok (o190_23 scr) pc)))) (xite (xite (xlk_ok (o190_24 scr) pc) (xlk_ok (o190_25 scr) pc)) (xite (xlk_ok (o190_26 scr) pc) (xite (xlk_ok (o190_27 scr) pc) (xlk_ok (o190_28 scr) pc))))) (xite (xite (xite (xlk_ok (o190_29 scr) pc) (xlk_ok (o190_30 scr) pc)) (xite (xlk_ok (o190_31 scr) pc) (xite (xlk_ok (o190_32 scr) pc) (xlk_ok (o190_33 scr) pc)))) (xite (xite (xlk_ok (o190_34 scr) pc) (xlk_ok (o190_35 scr) pc)) (xite (xlk_ok (o190_36 scr) pc) (xite (xlk_ok (o190_37 scr) pc) (xlk_ok (o190_38 scr) pc))))))
