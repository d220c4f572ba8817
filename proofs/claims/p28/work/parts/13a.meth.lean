/-! 13a: the methods as functions over the cells -/
abbrev LF : Nat := 3000
def fn_add (v0 : Nat) (v1 : Int32) (S0 : Mem) : Option (Int32 × Mem) := if (S0 v0 1) < 0 then (some (0, S0)) else (if (S0 v0 1) < (Int32.ofNat (ln (v0 + 1))) then ((ast S0 (v0 + 1) (S0 v0 1) v1).bind fun S1 => (some (up2 S1 v0 1 ((S1 v0 1) + 1))).bind fun S2 => some (1, S2)) else (some (0, S0)))
set_option maxRecDepth 20000 in
set_option maxHeartbeats 4000000 in
theorem tn_add {scr : Nat × (Nat → Int32)} {d : Nat} (hd : 0 ≤ d) (v0 : Nat) (v1 : Int32) (S0 : Mem) (tv0 : Ty 2 v0) (rv : Int32) (SR : Mem) (E : fn_add  v0 v1 S0 = some (rv, SR)) : XG scr d 5 0 [(0, .inr (some (some v0))), (1, .inl v1)] [] S0 (some (.inl rv)) SR := by
  unfold fn_add at E
  refine g_aload rfl rfl ?_
  refine g_getI rfl tv0 ?_
  rcases xif E with ⟨h1, E⟩ | ⟨h1, E⟩
  · refine g_iflt_t rfl h1 ?_
    refine g_push rfl ?_
    obtain ⟨rfl, rfl⟩ := so2 E
    exact g_zret rfl b00
  · refine g_iflt_f rfl h1 ?_
    refine g_aload rfl rfl ?_
    refine g_getI rfl tv0 ?_
    refine g_aload rfl rfl ?_
    refine g_getR rfl tv0 (fR_2_0 tv0) ?_
    refine g_len rfl (fT_2_0 tv0) ?_
    rcases xif E with ⟨h2, E⟩ | ⟨h2, E⟩
    · refine g_iclt_t rfl h2 ?_
      refine g_aload rfl rfl ?_
      refine g_getR rfl tv0 (fR_2_0 tv0) ?_
      refine g_aload rfl rfl ?_
      refine g_getI rfl tv0 ?_
      refine g_iload rfl rfl ?_
      obtain ⟨S1, h3, E⟩ := ob E
      refine g_iast rfl (fT_2_0 tv0) h3 ?_
      refine g_aload rfl rfl ?_
      refine g_dup rfl ?_
      refine g_getI rfl tv0 ?_
      refine g_push rfl ?_
      refine g_iadd rfl ?_
      obtain ⟨S2, hS2, E⟩ := ob E
      refine g_putI rfl tv0 hS2 ?_
      refine g_push rfl ?_
      obtain ⟨rfl, rfl⟩ := so2 E
      exact g_zret rfl b01
    · refine g_iclt_f rfl h2 ?_
      refine g_push rfl ?_
      obtain ⟨rfl, rfl⟩ := so2 E
      exact g_zret rfl b00
def fa_keepOwnOnly (v0 : Nat) (S0 : Mem) : Option Mem := (some (up2 S0 (v0 + 1) 1 0)).bind fun S1 => bd (fn_add (v0 + 1) (S1 v0 1) S1) fun x1 S2 => (some (up2 S2 (v0 + 11) 1 0)).bind fun S3 => some S3
set_option maxRecDepth 20000 in
set_option maxHeartbeats 4000000 in
theorem ta_keepOwnOnly {scr : Nat × (Nat → Int32)} {d : Nat} (hd : 1 ≤ d) (v0 : Nat) (S0 : Mem) (tv0 : Ty 0 v0) (SR : Mem) (E : fa_keepOwnOnly  v0 S0 = some SR) : XG scr d 3 0 [(0, .inr (some (some v0)))] [] S0 none SR := by
  unfold fa_keepOwnOnly at E
  refine g_aload rfl rfl ?_
  refine g_getR rfl tv0 (fR_0_7 tv0) ?_
  refine g_push rfl ?_
  obtain ⟨S1, hS1, E⟩ := ob E
  refine g_putI rfl (fT_0_7 tv0) hS1 ?_
  refine g_aload rfl rfl ?_
  refine g_getR rfl tv0 (fR_0_7 tv0) ?_
  refine g_aload rfl rfl ?_
  refine g_getI rfl tv0 ?_
  obtain ⟨x1, S2, h1, E⟩ := ob2 E
  refine g_inv1 (dc := 0) rfl (by omega) (fT_0_7 tv0) (Nat.le_of_ble_eq_true rfl) (fun d hd => tn_add hd (v0 + 1) (S1 v0 1) S1 (fT_0_7 tv0) _ _ h1) ?_
  refine g_pop rfl ?_
  refine g_aload rfl rfl ?_
  refine g_getR rfl tv0 (fR_0_11 tv0) ?_
  refine g_push rfl ?_
  obtain ⟨S3, hS3, E⟩ := ob E
  refine g_putI rfl (fT_0_11 tv0) hS3 ?_
  obtain rfl := so1 E
  exact g_ret rfl
def fa_begin (v0 : Nat) (v1 : Int32) (v2 : Int32) (S0 : Mem) : Option Mem := (some (up2 S0 v0 0 v1)).bind fun S1 => (some (up2 S1 v0 1 v2)).bind fun S2 => (some (up2 S2 v0 5 0)).bind fun S3 => (some (up2 S3 v0 6 1)).bind fun S4 => (some (up2 S4 (v0 + 3) 2 0)).bind fun S5 => (some (up2 S5 (v0 + 6) 2 0)).bind fun S6 => (some (up2 S6 (v0 + 9) 1 0)).bind fun S7 => (fa_keepOwnOnly v0 S7).bind fun S8 => some S8
set_option maxRecDepth 20000 in
set_option maxHeartbeats 4000000 in
theorem ta_begin {scr : Nat × (Nat → Int32)} {d : Nat} (hd : 2 ≤ d) (v0 : Nat) (v1 : Int32) (v2 : Int32) (S0 : Mem) (tv0 : Ty 0 v0) (SR : Mem) (E : fa_begin  v0 v1 v2 S0 = some SR) : XG scr d 0 0 [(0, .inr (some (some v0))), (1, .inl v1), (2, .inl v2)] [] S0 none SR := by
  unfold fa_begin at E
  refine g_aload rfl rfl ?_
  refine g_iload rfl rfl ?_
  obtain ⟨S1, hS1, E⟩ := ob E
  refine g_putI rfl tv0 hS1 ?_
  refine g_aload rfl rfl ?_
  refine g_iload rfl rfl ?_
  obtain ⟨S2, hS2, E⟩ := ob E
  refine g_putI rfl tv0 hS2 ?_
  refine g_aload rfl rfl ?_
  refine g_push rfl ?_
  obtain ⟨S3, hS3, E⟩ := ob E
  refine g_putI rfl tv0 hS3 ?_
  refine g_aload rfl rfl ?_
  refine g_push rfl ?_
  obtain ⟨S4, hS4, E⟩ := ob E
  refine g_putZ rfl tv0 b01 hS4 ?_
  refine g_aload rfl rfl ?_
  refine g_getR rfl tv0 (fR_0_8 tv0) ?_
  refine g_push rfl ?_
  obtain ⟨S5, hS5, E⟩ := ob E
  refine g_putI rfl (fT_0_8 tv0) hS5 ?_
  refine g_aload rfl rfl ?_
  refine g_getR rfl tv0 (fR_0_9 tv0) ?_
  refine g_push rfl ?_
  obtain ⟨S6, hS6, E⟩ := ob E
  refine g_putI rfl (fT_0_9 tv0) hS6 ?_
  refine g_aload rfl rfl ?_
  refine g_getR rfl tv0 (fR_0_10 tv0) ?_
  refine g_push rfl ?_
  obtain ⟨S7, hS7, E⟩ := ob E
  refine g_putI rfl (fT_0_10 tv0) hS7 ?_
  refine g_aload rfl rfl ?_
  obtain ⟨S8, h1, E⟩ := ob E
  refine g_inv0 (dc := 1) rfl (by omega) tv0 (Nat.le_of_ble_eq_true rfl) (fun d hd => ta_keepOwnOnly hd v0 S7 tv0 _ h1) ?_
  obtain rfl := so1 E
  exact g_ret rfl
def fn_copyFrom (v0 : Nat) (v1 : Nat) (S0 : Mem) : Option Mem := (some (up2 S0 v0 1 (imx 0 (imn (S0 v1 1) (imn (Int32.ofNat (ln (v0 + 1))) (Int32.ofNat (ln (v1 + 1)))))))).bind fun S1 => (acp S1 (v1 + 1) 0 (v0 + 1) 0 (S1 v0 1)).bind fun S2 => some S2
set_option maxRecDepth 20000 in
set_option maxHeartbeats 4000000 in
theorem tn_copyFrom {scr : Nat × (Nat → Int32)} {d : Nat} (hd : 0 ≤ d) (v0 : Nat) (v1 : Nat) (S0 : Mem) (tv0 : Ty 2 v0) (tv1 : Ty 2 v1) (SR : Mem) (E : fn_copyFrom  v0 v1 S0 = some SR) : XG scr d 8 0 [(0, .inr (some (some v0))), (1, .inr (some (some v1)))] [] S0 none SR := by
  unfold fn_copyFrom at E
  refine g_aload rfl rfl ?_
  refine g_push rfl ?_
  refine g_aload rfl rfl ?_
  refine g_getI rfl tv1 ?_
  refine g_aload rfl rfl ?_
  refine g_getR rfl tv0 (fR_2_0 tv0) ?_
  refine g_len rfl (fT_2_0 tv0) ?_
  refine g_aload rfl rfl ?_
  refine g_getR rfl tv1 (fR_2_0 tv1) ?_
  refine g_len rfl (fT_2_0 tv1) ?_
  refine g_mmin rfl (Nat.le_of_ble_eq_true rfl) ?_
  refine g_mmin rfl (Nat.le_of_ble_eq_true rfl) ?_
  refine g_mmax rfl (Nat.le_of_ble_eq_true rfl) ?_
  obtain ⟨S1, hS1, E⟩ := ob E
  refine g_putI rfl tv0 hS1 ?_
  refine g_aload rfl rfl ?_
  refine g_getR rfl tv1 (fR_2_0 tv1) ?_
  refine g_push rfl ?_
  refine g_aload rfl rfl ?_
  refine g_getR rfl tv0 (fR_2_0 tv0) ?_
  refine g_push rfl ?_
  refine g_aload rfl rfl ?_
  refine g_getI rfl tv0 ?_
  obtain ⟨S2, h1, E⟩ := ob E
  refine g_copy rfl (fT_2_0 tv1) (fT_2_0 tv0) (Nat.le_of_ble_eq_true rfl) h1 ?_
  obtain rfl := so1 E
  exact g_ret rfl
def fp_copyFrom (v0 : Nat) (v1 : Nat) (S0 : Mem) : Option Mem := (some (up2 S0 v0 2 (imx 0 (imn (S0 v1 2) (imn (Int32.ofNat (ln (v0 + 1))) (Int32.ofNat (ln (v1 + 1)))))))).bind fun S1 => (acp S1 (v1 + 1) 0 (v0 + 1) 0 (S1 v0 2)).bind fun S2 => (acp S2 (v1 + 2) 0 (v0 + 2) 0 (S2 v0 2)).bind fun S3 => some S3
set_option maxRecDepth 20000 in
set_option maxHeartbeats 4000000 in
theorem tp_copyFrom {scr : Nat × (Nat → Int32)} {d : Nat} (hd : 0 ≤ d) (v0 : Nat) (v1 : Nat) (S0 : Mem) (tv0 : Ty 3 v0) (tv1 : Ty 3 v1) (SR : Mem) (E : fp_copyFrom  v0 v1 S0 = some SR) : XG scr d 17 0 [(0, .inr (some (some v0))), (1, .inr (some (some v1)))] [] S0 none SR := by
  unfold fp_copyFrom at E
  refine g_aload rfl rfl ?_
  refine g_push rfl ?_
  refine g_aload rfl rfl ?_
  refine g_getI rfl tv1 ?_
  refine g_aload rfl rfl ?_
  refine g_getR rfl tv0 (fR_3_0 tv0) ?_
  refine g_len rfl (fT_3_0 tv0) ?_
  refine g_aload rfl rfl ?_
  refine g_getR rfl tv1 (fR_3_0 tv1) ?_
  refine g_len rfl (fT_3_0 tv1) ?_
  refine g_mmin rfl (Nat.le_of_ble_eq_true rfl) ?_
  refine g_mmin rfl (Nat.le_of_ble_eq_true rfl) ?_
  refine g_mmax rfl (Nat.le_of_ble_eq_true rfl) ?_
  obtain ⟨S1, hS1, E⟩ := ob E
  refine g_putI rfl tv0 hS1 ?_
  refine g_aload rfl rfl ?_
  refine g_getR rfl tv1 (fR_3_0 tv1) ?_
  refine g_push rfl ?_
  refine g_aload rfl rfl ?_
  refine g_getR rfl tv0 (fR_3_0 tv0) ?_
  refine g_push rfl ?_
  refine g_aload rfl rfl ?_
  refine g_getI rfl tv0 ?_
  obtain ⟨S2, h1, E⟩ := ob E
  refine g_copy rfl (fT_3_0 tv1) (fT_3_0 tv0) (Nat.le_of_ble_eq_true rfl) h1 ?_
  refine g_aload rfl rfl ?_
  refine g_getR rfl tv1 (fR_3_1 tv1) ?_
  refine g_push rfl ?_
  refine g_aload rfl rfl ?_
  refine g_getR rfl tv0 (fR_3_1 tv0) ?_
  refine g_push rfl ?_
  refine g_aload rfl rfl ?_
  refine g_getI rfl tv0 ?_
  obtain ⟨S3, h2, E⟩ := ob E
  refine g_copy rfl (fT_3_1 tv1) (fT_3_1 tv0) (Nat.le_of_ble_eq_true rfl) h2 ?_
  obtain rfl := so1 E
  exact g_ret rfl
def fa_copyFrom (v0 : Nat) (v1 : Nat) (S0 : Mem) : Option Mem := (some (up2 S0 v0 0 (S0 v1 0))).bind fun S1 => (some (up2 S1 v0 1 (S1 v1 1))).bind fun S2 => (some (up2 S2 v0 2 (S2 v1 2))).bind fun S3 => (some (up2 S3 v0 3 (S3 v1 3))).bind fun S4 => (some (up2 S4 v0 4 (S4 v1 4))).bind fun S5 => (some (up2 S5 v0 5 (S5 v1 5))).bind fun S6 => (bol (S6 v1 6)).bind fun z1 => (some (up2 S6 v0 6 (S6 v1 6))).bind fun S7 => (fn_copyFrom (v0 + 1) (v1 + 1) S7).bind fun S8 => (fp_copyFrom (v0 + 3) (v1 + 3) S8).bind fun S9 => (fp_copyFrom (v0 + 6) (v1 + 6) S9).bind fun S10 => (fn_copyFrom (v0 + 9) (v1 + 9) S10).bind fun S11 => (fn_copyFrom (v0 + 11) (v1 + 11) S11).bind fun S12 => some S12
set_option maxRecDepth 20000 in
set_option maxHeartbeats 4000000 in
theorem ta_copyFrom {scr : Nat × (Nat → Int32)} {d : Nat} (hd : 1 ≤ d) (v0 : Nat) (v1 : Nat) (S0 : Mem) (tv0 : Ty 0 v0) (tv1 : Ty 0 v1) (SR : Mem) (E : fa_copyFrom  v0 v1 S0 = some SR) : XG scr d 1 0 [(0, .inr (some (some v0))), (1, .inr (some (some v1)))] [] S0 none SR := by
  unfold fa_copyFrom at E
  refine g_aload rfl rfl ?_
  refine g_aload rfl rfl ?_
  refine g_getI rfl tv1 ?_
  obtain ⟨S1, hS1, E⟩ := ob E
  refine g_putI rfl tv0 hS1 ?_
  refine g_aload rfl rfl ?_
  refine g_aload rfl rfl ?_
  refine g_getI rfl tv1 ?_
  obtain ⟨S2, hS2, E⟩ := ob E
  refine g_putI rfl tv0 hS2 ?_
  refine g_aload rfl rfl ?_
  refine g_aload rfl rfl ?_
  refine g_getI rfl tv1 ?_
  obtain ⟨S3, hS3, E⟩ := ob E
  refine g_putI rfl tv0 hS3 ?_
  refine g_aload rfl rfl ?_
  refine g_aload rfl rfl ?_
  refine g_getI rfl tv1 ?_
  obtain ⟨S4, hS4, E⟩ := ob E
  refine g_putI rfl tv0 hS4 ?_
  refine g_aload rfl rfl ?_
  refine g_aload rfl rfl ?_
  refine g_getI rfl tv1 ?_
  obtain ⟨S5, hS5, E⟩ := ob E
  refine g_putI rfl tv0 hS5 ?_
  refine g_aload rfl rfl ?_
  refine g_aload rfl rfl ?_
  refine g_getI rfl tv1 ?_
  obtain ⟨S6, hS6, E⟩ := ob E
  refine g_putI rfl tv0 hS6 ?_
  refine g_aload rfl rfl ?_
  refine g_aload rfl rfl ?_
  refine g_getI rfl tv1 ?_
  obtain ⟨z1, h1, E⟩ := ob E
  obtain ⟨S7, hS7, E⟩ := ob E
  refine g_putZ rfl tv0 (bol_of h1).1 hS7 ?_
  refine g_aload rfl rfl ?_
  refine g_getR rfl tv0 (fR_0_7 tv0) ?_
  refine g_aload rfl rfl ?_
  refine g_getR rfl tv1 (fR_0_7 tv1) ?_
  obtain ⟨S8, h2, E⟩ := ob E
  refine g_inv1 (dc := 0) rfl (by omega) (fT_0_7 tv0) (Nat.le_of_ble_eq_true rfl) (fun d hd => tn_copyFrom hd (v0 + 1) (v1 + 1) S7 (fT_0_7 tv0) (fT_0_7 tv1) _ h2) ?_
  refine g_aload rfl rfl ?_
  refine g_getR rfl tv0 (fR_0_8 tv0) ?_
  refine g_aload rfl rfl ?_
  refine g_getR rfl tv1 (fR_0_8 tv1) ?_
  obtain ⟨S9, h3, E⟩ := ob E
  refine g_inv1 (dc := 0) rfl (by omega) (fT_0_8 tv0) (Nat.le_of_ble_eq_true rfl) (fun d hd => tp_copyFrom hd (v0 + 3) (v1 + 3) S8 (fT_0_8 tv0) (fT_0_8 tv1) _ h3) ?_
  refine g_aload rfl rfl ?_
  refine g_getR rfl tv0 (fR_0_9 tv0) ?_
  refine g_aload rfl rfl ?_
  refine g_getR rfl tv1 (fR_0_9 tv1) ?_
  obtain ⟨S10, h4, E⟩ := ob E
  refine g_inv1 (dc := 0) rfl (by omega) (fT_0_9 tv0) (Nat.le_of_ble_eq_true rfl) (fun d hd => tp_copyFrom hd (v0 + 6) (v1 + 6) S9 (fT_0_9 tv0) (fT_0_9 tv1) _ h4) ?_
  refine g_aload rfl rfl ?_
  refine g_getR rfl tv0 (fR_0_10 tv0) ?_
  refine g_aload rfl rfl ?_
  refine g_getR rfl tv1 (fR_0_10 tv1) ?_
  obtain ⟨S11, h5, E⟩ := ob E
  refine g_inv1 (dc := 0) rfl (by omega) (fT_0_10 tv0) (Nat.le_of_ble_eq_true rfl) (fun d hd => tn_copyFrom hd (v0 + 9) (v1 + 9) S10 (fT_0_10 tv0) (fT_0_10 tv1) _ h5) ?_
  refine g_aload rfl rfl ?_
  refine g_getR rfl tv0 (fR_0_11 tv0) ?_
  refine g_aload rfl rfl ?_
  refine g_getR rfl tv1 (fR_0_11 tv1) ?_
  obtain ⟨S12, h6, E⟩ := ob E
  refine g_inv1 (dc := 0) rfl (by omega) (fT_0_11 tv0) (Nat.le_of_ble_eq_true rfl) (fun d hd => tn_copyFrom hd (v0 + 11) (v1 + 11) S11 (fT_0_11 tv0) (fT_0_11 tv1) _ h6) ?_
  obtain rfl := so1 E
  exact g_ret rfl
def fn_at (v0 : Nat) (v1 : Int32) (S0 : Mem) : Option Int32 := if v1 < 0 then (some 0) else (if (Int32.ofNat (ln (v0 + 1))) ≤ v1 then (some 0) else ((ald S0 (v0 + 1) v1).bind fun x1 => some x1))
set_option maxRecDepth 20000 in
set_option maxHeartbeats 4000000 in
theorem tn_at {scr : Nat × (Nat → Int32)} {d : Nat} (hd : 0 ≤ d) (v0 : Nat) (v1 : Int32) (S0 : Mem) (tv0 : Ty 2 v0) (rv : Int32) (E : fn_at  v0 v1 S0 = some rv) : XG scr d 6 0 [(0, .inr (some (some v0))), (1, .inl v1)] [] S0 (some (.inl rv)) S0 := by
  unfold fn_at at E
  refine g_iload rfl rfl ?_
  rcases xif E with ⟨h1, E⟩ | ⟨h1, E⟩
  · refine g_iflt_t rfl h1 ?_
    refine g_push rfl ?_
    obtain rfl := so1 E
    exact g_iret rfl
  · refine g_iflt_f rfl h1 ?_
    refine g_iload rfl rfl ?_
    refine g_aload rfl rfl ?_
    refine g_getR rfl tv0 (fR_2_0 tv0) ?_
    refine g_len rfl (fT_2_0 tv0) ?_
    rcases xif E with ⟨h2, E⟩ | ⟨h2, E⟩
    · refine g_icge_t rfl h2 ?_
      refine g_push rfl ?_
      obtain rfl := so1 E
      exact g_iret rfl
    · refine g_icge_f rfl h2 ?_
      refine g_aload rfl rfl ?_
      refine g_getR rfl tv0 (fR_2_0 tv0) ?_
      refine g_iload rfl rfl ?_
      obtain ⟨x1, h3, E⟩ := ob E
      refine g_iald rfl (fT_2_0 tv0) h3 ?_
      refine g_goto rfl ?_
      obtain rfl := so1 E
      exact g_iret rfl
def fn_change (v0 : Nat) (v1 : Int32) (v2 : Int32) (S0 : Mem) : Option Mem := if v1 < 0 then (some S0) else (if (Int32.ofNat (ln (v0 + 1))) ≤ v1 then (some S0) else ((ast S0 (v0 + 1) v1 v2).bind fun S1 => some S1))
set_option maxRecDepth 20000 in
set_option maxHeartbeats 4000000 in
theorem tn_change {scr : Nat × (Nat → Int32)} {d : Nat} (hd : 0 ≤ d) (v0 : Nat) (v1 : Int32) (v2 : Int32) (S0 : Mem) (tv0 : Ty 2 v0) (SR : Mem) (E : fn_change  v0 v1 v2 S0 = some SR) : XG scr d 7 0 [(0, .inr (some (some v0))), (1, .inl v1), (2, .inl v2)] [] S0 none SR := by
  unfold fn_change at E
  refine g_iload rfl rfl ?_
  rcases xif E with ⟨h1, E⟩ | ⟨h1, E⟩
  · refine g_iflt_t rfl h1 ?_
    obtain rfl := so1 E
    exact g_ret rfl
  · refine g_iflt_f rfl h1 ?_
    refine g_iload rfl rfl ?_
    refine g_aload rfl rfl ?_
    refine g_getR rfl tv0 (fR_2_0 tv0) ?_
    refine g_len rfl (fT_2_0 tv0) ?_
    rcases xif E with ⟨h2, E⟩ | ⟨h2, E⟩
    · refine g_icge_t rfl h2 ?_
      obtain rfl := so1 E
      exact g_ret rfl
    · refine g_icge_f rfl h2 ?_
      refine g_aload rfl rfl ?_
      refine g_getR rfl tv0 (fR_2_0 tv0) ?_
      refine g_iload rfl rfl ?_
      refine g_iload rfl rfl ?_
      obtain ⟨S1, h3, E⟩ := ob E
      refine g_iast rfl (fT_2_0 tv0) h3 ?_
      obtain rfl := so1 E
      exact g_ret rfl
def fn_countFrom_4b (k4 : Nat → Int32 → Int32 → Int32 → Mem → Option Int32) (v0 : Nat) (v1 : Int32) (v2 : Int32) (v3 : Int32) (S0 : Mem) : Option Int32 := if (S0 v0 1) ≤ v3 then (some v2) else (if (Int32.ofNat (ln (v0 + 1))) ≤ v3 then (some v2) else ((ald S0 (v0 + 1) v3).bind fun x1 => if x1 < v1 then (k4 v0 v1 (v2 + 0) (v3 + 1) S0) else (k4 v0 v1 (v2 + 1) (v3 + 1) S0)))
set_option maxRecDepth 20000 in
set_option maxHeartbeats 4000000 in
theorem tn_countFrom_4b {scr : Nat × (Nat → Int32)} {d : Nat} (hd : 0 ≤ d) {k4 : Nat → Int32 → Int32 → Int32 → Mem → Option Int32} (hk4 : ∀ (v0 : Nat) (v1 : Int32) (v2 : Int32) (v3 : Int32) (S0 : Mem), Ty 2 v0 → ∀ (rv : Int32), k4 v0 v1 v2 v3 S0 = some rv → XG scr d 9 4 [(0, .inr (some (some v0))), (1, .inl v1), (2, .inl v2), (3, .inl v3)] [] S0 (some (.inl rv)) S0) (v0 : Nat) (v1 : Int32) (v2 : Int32) (v3 : Int32) (S0 : Mem) (tv0 : Ty 2 v0) (rv : Int32) (E : fn_countFrom_4b k4 v0 v1 v2 v3 S0 = some rv) : XG scr d 9 4 [(0, .inr (some (some v0))), (1, .inl v1), (2, .inl v2), (3, .inl v3)] [] S0 (some (.inl rv)) S0 := by
  unfold fn_countFrom_4b at E
  refine g_iload rfl rfl ?_
  refine g_aload rfl rfl ?_
  refine g_getI rfl tv0 ?_
  rcases xif E with ⟨h1, E⟩ | ⟨h1, E⟩
  · refine g_icge_t rfl h1 ?_
    refine g_iload rfl rfl ?_
    obtain rfl := so1 E
    exact g_iret rfl
  · refine g_icge_f rfl h1 ?_
    refine g_iload rfl rfl ?_
    refine g_aload rfl rfl ?_
    refine g_getR rfl tv0 (fR_2_0 tv0) ?_
    refine g_len rfl (fT_2_0 tv0) ?_
    rcases xif E with ⟨h2, E⟩ | ⟨h2, E⟩
    · refine g_icge_t rfl h2 ?_
      refine g_iload rfl rfl ?_
      obtain rfl := so1 E
      exact g_iret rfl
    · refine g_icge_f rfl h2 ?_
      refine g_iload rfl rfl ?_
      refine g_aload rfl rfl ?_
      refine g_getR rfl tv0 (fR_2_0 tv0) ?_
      refine g_iload rfl rfl ?_
      obtain ⟨x1, h3, E⟩ := ob E
      refine g_iald rfl (fT_2_0 tv0) h3 ?_
      refine g_iload rfl rfl ?_
      rcases xif E with ⟨h4, E⟩ | ⟨h4, E⟩
      · refine g_iclt_t rfl h4 ?_
        refine g_push rfl ?_
        refine g_iadd rfl ?_
        refine g_istore (L2 := [(2, .inl (v2 + 0)), (0, .inr (some (some v0))), (1, .inl v1), (3, .inl v3)]) rfl rfl ?_
        refine g_iinc (L2 := [(3, .inl (v3 + 1)), (2, .inl (v2 + 0)), (0, .inr (some (some v0))), (1, .inl v1)]) rfl rfl rfl ?_
        refine g_goto rfl ?_
        exact g_loc (lsub_cons rfl (lsub_cons rfl (lsub_cons rfl (lsub_cons rfl lsub_nil)))) (hk4 v0 v1 (v2 + 0) (v3 + 1) S0 tv0 _ E)
      · refine g_iclt_f rfl h4 ?_
        refine g_push rfl ?_
        refine g_goto rfl ?_
        refine g_iadd rfl ?_
        refine g_istore (L2 := [(2, .inl (v2 + 1)), (0, .inr (some (some v0))), (1, .inl v1), (3, .inl v3)]) rfl rfl ?_
        refine g_iinc (L2 := [(3, .inl (v3 + 1)), (2, .inl (v2 + 1)), (0, .inr (some (some v0))), (1, .inl v1)]) rfl rfl rfl ?_
        refine g_goto rfl ?_
        exact g_loc (lsub_cons rfl (lsub_cons rfl (lsub_cons rfl (lsub_cons rfl lsub_nil)))) (hk4 v0 v1 (v2 + 1) (v3 + 1) S0 tv0 _ E)
def fn_countFrom_4  : Nat → Nat → Int32 → Int32 → Int32 → Mem → Option Int32
  | 0 => fun _ _ _ _ _ => none
  | n + 1 => fn_countFrom_4b  (fn_countFrom_4  n)
set_option maxRecDepth 20000 in
set_option maxHeartbeats 4000000 in
theorem tn_countFrom_4 {scr : Nat × (Nat → Int32)} {d : Nat} (hd : 0 ≤ d)  : ∀ (n : Nat) (v0 : Nat) (v1 : Int32) (v2 : Int32) (v3 : Int32) (S0 : Mem), Ty 2 v0 → ∀ (rv : Int32), fn_countFrom_4  n v0 v1 v2 v3 S0 = some rv → XG scr d 9 4 [(0, .inr (some (some v0))), (1, .inl v1), (2, .inl v2), (3, .inl v3)] [] S0 (some (.inl rv)) S0
  | 0, v0, v1, v2, v3, S0, tv0, rv, E => nn E
  | n + 1, v0, v1, v2, v3, S0, tv0, rv, E => tn_countFrom_4b hd  (tn_countFrom_4 hd  n) v0 v1 v2 v3 S0 tv0 rv E
def fn_countFrom (v0 : Nat) (v1 : Int32) (S0 : Mem) : Option Int32 := fn_countFrom_4 LF v0 v1 0 0 S0
set_option maxRecDepth 20000 in
set_option maxHeartbeats 4000000 in
theorem tn_countFrom {scr : Nat × (Nat → Int32)} {d : Nat} (hd : 0 ≤ d) (v0 : Nat) (v1 : Int32) (S0 : Mem) (tv0 : Ty 2 v0) (rv : Int32) (E : fn_countFrom  v0 v1 S0 = some rv) : XG scr d 9 0 [(0, .inr (some (some v0))), (1, .inl v1)] [] S0 (some (.inl rv)) S0 := by
  unfold fn_countFrom at E
  refine g_push rfl ?_
  refine g_istore (L2 := [(2, .inl 0), (0, .inr (some (some v0))), (1, .inl v1)]) rfl rfl ?_
  refine g_push rfl ?_
  refine g_istore (L2 := [(3, .inl 0), (2, .inl 0), (0, .inr (some (some v0))), (1, .inl v1)]) rfl rfl ?_
  exact g_loc (lsub_cons rfl (lsub_cons rfl (lsub_cons rfl (lsub_cons rfl lsub_nil)))) (tn_countFrom_4 hd LF v0 v1 0 0 S0 tv0 _ E)
def fn_fillWithZeros_2b (k2 : Nat → Int32 → Int32 → Mem → Option Mem) (v0 : Nat) (v1 : Int32) (v2 : Int32) (S0 : Mem) : Option Mem := if (Int32.ofNat (ln (v0 + 1))) ≤ v2 then ((some (up2 S0 v0 1 (imx 0 (imn v1 (Int32.ofNat (ln (v0 + 1))))))).bind fun S1 => some S1) else ((ast S0 (v0 + 1) v2 0).bind fun S2 => k2 v0 v1 (v2 + 1) S2)
set_option maxRecDepth 20000 in
set_option maxHeartbeats 4000000 in
theorem tn_fillWithZeros_2b {scr : Nat × (Nat → Int32)} {d : Nat} (hd : 0 ≤ d) {k2 : Nat → Int32 → Int32 → Mem → Option Mem} (hk2 : ∀ (v0 : Nat) (v1 : Int32) (v2 : Int32) (S0 : Mem), Ty 2 v0 → ∀ (SR : Mem), k2 v0 v1 v2 S0 = some SR → XG scr d 10 2 [(0, .inr (some (some v0))), (1, .inl v1), (2, .inl v2)] [] S0 none SR) (v0 : Nat) (v1 : Int32) (v2 : Int32) (S0 : Mem) (tv0 : Ty 2 v0) (SR : Mem) (E : fn_fillWithZeros_2b k2 v0 v1 v2 S0 = some SR) : XG scr d 10 2 [(0, .inr (some (some v0))), (1, .inl v1), (2, .inl v2)] [] S0 none SR := by
  unfold fn_fillWithZeros_2b at E
  refine g_iload rfl rfl ?_
  refine g_aload rfl rfl ?_
  refine g_getR rfl tv0 (fR_2_0 tv0) ?_
  refine g_len rfl (fT_2_0 tv0) ?_
  rcases xif E with ⟨h1, E⟩ | ⟨h1, E⟩
  · refine g_icge_t rfl h1 ?_
    refine g_aload rfl rfl ?_
    refine g_push rfl ?_
    refine g_iload rfl rfl ?_
    refine g_aload rfl rfl ?_
    refine g_getR rfl tv0 (fR_2_0 tv0) ?_
    refine g_len rfl (fT_2_0 tv0) ?_
    refine g_mmin rfl (Nat.le_of_ble_eq_true rfl) ?_
    refine g_mmax rfl (Nat.le_of_ble_eq_true rfl) ?_
    obtain ⟨S1, hS1, E⟩ := ob E
    refine g_putI rfl tv0 hS1 ?_
    obtain rfl := so1 E
    exact g_ret rfl
  · refine g_icge_f rfl h1 ?_
    refine g_aload rfl rfl ?_
    refine g_getR rfl tv0 (fR_2_0 tv0) ?_
    refine g_iload rfl rfl ?_
    refine g_push rfl ?_
    obtain ⟨S2, h2, E⟩ := ob E
    refine g_iast rfl (fT_2_0 tv0) h2 ?_
    refine g_iinc (L2 := [(2, .inl (v2 + 1)), (0, .inr (some (some v0))), (1, .inl v1)]) rfl rfl rfl ?_
    refine g_goto rfl ?_
    exact g_loc (lsub_cons rfl (lsub_cons rfl (lsub_cons rfl lsub_nil))) (hk2 v0 v1 (v2 + 1) S2 tv0 _ E)
def fn_fillWithZeros_2  : Nat → Nat → Int32 → Int32 → Mem → Option Mem
  | 0 => fun _ _ _ _ => none
  | n + 1 => fn_fillWithZeros_2b  (fn_fillWithZeros_2  n)
set_option maxRecDepth 20000 in
set_option maxHeartbeats 4000000 in
theorem tn_fillWithZeros_2 {scr : Nat × (Nat → Int32)} {d : Nat} (hd : 0 ≤ d)  : ∀ (n : Nat) (v0 : Nat) (v1 : Int32) (v2 : Int32) (S0 : Mem), Ty 2 v0 → ∀ (SR : Mem), fn_fillWithZeros_2  n v0 v1 v2 S0 = some SR → XG scr d 10 2 [(0, .inr (some (some v0))), (1, .inl v1), (2, .inl v2)] [] S0 none SR
  | 0, v0, v1, v2, S0, tv0, SR, E => nn E
  | n + 1, v0, v1, v2, S0, tv0, SR, E => tn_fillWithZeros_2b hd  (tn_fillWithZeros_2 hd  n) v0 v1 v2 S0 tv0 SR E
def fn_fillWithZeros (v0 : Nat) (v1 : Int32) (S0 : Mem) : Option Mem := fn_fillWithZeros_2 LF v0 v1 0 S0
set_option maxRecDepth 20000 in
set_option maxHeartbeats 4000000 in
theorem tn_fillWithZeros {scr : Nat × (Nat → Int32)} {d : Nat} (hd : 0 ≤ d) (v0 : Nat) (v1 : Int32) (S0 : Mem) (tv0 : Ty 2 v0) (SR : Mem) (E : fn_fillWithZeros  v0 v1 S0 = some SR) : XG scr d 10 0 [(0, .inr (some (some v0))), (1, .inl v1)] [] S0 none SR := by
  unfold fn_fillWithZeros at E
  refine g_push rfl ?_
  refine g_istore (L2 := [(2, .inl 0), (0, .inr (some (some v0))), (1, .inl v1)]) rfl rfl ?_
  exact g_loc (lsub_cons rfl (lsub_cons rfl (lsub_cons rfl lsub_nil))) (tn_fillWithZeros_2 hd LF v0 v1 0 S0 tv0 _ E)
def fn_has_2b (k2 : Nat → Int32 → Int32 → Mem → Option Int32) (v0 : Nat) (v1 : Int32) (v2 : Int32) (S0 : Mem) : Option Int32 := if (S0 v0 1) ≤ v2 then (some 0) else (if (Int32.ofNat (ln (v0 + 1))) ≤ v2 then (some 0) else ((ald S0 (v0 + 1) v2).bind fun x1 => if x1 = v1 then (some 1) else (k2 v0 v1 (v2 + 1) S0)))
set_option maxRecDepth 20000 in
set_option maxHeartbeats 4000000 in
theorem tn_has_2b {scr : Nat × (Nat → Int32)} {d : Nat} (hd : 0 ≤ d) {k2 : Nat → Int32 → Int32 → Mem → Option Int32} (hk2 : ∀ (v0 : Nat) (v1 : Int32) (v2 : Int32) (S0 : Mem), Ty 2 v0 → ∀ (rv : Int32), k2 v0 v1 v2 S0 = some rv → XG scr d 11 2 [(0, .inr (some (some v0))), (1, .inl v1), (2, .inl v2)] [] S0 (some (.inl rv)) S0) (v0 : Nat) (v1 : Int32) (v2 : Int32) (S0 : Mem) (tv0 : Ty 2 v0) (rv : Int32) (E : fn_has_2b k2 v0 v1 v2 S0 = some rv) : XG scr d 11 2 [(0, .inr (some (some v0))), (1, .inl v1), (2, .inl v2)] [] S0 (some (.inl rv)) S0 := by
  unfold fn_has_2b at E
  refine g_iload rfl rfl ?_
  refine g_aload rfl rfl ?_
  refine g_getI rfl tv0 ?_
  rcases xif E with ⟨h1, E⟩ | ⟨h1, E⟩
  · refine g_icge_t rfl h1 ?_
    refine g_push rfl ?_
    obtain rfl := so1 E
    exact g_zret rfl b00
  · refine g_icge_f rfl h1 ?_
    refine g_iload rfl rfl ?_
    refine g_aload rfl rfl ?_
    refine g_getR rfl tv0 (fR_2_0 tv0) ?_
    refine g_len rfl (fT_2_0 tv0) ?_
    rcases xif E with ⟨h2, E⟩ | ⟨h2, E⟩
    · refine g_icge_t rfl h2 ?_
      refine g_push rfl ?_
      obtain rfl := so1 E
      exact g_zret rfl b00
    · refine g_icge_f rfl h2 ?_
      refine g_aload rfl rfl ?_
      refine g_getR rfl tv0 (fR_2_0 tv0) ?_
      refine g_iload rfl rfl ?_
      obtain ⟨x1, h3, E⟩ := ob E
      refine g_iald rfl (fT_2_0 tv0) h3 ?_
      refine g_iload rfl rfl ?_
      rcases xif E with ⟨h4, E⟩ | ⟨h4, E⟩
      · refine g_icne_t rfl h4 ?_
        refine g_push rfl ?_
        obtain rfl := so1 E
        exact g_zret rfl b01
      · refine g_icne_f rfl h4 ?_
        refine g_iinc (L2 := [(2, .inl (v2 + 1)), (0, .inr (some (some v0))), (1, .inl v1)]) rfl rfl rfl ?_
        refine g_goto rfl ?_
        exact g_loc (lsub_cons rfl (lsub_cons rfl (lsub_cons rfl lsub_nil))) (hk2 v0 v1 (v2 + 1) S0 tv0 _ E)
def fn_has_2  : Nat → Nat → Int32 → Int32 → Mem → Option Int32
  | 0 => fun _ _ _ _ => none
  | n + 1 => fn_has_2b  (fn_has_2  n)
set_option maxRecDepth 20000 in
set_option maxHeartbeats 4000000 in
theorem tn_has_2 {scr : Nat × (Nat → Int32)} {d : Nat} (hd : 0 ≤ d)  : ∀ (n : Nat) (v0 : Nat) (v1 : Int32) (v2 : Int32) (S0 : Mem), Ty 2 v0 → ∀ (rv : Int32), fn_has_2  n v0 v1 v2 S0 = some rv → XG scr d 11 2 [(0, .inr (some (some v0))), (1, .inl v1), (2, .inl v2)] [] S0 (some (.inl rv)) S0
  | 0, v0, v1, v2, S0, tv0, rv, E => nn E
  | n + 1, v0, v1, v2, S0, tv0, rv, E => tn_has_2b hd  (tn_has_2 hd  n) v0 v1 v2 S0 tv0 rv E
def fn_has (v0 : Nat) (v1 : Int32) (S0 : Mem) : Option Int32 := fn_has_2 LF v0 v1 0 S0
set_option maxRecDepth 20000 in
set_option maxHeartbeats 4000000 in
theorem tn_has {scr : Nat × (Nat → Int32)} {d : Nat} (hd : 0 ≤ d) (v0 : Nat) (v1 : Int32) (S0 : Mem) (tv0 : Ty 2 v0) (rv : Int32) (E : fn_has  v0 v1 S0 = some rv) : XG scr d 11 0 [(0, .inr (some (some v0))), (1, .inl v1)] [] S0 (some (.inl rv)) S0 := by
  unfold fn_has at E
  refine g_push rfl ?_
  refine g_istore (L2 := [(2, .inl 0), (0, .inr (some (some v0))), (1, .inl v1)]) rfl rfl ?_
  exact g_loc (lsub_cons rfl (lsub_cons rfl (lsub_cons rfl lsub_nil))) (tn_has_2 hd LF v0 v1 0 S0 tv0 _ E)
def fn_remove_4b (k4 : Nat → Int32 → Int32 → Int32 → Mem → Option Mem) (v0 : Nat) (v1 : Int32) (v2 : Int32) (v3 : Int32) (S0 : Mem) : Option Mem := if (S0 v0 1) ≤ v3 then ((some (up2 S0 v0 1 v2)).bind fun S1 => some S1) else (if (Int32.ofNat (ln (v0 + 1))) ≤ v3 then ((some (up2 S0 v0 1 v2)).bind fun S2 => some S2) else ((ald S0 (v0 + 1) v3).bind fun x1 => if x1 = v1 then (k4 v0 v1 v2 (v3 + 1) S0) else ((ald S0 (v0 + 1) v3).bind fun x2 => (ast S0 (v0 + 1) v2 x2).bind fun S3 => k4 v0 v1 (v2 + 1) (v3 + 1) S3)))
set_option maxRecDepth 20000 in
set_option maxHeartbeats 4000000 in
theorem tn_remove_4b {scr : Nat × (Nat → Int32)} {d : Nat} (hd : 0 ≤ d) {k4 : Nat → Int32 → Int32 → Int32 → Mem → Option Mem} (hk4 : ∀ (v0 : Nat) (v1 : Int32) (v2 : Int32) (v3 : Int32) (S0 : Mem), Ty 2 v0 → ∀ (SR : Mem), k4 v0 v1 v2 v3 S0 = some SR → XG scr d 13 4 [(0, .inr (some (some v0))), (1, .inl v1), (2, .inl v2), (3, .inl v3)] [] S0 none SR) (v0 : Nat) (v1 : Int32) (v2 : Int32) (v3 : Int32) (S0 : Mem) (tv0 : Ty 2 v0) (SR : Mem) (E : fn_remove_4b k4 v0 v1 v2 v3 S0 = some SR) : XG scr d 13 4 [(0, .inr (some (some v0))), (1, .inl v1), (2, .inl v2), (3, .inl v3)] [] S0 none SR := by
  unfold fn_remove_4b at E
  refine g_iload rfl rfl ?_
  refine g_aload rfl rfl ?_
  refine g_getI rfl tv0 ?_
  rcases xif E with ⟨h1, E⟩ | ⟨h1, E⟩
  · refine g_icge_t rfl h1 ?_
    refine g_aload rfl rfl ?_
    refine g_iload rfl rfl ?_
    obtain ⟨S1, hS1, E⟩ := ob E
    refine g_putI rfl tv0 hS1 ?_
    obtain rfl := so1 E
    exact g_ret rfl
  · refine g_icge_f rfl h1 ?_
    refine g_iload rfl rfl ?_
    refine g_aload rfl rfl ?_
    refine g_getR rfl tv0 (fR_2_0 tv0) ?_
    refine g_len rfl (fT_2_0 tv0) ?_
    rcases xif E with ⟨h2, E⟩ | ⟨h2, E⟩
    · refine g_icge_t rfl h2 ?_
      refine g_aload rfl rfl ?_
      refine g_iload rfl rfl ?_
      obtain ⟨S2, hS2, E⟩ := ob E
      refine g_putI rfl tv0 hS2 ?_
      obtain rfl := so1 E
      exact g_ret rfl
    · refine g_icge_f rfl h2 ?_
      refine g_aload rfl rfl ?_
      refine g_getR rfl tv0 (fR_2_0 tv0) ?_
      refine g_iload rfl rfl ?_
      obtain ⟨x1, h3, E⟩ := ob E
      refine g_iald rfl (fT_2_0 tv0) h3 ?_
      refine g_iload rfl rfl ?_
      rcases xif E with ⟨h4, E⟩ | ⟨h4, E⟩
      · refine g_iceq_t rfl h4 ?_
        refine g_iinc (L2 := [(3, .inl (v3 + 1)), (0, .inr (some (some v0))), (1, .inl v1), (2, .inl v2)]) rfl rfl rfl ?_
        refine g_goto rfl ?_
        exact g_loc (lsub_cons rfl (lsub_cons rfl (lsub_cons rfl (lsub_cons rfl lsub_nil)))) (hk4 v0 v1 v2 (v3 + 1) S0 tv0 _ E)
      · refine g_iceq_f rfl h4 ?_
        refine g_aload rfl rfl ?_
        refine g_getR rfl tv0 (fR_2_0 tv0) ?_
        refine g_iload rfl rfl ?_
        refine g_aload rfl rfl ?_
        refine g_getR rfl tv0 (fR_2_0 tv0) ?_
        refine g_iload rfl rfl ?_
        obtain ⟨x2, h5, E⟩ := ob E
        refine g_iald rfl (fT_2_0 tv0) h5 ?_
        obtain ⟨S3, h6, E⟩ := ob E
        refine g_iast rfl (fT_2_0 tv0) h6 ?_
        refine g_iinc (L2 := [(2, .inl (v2 + 1)), (0, .inr (some (some v0))), (1, .inl v1), (3, .inl v3)]) rfl rfl rfl ?_
        refine g_iinc (L2 := [(3, .inl (v3 + 1)), (2, .inl (v2 + 1)), (0, .inr (some (some v0))), (1, .inl v1)]) rfl rfl rfl ?_
        refine g_goto rfl ?_
        exact g_loc (lsub_cons rfl (lsub_cons rfl (lsub_cons rfl (lsub_cons rfl lsub_nil)))) (hk4 v0 v1 (v2 + 1) (v3 + 1) S3 tv0 _ E)
def fn_remove_4  : Nat → Nat → Int32 → Int32 → Int32 → Mem → Option Mem
  | 0 => fun _ _ _ _ _ => none
  | n + 1 => fn_remove_4b  (fn_remove_4  n)
set_option maxRecDepth 20000 in
set_option maxHeartbeats 4000000 in
theorem tn_remove_4 {scr : Nat × (Nat → Int32)} {d : Nat} (hd : 0 ≤ d)  : ∀ (n : Nat) (v0 : Nat) (v1 : Int32) (v2 : Int32) (v3 : Int32) (S0 : Mem), Ty 2 v0 → ∀ (SR : Mem), fn_remove_4  n v0 v1 v2 v3 S0 = some SR → XG scr d 13 4 [(0, .inr (some (some v0))), (1, .inl v1), (2, .inl v2), (3, .inl v3)] [] S0 none SR
  | 0, v0, v1, v2, v3, S0, tv0, SR, E => nn E
  | n + 1, v0, v1, v2, v3, S0, tv0, SR, E => tn_remove_4b hd  (tn_remove_4 hd  n) v0 v1 v2 v3 S0 tv0 SR E
def fn_remove (v0 : Nat) (v1 : Int32) (S0 : Mem) : Option Mem := fn_remove_4 LF v0 v1 0 0 S0
set_option maxRecDepth 20000 in
set_option maxHeartbeats 4000000 in
theorem tn_remove {scr : Nat × (Nat → Int32)} {d : Nat} (hd : 0 ≤ d) (v0 : Nat) (v1 : Int32) (S0 : Mem) (tv0 : Ty 2 v0) (SR : Mem) (E : fn_remove  v0 v1 S0 = some SR) : XG scr d 13 0 [(0, .inr (some (some v0))), (1, .inl v1)] [] S0 none SR := by
  unfold fn_remove at E
  refine g_push rfl ?_
  refine g_istore (L2 := [(2, .inl 0), (0, .inr (some (some v0))), (1, .inl v1)]) rfl rfl ?_
  refine g_push rfl ?_
  refine g_istore (L2 := [(3, .inl 0), (2, .inl 0), (0, .inr (some (some v0))), (1, .inl v1)]) rfl rfl ?_
  exact g_loc (lsub_cons rfl (lsub_cons rfl (lsub_cons rfl (lsub_cons rfl lsub_nil)))) (tn_remove_4 hd LF v0 v1 0 0 S0 tv0 _ E)
def fn_removeBelow_4b (k4 : Nat → Int32 → Int32 → Int32 → Mem → Option Mem) (v0 : Nat) (v1 : Int32) (v2 : Int32) (v3 : Int32) (S0 : Mem) : Option Mem := if (S0 v0 1) ≤ v3 then ((some (up2 S0 v0 1 v2)).bind fun S1 => some S1) else (if (Int32.ofNat (ln (v0 + 1))) ≤ v3 then ((some (up2 S0 v0 1 v2)).bind fun S2 => some S2) else ((ald S0 (v0 + 1) v3).bind fun x1 => if x1 < v1 then (k4 v0 v1 v2 (v3 + 1) S0) else ((ald S0 (v0 + 1) v3).bind fun x2 => (ast S0 (v0 + 1) v2 x2).bind fun S3 => k4 v0 v1 (v2 + 1) (v3 + 1) S3)))
set_option maxRecDepth 20000 in
set_option maxHeartbeats 4000000 in
theorem tn_removeBelow_4b {scr : Nat × (Nat → Int32)} {d : Nat} (hd : 0 ≤ d) {k4 : Nat → Int32 → Int32 → Int32 → Mem → Option Mem} (hk4 : ∀ (v0 : Nat) (v1 : Int32) (v2 : Int32) (v3 : Int32) (S0 : Mem), Ty 2 v0 → ∀ (SR : Mem), k4 v0 v1 v2 v3 S0 = some SR → XG scr d 14 4 [(0, .inr (some (some v0))), (1, .inl v1), (2, .inl v2), (3, .inl v3)] [] S0 none SR) (v0 : Nat) (v1 : Int32) (v2 : Int32) (v3 : Int32) (S0 : Mem) (tv0 : Ty 2 v0) (SR : Mem) (E : fn_removeBelow_4b k4 v0 v1 v2 v3 S0 = some SR) : XG scr d 14 4 [(0, .inr (some (some v0))), (1, .inl v1), (2, .inl v2), (3, .inl v3)] [] S0 none SR := by
  unfold fn_removeBelow_4b at E
  refine g_iload rfl rfl ?_
  refine g_aload rfl rfl ?_
  refine g_getI rfl tv0 ?_
  rcases xif E with ⟨h1, E⟩ | ⟨h1, E⟩
  · refine g_icge_t rfl h1 ?_
    refine g_aload rfl rfl ?_
    refine g_iload rfl rfl ?_
    obtain ⟨S1, hS1, E⟩ := ob E
    refine g_putI rfl tv0 hS1 ?_
    obtain rfl := so1 E
    exact g_ret rfl
  · refine g_icge_f rfl h1 ?_
    refine g_iload rfl rfl ?_
    refine g_aload rfl rfl ?_
    refine g_getR rfl tv0 (fR_2_0 tv0) ?_
    refine g_len rfl (fT_2_0 tv0) ?_
    rcases xif E with ⟨h2, E⟩ | ⟨h2, E⟩
    · refine g_icge_t rfl h2 ?_
      refine g_aload rfl rfl ?_
      refine g_iload rfl rfl ?_
      obtain ⟨S2, hS2, E⟩ := ob E
      refine g_putI rfl tv0 hS2 ?_
      obtain rfl := so1 E
      exact g_ret rfl
    · refine g_icge_f rfl h2 ?_
      refine g_aload rfl rfl ?_
      refine g_getR rfl tv0 (fR_2_0 tv0) ?_
      refine g_iload rfl rfl ?_
      obtain ⟨x1, h3, E⟩ := ob E
      refine g_iald rfl (fT_2_0 tv0) h3 ?_
      refine g_iload rfl rfl ?_
      rcases xif E with ⟨h4, E⟩ | ⟨h4, E⟩
      · refine g_iclt_t rfl h4 ?_
        refine g_iinc (L2 := [(3, .inl (v3 + 1)), (0, .inr (some (some v0))), (1, .inl v1), (2, .inl v2)]) rfl rfl rfl ?_
        refine g_goto rfl ?_
        exact g_loc (lsub_cons rfl (lsub_cons rfl (lsub_cons rfl (lsub_cons rfl lsub_nil)))) (hk4 v0 v1 v2 (v3 + 1) S0 tv0 _ E)
      · refine g_iclt_f rfl h4 ?_
        refine g_aload rfl rfl ?_
        refine g_getR rfl tv0 (fR_2_0 tv0) ?_
        refine g_iload rfl rfl ?_
        refine g_aload rfl rfl ?_
        refine g_getR rfl tv0 (fR_2_0 tv0) ?_
        refine g_iload rfl rfl ?_
        obtain ⟨x2, h5, E⟩ := ob E
        refine g_iald rfl (fT_2_0 tv0) h5 ?_
        obtain ⟨S3, h6, E⟩ := ob E
        refine g_iast rfl (fT_2_0 tv0) h6 ?_
        refine g_iinc (L2 := [(2, .inl (v2 + 1)), (0, .inr (some (some v0))), (1, .inl v1), (3, .inl v3)]) rfl rfl rfl ?_
        refine g_iinc (L2 := [(3, .inl (v3 + 1)), (2, .inl (v2 + 1)), (0, .inr (some (some v0))), (1, .inl v1)]) rfl rfl rfl ?_
        refine g_goto rfl ?_
        exact g_loc (lsub_cons rfl (lsub_cons rfl (lsub_cons rfl (lsub_cons rfl lsub_nil)))) (hk4 v0 v1 (v2 + 1) (v3 + 1) S3 tv0 _ E)
def fn_removeBelow_4  : Nat → Nat → Int32 → Int32 → Int32 → Mem → Option Mem
  | 0 => fun _ _ _ _ _ => none
  | n + 1 => fn_removeBelow_4b  (fn_removeBelow_4  n)
set_option maxRecDepth 20000 in
set_option maxHeartbeats 4000000 in
theorem tn_removeBelow_4 {scr : Nat × (Nat → Int32)} {d : Nat} (hd : 0 ≤ d)  : ∀ (n : Nat) (v0 : Nat) (v1 : Int32) (v2 : Int32) (v3 : Int32) (S0 : Mem), Ty 2 v0 → ∀ (SR : Mem), fn_removeBelow_4  n v0 v1 v2 v3 S0 = some SR → XG scr d 14 4 [(0, .inr (some (some v0))), (1, .inl v1), (2, .inl v2), (3, .inl v3)] [] S0 none SR
  | 0, v0, v1, v2, v3, S0, tv0, SR, E => nn E
  | n + 1, v0, v1, v2, v3, S0, tv0, SR, E => tn_removeBelow_4b hd  (tn_removeBelow_4 hd  n) v0 v1 v2 v3 S0 tv0 SR E
def fn_removeBelow (v0 : Nat) (v1 : Int32) (S0 : Mem) : Option Mem := fn_removeBelow_4 LF v0 v1 0 0 S0
set_option maxRecDepth 20000 in
set_option maxHeartbeats 4000000 in
theorem tn_removeBelow {scr : Nat × (Nat → Int32)} {d : Nat} (hd : 0 ≤ d) (v0 : Nat) (v1 : Int32) (S0 : Mem) (tv0 : Ty 2 v0) (SR : Mem) (E : fn_removeBelow  v0 v1 S0 = some SR) : XG scr d 14 0 [(0, .inr (some (some v0))), (1, .inl v1)] [] S0 none SR := by
  unfold fn_removeBelow at E
  refine g_push rfl ?_
  refine g_istore (L2 := [(2, .inl 0), (0, .inr (some (some v0))), (1, .inl v1)]) rfl rfl ?_
  refine g_push rfl ?_
  refine g_istore (L2 := [(3, .inl 0), (2, .inl 0), (0, .inr (some (some v0))), (1, .inl v1)]) rfl rfl ?_
  exact g_loc (lsub_cons rfl (lsub_cons rfl (lsub_cons rfl (lsub_cons rfl lsub_nil)))) (tn_removeBelow_4 hd LF v0 v1 0 0 S0 tv0 _ E)
def fp_add (v0 : Nat) (v1 : Int32) (v2 : Int32) (S0 : Mem) : Option (Int32 × Mem) := if (S0 v0 2) < 0 then (some (0, S0)) else (if (Int32.ofNat (ln (v0 + 1))) ≤ (S0 v0 2) then (some (0, S0)) else (if (S0 v0 2) < (Int32.ofNat (ln (v0 + 2))) then ((ast S0 (v0 + 1) (S0 v0 2) v1).bind fun S1 => (ast S1 (v0 + 2) (S1 v0 2) v2).bind fun S2 => (some (up2 S2 v0 2 ((S2 v0 2) + 1))).bind fun S3 => some (1, S3)) else (some (0, S0))))
set_option maxRecDepth 20000 in
set_option maxHeartbeats 4000000 in
theorem tp_add {scr : Nat × (Nat → Int32)} {d : Nat} (hd : 0 ≤ d) (v0 : Nat) (v1 : Int32) (v2 : Int32) (S0 : Mem) (tv0 : Ty 3 v0) (rv : Int32) (SR : Mem) (E : fp_add  v0 v1 v2 S0 = some (rv, SR)) : XG scr d 15 0 [(0, .inr (some (some v0))), (1, .inl v1), (2, .inl v2)] [] S0 (some (.inl rv)) SR := by
  unfold fp_add at E
  refine g_aload rfl rfl ?_
  refine g_getI rfl tv0 ?_
  rcases xif E with ⟨h1, E⟩ | ⟨h1, E⟩
  · refine g_iflt_t rfl h1 ?_
    refine g_push rfl ?_
    obtain ⟨rfl, rfl⟩ := so2 E
    exact g_zret rfl b00
  · refine g_iflt_f rfl h1 ?_
    refine g_aload rfl rfl ?_
    refine g_getI rfl tv0 ?_
    refine g_aload rfl rfl ?_
    refine g_getR rfl tv0 (fR_3_0 tv0) ?_
    refine g_len rfl (fT_3_0 tv0) ?_
    rcases xif E with ⟨h2, E⟩ | ⟨h2, E⟩
    · refine g_icge_t rfl h2 ?_
      refine g_push rfl ?_
      obtain ⟨rfl, rfl⟩ := so2 E
      exact g_zret rfl b00
    · refine g_icge_f rfl h2 ?_
      refine g_aload rfl rfl ?_
      refine g_getI rfl tv0 ?_
      refine g_aload rfl rfl ?_
      refine g_getR rfl tv0 (fR_3_1 tv0) ?_
      refine g_len rfl (fT_3_1 tv0) ?_
      rcases xif E with ⟨h3, E⟩ | ⟨h3, E⟩
      · refine g_iclt_t rfl h3 ?_
        refine g_aload rfl rfl ?_
        refine g_getR rfl tv0 (fR_3_0 tv0) ?_
        refine g_aload rfl rfl ?_
        refine g_getI rfl tv0 ?_
        refine g_iload rfl rfl ?_
        obtain ⟨S1, h4, E⟩ := ob E
        refine g_iast rfl (fT_3_0 tv0) h4 ?_
        refine g_aload rfl rfl ?_
        refine g_getR rfl tv0 (fR_3_1 tv0) ?_
        refine g_aload rfl rfl ?_
        refine g_getI rfl tv0 ?_
        refine g_iload rfl rfl ?_
        obtain ⟨S2, h5, E⟩ := ob E
        refine g_iast rfl (fT_3_1 tv0) h5 ?_
        refine g_aload rfl rfl ?_
        refine g_dup rfl ?_
        refine g_getI rfl tv0 ?_
        refine g_push rfl ?_
        refine g_iadd rfl ?_
        obtain ⟨S3, hS3, E⟩ := ob E
        refine g_putI rfl tv0 hS3 ?_
        refine g_push rfl ?_
        obtain ⟨rfl, rfl⟩ := so2 E
        exact g_zret rfl b01
      · refine g_iclt_f rfl h3 ?_
        refine g_push rfl ?_
        obtain ⟨rfl, rfl⟩ := so2 E
        exact g_zret rfl b00
def fp_removeFirst (v0 : Nat) (S0 : Mem) : Option Mem := if (S0 v0 2) ≤ 0 then (some S0) else ((some (up2 S0 v0 2 ((S0 v0 2) - 1))).bind fun S1 => (acp S1 (v0 + 1) 1 (v0 + 1) 0 (S1 v0 2)).bind fun S2 => (acp S2 (v0 + 2) 1 (v0 + 2) 0 (S2 v0 2)).bind fun S3 => some S3)
set_option maxRecDepth 20000 in
set_option maxHeartbeats 4000000 in
theorem tp_removeFirst {scr : Nat × (Nat → Int32)} {d : Nat} (hd : 0 ≤ d) (v0 : Nat) (S0 : Mem) (tv0 : Ty 3 v0) (SR : Mem) (E : fp_removeFirst  v0 S0 = some SR) : XG scr d 21 0 [(0, .inr (some (some v0)))] [] S0 none SR := by
  unfold fp_removeFirst at E
  refine g_aload rfl rfl ?_
  refine g_getI rfl tv0 ?_
  rcases xif E with ⟨h1, E⟩ | ⟨h1, E⟩
  · refine g_ifle_t rfl h1 ?_
    obtain rfl := so1 E
    exact g_ret rfl
  · refine g_ifle_f rfl h1 ?_
    refine g_aload rfl rfl ?_
    refine g_dup rfl ?_
    refine g_getI rfl tv0 ?_
    refine g_push rfl ?_
    refine g_isub rfl ?_
    obtain ⟨S1, hS1, E⟩ := ob E
    refine g_putI rfl tv0 hS1 ?_
    refine g_aload rfl rfl ?_
    refine g_getR rfl tv0 (fR_3_0 tv0) ?_
    refine g_push rfl ?_
    refine g_aload rfl rfl ?_
    refine g_getR rfl tv0 (fR_3_0 tv0) ?_
    refine g_push rfl ?_
    refine g_aload rfl rfl ?_
    refine g_getI rfl tv0 ?_
    obtain ⟨S2, h2, E⟩ := ob E
    refine g_copy rfl (fT_3_0 tv0) (fT_3_0 tv0) (Nat.le_of_ble_eq_true rfl) h2 ?_
    refine g_aload rfl rfl ?_
    refine g_getR rfl tv0 (fR_3_1 tv0) ?_
    refine g_push rfl ?_
    refine g_aload rfl rfl ?_
    refine g_getR rfl tv0 (fR_3_1 tv0) ?_
    refine g_push rfl ?_
    refine g_aload rfl rfl ?_
    refine g_getI rfl tv0 ?_
    obtain ⟨S3, h3, E⟩ := ob E
    refine g_copy rfl (fT_3_1 tv0) (fT_3_1 tv0) (Nat.le_of_ble_eq_true rfl) h3 ?_
    obtain rfl := so1 E
    exact g_ret rfl
def fp_addDroppingOldest (v0 : Nat) (v1 : Int32) (v2 : Int32) (S0 : Mem) : Option Mem := if (S0 v0 2) = (Int32.ofNat (ln (v0 + 1))) then ((fp_removeFirst v0 S0).bind fun S1 => bd (fp_add v0 v1 v2 S1) fun x1 S2 => some S2) else (bd (fp_add v0 v1 v2 S0) fun x2 S3 => some S3)
set_option maxRecDepth 20000 in
set_option maxHeartbeats 4000000 in
theorem tp_addDroppingOldest {scr : Nat × (Nat → Int32)} {d : Nat} (hd : 1 ≤ d) (v0 : Nat) (v1 : Int32) (v2 : Int32) (S0 : Mem) (tv0 : Ty 3 v0) (SR : Mem) (E : fp_addDroppingOldest  v0 v1 v2 S0 = some SR) : XG scr d 16 0 [(0, .inr (some (some v0))), (1, .inl v1), (2, .inl v2)] [] S0 none SR := by
  unfold fp_addDroppingOldest at E
  refine g_aload rfl rfl ?_
  refine g_getI rfl tv0 ?_
  refine g_aload rfl rfl ?_
  refine g_getR rfl tv0 (fR_3_0 tv0) ?_
  refine g_len rfl (fT_3_0 tv0) ?_
  rcases xif E with ⟨h1, E⟩ | ⟨h1, E⟩
  · refine g_icne_t rfl h1 ?_
    refine g_aload rfl rfl ?_
    obtain ⟨S1, h2, E⟩ := ob E
    refine g_inv0 (dc := 0) rfl (by omega) tv0 (Nat.le_of_ble_eq_true rfl) (fun d hd => tp_removeFirst hd v0 S0 tv0 _ h2) ?_
    refine g_aload rfl rfl ?_
    refine g_iload rfl rfl ?_
    refine g_iload rfl rfl ?_
    obtain ⟨x1, S2, h3, E⟩ := ob2 E
    refine g_inv2 (dc := 0) rfl (by omega) tv0 (Nat.le_of_ble_eq_true rfl) (fun d hd => tp_add hd v0 v1 v2 S1 tv0 _ _ h3) ?_
    refine g_pop rfl ?_
    obtain rfl := so1 E
    exact g_ret rfl
  · refine g_icne_f rfl h1 ?_
    refine g_aload rfl rfl ?_
    refine g_iload rfl rfl ?_
    refine g_iload rfl rfl ?_
    obtain ⟨x2, S3, h4, E⟩ := ob2 E
    refine g_inv2 (dc := 0) rfl (by omega) tv0 (Nat.le_of_ble_eq_true rfl) (fun d hd => tp_add hd v0 v1 v2 S0 tv0 _ _ h4) ?_
    refine g_pop rfl ?_
    obtain rfl := so1 E
    exact g_ret rfl
def fp_firstAt (v0 : Nat) (v1 : Int32) (S0 : Mem) : Option Int32 := if v1 < 0 then (some ((-1))) else (if (Int32.ofNat (ln (v0 + 1))) ≤ v1 then (some ((-1))) else ((ald S0 (v0 + 1) v1).bind fun x1 => some x1))
set_option maxRecDepth 20000 in
set_option maxHeartbeats 4000000 in
theorem tp_firstAt {scr : Nat × (Nat → Int32)} {d : Nat} (hd : 0 ≤ d) (v0 : Nat) (v1 : Int32) (S0 : Mem) (tv0 : Ty 3 v0) (rv : Int32) (E : fp_firstAt  v0 v1 S0 = some rv) : XG scr d 18 0 [(0, .inr (some (some v0))), (1, .inl v1)] [] S0 (some (.inl rv)) S0 := by
  unfold fp_firstAt at E
  refine g_iload rfl rfl ?_
  rcases xif E with ⟨h1, E⟩ | ⟨h1, E⟩
  · refine g_iflt_t rfl h1 ?_
    refine g_push rfl ?_
    obtain rfl := so1 E
    exact g_iret rfl
  · refine g_iflt_f rfl h1 ?_
    refine g_iload rfl rfl ?_
    refine g_aload rfl rfl ?_
    refine g_getR rfl tv0 (fR_3_0 tv0) ?_
    refine g_len rfl (fT_3_0 tv0) ?_
    rcases xif E with ⟨h2, E⟩ | ⟨h2, E⟩
    · refine g_icge_t rfl h2 ?_
      refine g_push rfl ?_
      obtain rfl := so1 E
      exact g_iret rfl
    · refine g_icge_f rfl h2 ?_
      refine g_aload rfl rfl ?_
      refine g_getR rfl tv0 (fR_3_0 tv0) ?_
      refine g_iload rfl rfl ?_
      obtain ⟨x1, h3, E⟩ := ob E
      refine g_iald rfl (fT_3_0 tv0) h3 ?_
      refine g_goto rfl ?_
      obtain rfl := so1 E
      exact g_iret rfl
def fp_putAhead (v0 : Nat) (v1 : Nat) (S0 : Mem) : Option (Int32 × Mem) := if 0 < (imn (S0 v1 2) ((Int32.ofNat (ln (v0 + 1))) - (S0 v0 2))) then ((acp S0 (v0 + 1) 0 (v0 + 1) (imn (S0 v1 2) ((Int32.ofNat (ln (v0 + 1))) - (S0 v0 2))) (S0 v0 2)).bind fun S1 => (acp S1 (v0 + 2) 0 (v0 + 2) (imn (S0 v1 2) ((Int32.ofNat (ln (v0 + 1))) - (S0 v0 2))) (S1 v0 2)).bind fun S2 => (acp S2 (v1 + 1) 0 (v0 + 1) 0 (imn (S0 v1 2) ((Int32.ofNat (ln (v0 + 1))) - (S0 v0 2)))).bind fun S3 => (acp S3 (v1 + 2) 0 (v0 + 2) 0 (imn (S0 v1 2) ((Int32.ofNat (ln (v0 + 1))) - (S0 v0 2)))).bind fun S4 => (some (up2 S4 v0 2 ((S4 v0 2) + (imn (S0 v1 2) ((Int32.ofNat (ln (v0 + 1))) - (S0 v0 2)))))).bind fun S5 => some (imn (S0 v1 2) ((Int32.ofNat (ln (v0 + 1))) - (S0 v0 2)), S5)) else (some (0, S0))
set_option maxRecDepth 20000 in
set_option maxHeartbeats 4000000 in
theorem tp_putAhead {scr : Nat × (Nat → Int32)} {d : Nat} (hd : 0 ≤ d) (v0 : Nat) (v1 : Nat) (S0 : Mem) (tv0 : Ty 3 v0) (tv1 : Ty 3 v1) (rv : Int32) (SR : Mem) (E : fp_putAhead  v0 v1 S0 = some (rv, SR)) : XG scr d 20 0 [(0, .inr (some (some v0))), (1, .inr (some (some v1)))] [] S0 (some (.inl rv)) SR := by
  unfold fp_putAhead at E
  refine g_aload rfl rfl ?_
  refine g_getI rfl tv1 ?_
  refine g_aload rfl rfl ?_
  refine g_getR rfl tv0 (fR_3_0 tv0) ?_
  refine g_len rfl (fT_3_0 tv0) ?_
  refine g_aload rfl rfl ?_
  refine g_getI rfl tv0 ?_
  refine g_isub rfl ?_
  refine g_mmin rfl (Nat.le_of_ble_eq_true rfl) ?_
  refine g_istore (L2 := [(2, .inl (imn (S0 v1 2) ((Int32.ofNat (ln (v0 + 1))) - (S0 v0 2)))), (0, .inr (some (some v0))), (1, .inr (some (some v1)))]) rfl rfl ?_
  refine g_iload rfl rfl ?_
  rcases xif E with ⟨h1, E⟩ | ⟨h1, E⟩
  · refine g_ifgt_t rfl h1 ?_
    refine g_aload rfl rfl ?_
    refine g_getR rfl tv0 (fR_3_0 tv0) ?_
    refine g_push rfl ?_
    refine g_aload rfl rfl ?_
    refine g_getR rfl tv0 (fR_3_0 tv0) ?_
    refine g_iload rfl rfl ?_
    refine g_aload rfl rfl ?_
    refine g_getI rfl tv0 ?_
    obtain ⟨S1, h2, E⟩ := ob E
    refine g_copy rfl (fT_3_0 tv0) (fT_3_0 tv0) (Nat.le_of_ble_eq_true rfl) h2 ?_
    refine g_aload rfl rfl ?_
    refine g_getR rfl tv0 (fR_3_1 tv0) ?_
    refine g_push rfl ?_
    refine g_aload rfl rfl ?_
    refine g_getR rfl tv0 (fR_3_1 tv0) ?_
    refine g_iload rfl rfl ?_
    refine g_aload rfl rfl ?_
    refine g_getI rfl tv0 ?_
    obtain ⟨S2, h3, E⟩ := ob E
    refine g_copy rfl (fT_3_1 tv0) (fT_3_1 tv0) (Nat.le_of_ble_eq_true rfl) h3 ?_
    refine g_aload rfl rfl ?_
    refine g_getR rfl tv1 (fR_3_0 tv1) ?_
    refine g_push rfl ?_
    refine g_aload rfl rfl ?_
    refine g_getR rfl tv0 (fR_3_0 tv0) ?_
    refine g_push rfl ?_
    refine g_iload rfl rfl ?_
    obtain ⟨S3, h4, E⟩ := ob E
    refine g_copy rfl (fT_3_0 tv1) (fT_3_0 tv0) (Nat.le_of_ble_eq_true rfl) h4 ?_
    refine g_aload rfl rfl ?_
    refine g_getR rfl tv1 (fR_3_1 tv1) ?_
    refine g_push rfl ?_
    refine g_aload rfl rfl ?_
    refine g_getR rfl tv0 (fR_3_1 tv0) ?_
    refine g_push rfl ?_
    refine g_iload rfl rfl ?_
    obtain ⟨S4, h5, E⟩ := ob E
    refine g_copy rfl (fT_3_1 tv1) (fT_3_1 tv0) (Nat.le_of_ble_eq_true rfl) h5 ?_
    refine g_aload rfl rfl ?_
    refine g_dup rfl ?_
    refine g_getI rfl tv0 ?_
    refine g_iload rfl rfl ?_
    refine g_iadd rfl ?_
    obtain ⟨S5, hS5, E⟩ := ob E
    refine g_putI rfl tv0 hS5 ?_
    refine g_iload rfl rfl ?_
    obtain ⟨rfl, rfl⟩ := so2 E
    exact g_iret rfl
  · refine g_ifgt_f rfl h1 ?_
    refine g_push rfl ?_
    obtain ⟨rfl, rfl⟩ := so2 E
    exact g_iret rfl
def fp_secondAt (v0 : Nat) (v1 : Int32) (S0 : Mem) : Option Int32 := if v1 < 0 then (some 0) else (if (Int32.ofNat (ln (v0 + 2))) ≤ v1 then (some 0) else ((ald S0 (v0 + 2) v1).bind fun x1 => some x1))
set_option maxRecDepth 20000 in
set_option maxHeartbeats 4000000 in
theorem tp_secondAt {scr : Nat × (Nat → Int32)} {d : Nat} (hd : 0 ≤ d) (v0 : Nat) (v1 : Int32) (S0 : Mem) (tv0 : Ty 3 v0) (rv : Int32) (E : fp_secondAt  v0 v1 S0 = some rv) : XG scr d 22 0 [(0, .inr (some (some v0))), (1, .inl v1)] [] S0 (some (.inl rv)) S0 := by
  unfold fp_secondAt at E
  refine g_iload rfl rfl ?_
  rcases xif E with ⟨h1, E⟩ | ⟨h1, E⟩
  · refine g_iflt_t rfl h1 ?_
    refine g_push rfl ?_
    obtain rfl := so1 E
    exact g_iret rfl
  · refine g_iflt_f rfl h1 ?_
    refine g_iload rfl rfl ?_
    refine g_aload rfl rfl ?_
    refine g_getR rfl tv0 (fR_3_1 tv0) ?_
    refine g_len rfl (fT_3_1 tv0) ?_
    rcases xif E with ⟨h2, E⟩ | ⟨h2, E⟩
    · refine g_icge_t rfl h2 ?_
      refine g_push rfl ?_
      obtain rfl := so1 E
      exact g_iret rfl
    · refine g_icge_f rfl h2 ?_
      refine g_aload rfl rfl ?_
      refine g_getR rfl tv0 (fR_3_1 tv0) ?_
      refine g_iload rfl rfl ?_
      obtain ⟨x1, h3, E⟩ := ob E
      refine g_iald rfl (fT_3_1 tv0) h3 ?_
      refine g_goto rfl ?_
      obtain rfl := so1 E
      exact g_iret rfl
def ft_isRead (v0 : Nat) (S0 : Mem) : Option Int32 := if (S0 v0 3) < (S0 (v0 + 1) 1) then (some 0) else (some 1)
set_option maxRecDepth 20000 in
set_option maxHeartbeats 4000000 in
theorem tt_isRead {scr : Nat × (Nat → Int32)} {d : Nat} (hd : 0 ≤ d) (v0 : Nat) (S0 : Mem) (tv0 : Ty 4 v0) (rv : Int32) (E : ft_isRead  v0 S0 = some rv) : XG scr d 27 0 [(0, .inr (some (some v0)))] [] S0 (some (.inl rv)) S0 := by
  unfold ft_isRead at E
  refine g_aload rfl rfl ?_
  refine g_getI rfl tv0 ?_
  refine g_aload rfl rfl ?_
  refine g_getR rfl tv0 (fR_4_0 tv0) ?_
  refine g_getI rfl (fT_4_0 tv0) ?_
  rcases xif E with ⟨h1, E⟩ | ⟨h1, E⟩
  · refine g_iclt_t rfl h1 ?_
    refine g_push rfl ?_
    obtain rfl := so1 E
    exact g_zret rfl b00
  · refine g_iclt_f rfl h1 ?_
    refine g_push rfl ?_
    refine g_goto rfl ?_
    obtain rfl := so1 E
    exact g_zret rfl b01
def ft_isNext (v0 : Nat) (v1 : Int32) (S0 : Mem) : Option Int32 := (ft_isRead v0 S0).bind fun x1 => if x1 = 0 then ((fn_at (v0 + 1) (S0 v0 3) S0).bind fun x2 => if x2 = v1 then (some 1) else (some 0)) else (some 0)
set_option maxRecDepth 20000 in
set_option maxHeartbeats 4000000 in
theorem tt_isNext {scr : Nat × (Nat → Int32)} {d : Nat} (hd : 1 ≤ d) (v0 : Nat) (v1 : Int32) (S0 : Mem) (tv0 : Ty 4 v0) (rv : Int32) (E : ft_isNext  v0 v1 S0 = some rv) : XG scr d 26 0 [(0, .inr (some (some v0))), (1, .inl v1)] [] S0 (some (.inl rv)) S0 := by
  unfold ft_isNext at E
  refine g_aload rfl rfl ?_
  obtain ⟨x1, h1, E⟩ := ob E
  refine g_inv0 (dc := 0) rfl (by omega) tv0 (Nat.le_of_ble_eq_true rfl) (fun d hd => tt_isRead hd v0 S0 tv0 _ h1) ?_
  rcases xif E with ⟨h2, E⟩ | ⟨h2, E⟩
  · refine g_ifne_t rfl h2 ?_
    refine g_aload rfl rfl ?_
    refine g_getR rfl tv0 (fR_4_0 tv0) ?_
    refine g_aload rfl rfl ?_
    refine g_getI rfl tv0 ?_
    obtain ⟨x2, h3, E⟩ := ob E
    refine g_inv1 (dc := 0) rfl (by omega) (fT_4_0 tv0) (Nat.le_of_ble_eq_true rfl) (fun d hd => tn_at hd (v0 + 1) (S0 v0 3) S0 (fT_4_0 tv0) _ h3) ?_
    refine g_iload rfl rfl ?_
    rcases xif E with ⟨h4, E⟩ | ⟨h4, E⟩
    · refine g_icne_t rfl h4 ?_
      refine g_push rfl ?_
      refine g_goto rfl ?_
      obtain rfl := so1 E
      exact g_zret rfl b01
    · refine g_icne_f rfl h4 ?_
      refine g_push rfl ?_
      obtain rfl := so1 E
      exact g_zret rfl b00
  · refine g_ifne_f rfl h2 ?_
    refine g_push rfl ?_
    obtain rfl := so1 E
    exact g_zret rfl b00
def ft_isDigitNext (v0 : Nat) (S0 : Mem) : Option Int32 := (ft_isRead v0 S0).bind fun x1 => if x1 = 0 then ((fn_at (v0 + 1) (S0 v0 3) S0).bind fun x2 => if x2 < 48 then (some 0) else ((fn_at (v0 + 1) (S0 v0 3) S0).bind fun x3 => if 57 < x3 then (some 0) else (some 1))) else (some 0)
set_option maxRecDepth 20000 in
set_option maxHeartbeats 4000000 in
theorem tt_isDigitNext {scr : Nat × (Nat → Int32)} {d : Nat} (hd : 1 ≤ d) (v0 : Nat) (S0 : Mem) (tv0 : Ty 4 v0) (rv : Int32) (E : ft_isDigitNext  v0 S0 = some rv) : XG scr d 25 0 [(0, .inr (some (some v0)))] [] S0 (some (.inl rv)) S0 := by
  unfold ft_isDigitNext at E
  refine g_aload rfl rfl ?_
  obtain ⟨x1, h1, E⟩ := ob E
  refine g_inv0 (dc := 0) rfl (by omega) tv0 (Nat.le_of_ble_eq_true rfl) (fun d hd => tt_isRead hd v0 S0 tv0 _ h1) ?_
  rcases xif E with ⟨h2, E⟩ | ⟨h2, E⟩
  · refine g_ifne_t rfl h2 ?_
    refine g_aload rfl rfl ?_
    refine g_getR rfl tv0 (fR_4_0 tv0) ?_
    refine g_aload rfl rfl ?_
    refine g_getI rfl tv0 ?_
    obtain ⟨x2, h3, E⟩ := ob E
    refine g_inv1 (dc := 0) rfl (by omega) (fT_4_0 tv0) (Nat.le_of_ble_eq_true rfl) (fun d hd => tn_at hd (v0 + 1) (S0 v0 3) S0 (fT_4_0 tv0) _ h3) ?_
    refine g_push rfl ?_
    rcases xif E with ⟨h4, E⟩ | ⟨h4, E⟩
    · refine g_iclt_t rfl h4 ?_
      refine g_push rfl ?_
      obtain rfl := so1 E
      exact g_zret rfl b00
    · refine g_iclt_f rfl h4 ?_
      refine g_aload rfl rfl ?_
      refine g_getR rfl tv0 (fR_4_0 tv0) ?_
      refine g_aload rfl rfl ?_
      refine g_getI rfl tv0 ?_
      obtain ⟨x3, h5, E⟩ := ob E
      refine g_inv1 (dc := 0) rfl (by omega) (fT_4_0 tv0) (Nat.le_of_ble_eq_true rfl) (fun d hd => tn_at hd (v0 + 1) (S0 v0 3) S0 (fT_4_0 tv0) _ h5) ?_
      refine g_push rfl ?_
      rcases xif E with ⟨h6, E⟩ | ⟨h6, E⟩
      · refine g_icgt_t rfl h6 ?_
        refine g_push rfl ?_
        obtain rfl := so1 E
        exact g_zret rfl b00
      · refine g_icgt_f rfl h6 ?_
        refine g_push rfl ?_
        refine g_goto rfl ?_
        obtain rfl := so1 E
        exact g_zret rfl b01
  · refine g_ifne_f rfl h2 ?_
    refine g_push rfl ?_
    obtain rfl := so1 E
    exact g_zret rfl b00
def ft_readNumber_54  (v0 : Nat) (v2 : Int32) (s0 : Int32) (s1 : Int32) (s2 : Nat) (S0 : Mem) : Option (Int32 × Mem) := (some (up2 S0 s2 3 (s1 + s0))).bind fun S1 => (ft_isDigitNext v0 S1).bind fun x1 => if x1 = 0 then (some (0, S1)) else ((fn_at (v0 + 1) (S1 v0 3) S1).bind fun x2 => (some (up2 S1 v0 3 ((S1 v0 3) + 1))).bind fun S2 => (ft_isDigitNext v0 S2).bind fun x3 => if x3 = 0 then (if v2 = 0 then (bd (fn_add (v0 + 3) (x2 - 48) S2) fun x4 S3 => some (1, S3)) else (bd (fn_add (v0 + 3) (-(x2 - 48)) S2) fun x5 S4 => some (1, S4))) else ((fn_at (v0 + 1) (S2 v0 3) S2).bind fun x6 => (some (up2 S2 v0 3 ((S2 v0 3) + 1))).bind fun S5 => if v2 = 0 then (bd (fn_add (v0 + 3) (((10 * (x2 - 48)) + x6) - 48) S5) fun x7 S6 => some (1, S6)) else (bd (fn_add (v0 + 3) (-(((10 * (x2 - 48)) + x6) - 48)) S5) fun x8 S7 => some (1, S7))))
set_option maxRecDepth 20000 in
set_option maxHeartbeats 4000000 in
theorem tt_readNumber_54 {scr : Nat × (Nat → Int32)} {d : Nat} (hd : 2 ≤ d)  (v0 : Nat) (v2 : Int32) (s0 : Int32) (s1 : Int32) (s2 : Nat) (S0 : Mem) (tv0 : Ty 4 v0) (ts2 : Ty 4 s2) (rv : Int32) (SR : Mem) (E : ft_readNumber_54 v0 v2 s0 s1 s2 S0 = some (rv, SR)) : XG scr d 29 54 [(0, .inr (some (some v0))), (2, .inl v2)] [.inl s0, .inl s1, .inr (some (some s2))] S0 (some (.inl rv)) SR := by
  unfold ft_readNumber_54 at E
  refine g_iadd rfl ?_
  obtain ⟨S1, hS1, E⟩ := ob E
  refine g_putI rfl ts2 hS1 ?_
  refine g_aload rfl rfl ?_
  obtain ⟨x1, h1, E⟩ := ob E
  refine g_inv0 (dc := 1) rfl (by omega) tv0 (Nat.le_of_ble_eq_true rfl) (fun d hd => tt_isDigitNext hd v0 S1 tv0 _ h1) ?_
  rcases xif E with ⟨h2, E⟩ | ⟨h2, E⟩
  · refine g_ifne_t rfl h2 ?_
    refine g_push rfl ?_
    obtain ⟨rfl, rfl⟩ := so2 E
    exact g_zret rfl b00
  · refine g_ifne_f rfl h2 ?_
    refine g_aload rfl rfl ?_
    refine g_getR rfl tv0 (fR_4_0 tv0) ?_
    refine g_aload rfl rfl ?_
    refine g_getI rfl tv0 ?_
    obtain ⟨x2, h3, E⟩ := ob E
    refine g_inv1 (dc := 0) rfl (by omega) (fT_4_0 tv0) (Nat.le_of_ble_eq_true rfl) (fun d hd => tn_at hd (v0 + 1) (S1 v0 3) S1 (fT_4_0 tv0) _ h3) ?_
    refine g_push rfl ?_
    refine g_isub rfl ?_
    refine g_istore (L2 := [(3, .inl (x2 - 48)), (0, .inr (some (some v0))), (2, .inl v2)]) rfl rfl ?_
    refine g_aload rfl rfl ?_
    refine g_dup rfl ?_
    refine g_getI rfl tv0 ?_
    refine g_push rfl ?_
    refine g_iadd rfl ?_
    obtain ⟨S2, hS2, E⟩ := ob E
    refine g_putI rfl tv0 hS2 ?_
    refine g_aload rfl rfl ?_
    obtain ⟨x3, h4, E⟩ := ob E
    refine g_inv0 (dc := 1) rfl (by omega) tv0 (Nat.le_of_ble_eq_true rfl) (fun d hd => tt_isDigitNext hd v0 S2 tv0 _ h4) ?_
    rcases xif E with ⟨h5, E⟩ | ⟨h5, E⟩
    · refine g_ifeq_t rfl h5 ?_
      refine g_aload rfl rfl ?_
      refine g_getR rfl tv0 (fR_4_1 tv0) ?_
      refine g_iload rfl rfl ?_
      rcases xif E with ⟨h6, E⟩ | ⟨h6, E⟩
      · refine g_ifeq_t rfl h6 ?_
        refine g_iload rfl rfl ?_
        obtain ⟨x4, S3, h7, E⟩ := ob2 E
        refine g_inv1 (dc := 0) rfl (by omega) (fT_4_1 tv0) (Nat.le_of_ble_eq_true rfl) (fun d hd => tn_add hd (v0 + 3) (x2 - 48) S2 (fT_4_1 tv0) _ _ h7) ?_
        refine g_pop rfl ?_
        refine g_push rfl ?_
        obtain ⟨rfl, rfl⟩ := so2 E
        exact g_zret rfl b01
      · refine g_ifeq_f rfl h6 ?_
        refine g_iload rfl rfl ?_
        refine g_ineg rfl ?_
        refine g_goto rfl ?_
        obtain ⟨x5, S4, h8, E⟩ := ob2 E
        refine g_inv1 (dc := 0) rfl (by omega) (fT_4_1 tv0) (Nat.le_of_ble_eq_true rfl) (fun d hd => tn_add hd (v0 + 3) (-(x2 - 48)) S2 (fT_4_1 tv0) _ _ h8) ?_
        refine g_pop rfl ?_
        refine g_push rfl ?_
        obtain ⟨rfl, rfl⟩ := so2 E
        exact g_zret rfl b01
    · refine g_ifeq_f rfl h5 ?_
      refine g_push rfl ?_
      refine g_iload rfl rfl ?_
      refine g_imul rfl ?_
      refine g_aload rfl rfl ?_
      refine g_getR rfl tv0 (fR_4_0 tv0) ?_
      refine g_aload rfl rfl ?_
      refine g_getI rfl tv0 ?_
      obtain ⟨x6, h9, E⟩ := ob E
      refine g_inv1 (dc := 0) rfl (by omega) (fT_4_0 tv0) (Nat.le_of_ble_eq_true rfl) (fun d hd => tn_at hd (v0 + 1) (S2 v0 3) S2 (fT_4_0 tv0) _ h9) ?_
      refine g_iadd rfl ?_
      refine g_push rfl ?_
      refine g_isub rfl ?_
      refine g_istore (L2 := [(3, .inl (((10 * (x2 - 48)) + x6) - 48)), (0, .inr (some (some v0))), (2, .inl v2)]) rfl rfl ?_
      refine g_aload rfl rfl ?_
      refine g_dup rfl ?_
      refine g_getI rfl tv0 ?_
      refine g_push rfl ?_
      refine g_iadd rfl ?_
      obtain ⟨S5, hS5, E⟩ := ob E
      refine g_putI rfl tv0 hS5 ?_
      refine g_aload rfl rfl ?_
      refine g_getR rfl tv0 (fR_4_1 tv0) ?_
      refine g_iload rfl rfl ?_
      rcases xif E with ⟨h10, E⟩ | ⟨h10, E⟩
      · refine g_ifeq_t rfl h10 ?_
        refine g_iload rfl rfl ?_
        obtain ⟨x7, S6, h11, E⟩ := ob2 E
        refine g_inv1 (dc := 0) rfl (by omega) (fT_4_1 tv0) (Nat.le_of_ble_eq_true rfl) (fun d hd => tn_add hd (v0 + 3) (((10 * (x2 - 48)) + x6) - 48) S5 (fT_4_1 tv0) _ _ h11) ?_
        refine g_pop rfl ?_
        refine g_push rfl ?_
        obtain ⟨rfl, rfl⟩ := so2 E
        exact g_zret rfl b01
      · refine g_ifeq_f rfl h10 ?_
        refine g_iload rfl rfl ?_
        refine g_ineg rfl ?_
        refine g_goto rfl ?_
        obtain ⟨x8, S7, h12, E⟩ := ob2 E
        refine g_inv1 (dc := 0) rfl (by omega) (fT_4_1 tv0) (Nat.le_of_ble_eq_true rfl) (fun d hd => tn_add hd (v0 + 3) (-(((10 * (x2 - 48)) + x6) - 48)) S5 (fT_4_1 tv0) _ _ h12) ?_
        refine g_pop rfl ?_
        refine g_push rfl ?_
        obtain ⟨rfl, rfl⟩ := so2 E
        exact g_zret rfl b01
def ft_readNumber (v0 : Nat) (v1 : Int32) (S0 : Mem) : Option (Int32 × Mem) := (ft_isNext v0 32 S0).bind fun x1 => if x1 = 0 then (some (0, S0)) else ((some (up2 S0 v0 3 ((S0 v0 3) + 1))).bind fun S1 => if v1 = 0 then (ft_readNumber_54 v0 0 0 (S1 v0 3) v0 S1) else ((ft_isNext v0 45 S1).bind fun x2 => if x2 = 0 then (ft_readNumber_54 v0 0 0 (S1 v0 3) v0 S1) else (ft_readNumber_54 v0 1 1 (S1 v0 3) v0 S1)))
set_option maxRecDepth 20000 in
set_option maxHeartbeats 4000000 in
theorem tt_readNumber {scr : Nat × (Nat → Int32)} {d : Nat} (hd : 2 ≤ d) (v0 : Nat) (v1 : Int32) (S0 : Mem) (tv0 : Ty 4 v0) (rv : Int32) (SR : Mem) (E : ft_readNumber  v0 v1 S0 = some (rv, SR)) : XG scr d 29 0 [(0, .inr (some (some v0))), (1, .inl v1)] [] S0 (some (.inl rv)) SR := by
  unfold ft_readNumber at E
  refine g_aload rfl rfl ?_
  refine g_push rfl ?_
  obtain ⟨x1, h1, E⟩ := ob E
  refine g_inv1 (dc := 1) rfl (by omega) tv0 (Nat.le_of_ble_eq_true rfl) (fun d hd => tt_isNext hd v0 32 S0 tv0 _ h1) ?_
  rcases xif E with ⟨h2, E⟩ | ⟨h2, E⟩
  · refine g_ifne_t rfl h2 ?_
    refine g_push rfl ?_
    obtain ⟨rfl, rfl⟩ := so2 E
    exact g_zret rfl b00
  · refine g_ifne_f rfl h2 ?_
    refine g_aload rfl rfl ?_
    refine g_dup rfl ?_
    refine g_getI rfl tv0 ?_
    refine g_push rfl ?_
    refine g_iadd rfl ?_
    obtain ⟨S1, hS1, E⟩ := ob E
    refine g_putI rfl tv0 hS1 ?_
    refine g_iload rfl rfl ?_
    rcases xif E with ⟨h3, E⟩ | ⟨h3, E⟩
    · refine g_ifeq_t rfl h3 ?_
      refine g_push rfl ?_
      refine g_istore (L2 := [(2, .inl 0), (0, .inr (some (some v0))), (1, .inl v1)]) rfl rfl ?_
      refine g_aload rfl rfl ?_
      refine g_dup rfl ?_
      refine g_getI rfl tv0 ?_
      refine g_iload rfl rfl ?_
      refine g_ifeq_t rfl (by decide) ?_
      refine g_push rfl ?_
      exact g_loc (lsub_cons rfl (lsub_cons rfl lsub_nil)) (tt_readNumber_54 hd v0 0 0 (S1 v0 3) v0 S1 tv0 tv0 _ _ E)
    · refine g_ifeq_f rfl h3 ?_
      refine g_aload rfl rfl ?_
      refine g_push rfl ?_
      obtain ⟨x2, h4, E⟩ := ob E
      refine g_inv1 (dc := 1) rfl (by omega) tv0 (Nat.le_of_ble_eq_true rfl) (fun d hd => tt_isNext hd v0 45 S1 tv0 _ h4) ?_
      rcases xif E with ⟨h5, E⟩ | ⟨h5, E⟩
      · refine g_ifeq_t rfl h5 ?_
        refine g_push rfl ?_
        refine g_istore (L2 := [(2, .inl 0), (0, .inr (some (some v0))), (1, .inl v1)]) rfl rfl ?_
        refine g_aload rfl rfl ?_
        refine g_dup rfl ?_
        refine g_getI rfl tv0 ?_
        refine g_iload rfl rfl ?_
        refine g_ifeq_t rfl (by decide) ?_
        refine g_push rfl ?_
        exact g_loc (lsub_cons rfl (lsub_cons rfl lsub_nil)) (tt_readNumber_54 hd v0 0 0 (S1 v0 3) v0 S1 tv0 tv0 _ _ E)
      · refine g_ifeq_f rfl h5 ?_
        refine g_push rfl ?_
        refine g_goto rfl ?_
        refine g_istore (L2 := [(2, .inl 1), (0, .inr (some (some v0))), (1, .inl v1)]) rfl rfl ?_
        refine g_aload rfl rfl ?_
        refine g_dup rfl ?_
        refine g_getI rfl tv0 ?_
        refine g_iload rfl rfl ?_
        refine g_ifeq_f rfl (by decide) ?_
        refine g_push rfl ?_
        refine g_goto rfl ?_
        exact g_loc (lsub_cons rfl (lsub_cons rfl lsub_nil)) (tt_readNumber_54 hd v0 1 1 (S1 v0 3) v0 S1 tv0 tv0 _ _ E)
def ft_readLine_93b (k93 : Nat → Int32 → Int32 → Mem → Option (Int32 × Mem)) (v0 : Nat) (v1 : Int32) (v2 : Int32) (S0 : Mem) : Option (Int32 × Mem) := if v1 < v2 then (some (1, S0)) else (if (S0 v0 2) = 97 then (bd (ft_readNumber v0 0 S0) fun x1 S1 => if x1 = 0 then (some (0, S1)) else (k93 v0 v1 (v2 + 1) S1)) else (if v2 = v1 then (bd (ft_readNumber v0 1 S0) fun x2 S2 => if x2 = 0 then (some (0, S2)) else (k93 v0 v1 (v2 + 1) S2)) else (bd (ft_readNumber v0 0 S0) fun x3 S3 => if x3 = 0 then (some (0, S3)) else (k93 v0 v1 (v2 + 1) S3))))
set_option maxRecDepth 20000 in
set_option maxHeartbeats 4000000 in
theorem tt_readLine_93b {scr : Nat × (Nat → Int32)} {d : Nat} (hd : 3 ≤ d) {k93 : Nat → Int32 → Int32 → Mem → Option (Int32 × Mem)} (hk93 : ∀ (v0 : Nat) (v1 : Int32) (v2 : Int32) (S0 : Mem), Ty 4 v0 → ∀ (rv : Int32) (SR : Mem), k93 v0 v1 v2 S0 = some (rv, SR) → XG scr d 28 93 [(0, .inr (some (some v0))), (1, .inl v1), (2, .inl v2)] [] S0 (some (.inl rv)) SR) (v0 : Nat) (v1 : Int32) (v2 : Int32) (S0 : Mem) (tv0 : Ty 4 v0) (rv : Int32) (SR : Mem) (E : ft_readLine_93b k93 v0 v1 v2 S0 = some (rv, SR)) : XG scr d 28 93 [(0, .inr (some (some v0))), (1, .inl v1), (2, .inl v2)] [] S0 (some (.inl rv)) SR := by
  unfold ft_readLine_93b at E
  refine g_iload rfl rfl ?_
  refine g_iload rfl rfl ?_
  rcases xif E with ⟨h1, E⟩ | ⟨h1, E⟩
  · refine g_icgt_t rfl h1 ?_
    refine g_push rfl ?_
    obtain ⟨rfl, rfl⟩ := so2 E
    exact g_zret rfl b01
  · refine g_icgt_f rfl h1 ?_
    refine g_aload rfl rfl ?_
    refine g_aload rfl rfl ?_
    refine g_getI rfl tv0 ?_
    refine g_push rfl ?_
    rcases xif E with ⟨h2, E⟩ | ⟨h2, E⟩
    · refine g_iceq_t rfl h2 ?_
      refine g_push rfl ?_
      obtain ⟨x1, S1, h3, E⟩ := ob2 E
      refine g_inv1 (dc := 2) rfl (by omega) tv0 (Nat.le_of_ble_eq_true rfl) (fun d hd => tt_readNumber hd v0 0 S0 tv0 _ _ h3) ?_
      rcases xif E with ⟨h4, E⟩ | ⟨h4, E⟩
      · refine g_ifne_t rfl h4 ?_
        refine g_push rfl ?_
        obtain ⟨rfl, rfl⟩ := so2 E
        exact g_zret rfl b00
      · refine g_ifne_f rfl h4 ?_
        refine g_iinc (L2 := [(2, .inl (v2 + 1)), (0, .inr (some (some v0))), (1, .inl v1)]) rfl rfl rfl ?_
        refine g_goto rfl ?_
        exact g_loc (lsub_cons rfl (lsub_cons rfl (lsub_cons rfl lsub_nil))) (hk93 v0 v1 (v2 + 1) S1 tv0 _ _ E)
    · refine g_iceq_f rfl h2 ?_
      refine g_iload rfl rfl ?_
      refine g_iload rfl rfl ?_
      rcases xif E with ⟨h5, E⟩ | ⟨h5, E⟩
      · refine g_icne_t rfl h5 ?_
        refine g_push rfl ?_
        refine g_goto rfl ?_
        obtain ⟨x2, S2, h6, E⟩ := ob2 E
        refine g_inv1 (dc := 2) rfl (by omega) tv0 (Nat.le_of_ble_eq_true rfl) (fun d hd => tt_readNumber hd v0 1 S0 tv0 _ _ h6) ?_
        rcases xif E with ⟨h7, E⟩ | ⟨h7, E⟩
        · refine g_ifne_t rfl h7 ?_
          refine g_push rfl ?_
          obtain ⟨rfl, rfl⟩ := so2 E
          exact g_zret rfl b00
        · refine g_ifne_f rfl h7 ?_
          refine g_iinc (L2 := [(2, .inl (v2 + 1)), (0, .inr (some (some v0))), (1, .inl v1)]) rfl rfl rfl ?_
          refine g_goto rfl ?_
          exact g_loc (lsub_cons rfl (lsub_cons rfl (lsub_cons rfl lsub_nil))) (hk93 v0 v1 (v2 + 1) S2 tv0 _ _ E)
      · refine g_icne_f rfl h5 ?_
        refine g_push rfl ?_
        obtain ⟨x3, S3, h8, E⟩ := ob2 E
        refine g_inv1 (dc := 2) rfl (by omega) tv0 (Nat.le_of_ble_eq_true rfl) (fun d hd => tt_readNumber hd v0 0 S0 tv0 _ _ h8) ?_
        rcases xif E with ⟨h9, E⟩ | ⟨h9, E⟩
        · refine g_ifne_t rfl h9 ?_
          refine g_push rfl ?_
          obtain ⟨rfl, rfl⟩ := so2 E
          exact g_zret rfl b00
        · refine g_ifne_f rfl h9 ?_
          refine g_iinc (L2 := [(2, .inl (v2 + 1)), (0, .inr (some (some v0))), (1, .inl v1)]) rfl rfl rfl ?_
          refine g_goto rfl ?_
          exact g_loc (lsub_cons rfl (lsub_cons rfl (lsub_cons rfl lsub_nil))) (hk93 v0 v1 (v2 + 1) S3 tv0 _ _ E)
def ft_readLine_93  : Nat → Nat → Int32 → Int32 → Mem → Option (Int32 × Mem)
  | 0 => fun _ _ _ _ => none
  | n + 1 => ft_readLine_93b  (ft_readLine_93  n)
set_option maxRecDepth 20000 in
set_option maxHeartbeats 4000000 in
theorem tt_readLine_93 {scr : Nat × (Nat → Int32)} {d : Nat} (hd : 3 ≤ d)  : ∀ (n : Nat) (v0 : Nat) (v1 : Int32) (v2 : Int32) (S0 : Mem), Ty 4 v0 → ∀ (rv : Int32) (SR : Mem), ft_readLine_93  n v0 v1 v2 S0 = some (rv, SR) → XG scr d 28 93 [(0, .inr (some (some v0))), (1, .inl v1), (2, .inl v2)] [] S0 (some (.inl rv)) SR
  | 0, v0, v1, v2, S0, tv0, rv, SR, E => nn E
  | n + 1, v0, v1, v2, S0, tv0, rv, SR, E => tt_readLine_93b hd  (tt_readLine_93 hd  n) v0 v1 v2 S0 tv0 rv SR E
def ft_readLine_31  (v0 : Nat) (s0 : Int32) (s1 : Nat) (S0 : Mem) : Option (Int32 × Mem) := (some (up2 S0 s1 2 s0)).bind fun S1 => if (S1 v0 2) = 97 then ((some (up2 S1 v0 3 ((S1 v0 3) + 1))).bind fun S2 => ft_readLine_93 LF v0 5 1 S2) else (if (S1 v0 2) = 109 then ((some (up2 S1 v0 3 ((S1 v0 3) + 1))).bind fun S3 => ft_readLine_93 LF v0 2 1 S3) else (if (S1 v0 2) = 115 then ((some (up2 S1 v0 3 ((S1 v0 3) + 1))).bind fun S4 => ft_readLine_93 LF v0 1 1 S4) else (some (0, S1))))
set_option maxRecDepth 20000 in
set_option maxHeartbeats 4000000 in
theorem tt_readLine_31 {scr : Nat × (Nat → Int32)} {d : Nat} (hd : 3 ≤ d)  (v0 : Nat) (s0 : Int32) (s1 : Nat) (S0 : Mem) (tv0 : Ty 4 v0) (ts1 : Ty 4 s1) (rv : Int32) (SR : Mem) (E : ft_readLine_31 v0 s0 s1 S0 = some (rv, SR)) : XG scr d 28 31 [(0, .inr (some (some v0)))] [.inl s0, .inr (some (some s1))] S0 (some (.inl rv)) SR := by
  unfold ft_readLine_31 at E
  obtain ⟨S1, hS1, E⟩ := ob E
  refine g_putI rfl ts1 hS1 ?_
  refine g_aload rfl rfl ?_
  refine g_getI rfl tv0 ?_
  refine g_push rfl ?_
  rcases xif E with ⟨h1, E⟩ | ⟨h1, E⟩
  · refine g_icne_t rfl h1 ?_
    refine g_push rfl ?_
    refine g_goto rfl ?_
    refine g_istore (L2 := [(1, .inl 5), (0, .inr (some (some v0)))]) rfl rfl ?_
    refine g_iload rfl rfl ?_
    refine g_ifne_f rfl (by decide) ?_
    refine g_aload rfl rfl ?_
    refine g_dup rfl ?_
    refine g_getI rfl tv0 ?_
    refine g_push rfl ?_
    refine g_iadd rfl ?_
    obtain ⟨S2, hS2, E⟩ := ob E
    refine g_putI rfl tv0 hS2 ?_
    refine g_push rfl ?_
    refine g_istore (L2 := [(2, .inl 1), (1, .inl 5), (0, .inr (some (some v0)))]) rfl rfl ?_
    exact g_loc (lsub_cons rfl (lsub_cons rfl (lsub_cons rfl lsub_nil))) (tt_readLine_93 hd LF v0 5 1 S2 tv0 _ _ E)
  · refine g_icne_f rfl h1 ?_
    refine g_aload rfl rfl ?_
    refine g_getI rfl tv0 ?_
    refine g_push rfl ?_
    rcases xif E with ⟨h2, E⟩ | ⟨h2, E⟩
    · refine g_icne_t rfl h2 ?_
      refine g_push rfl ?_
      refine g_goto rfl ?_
      refine g_istore (L2 := [(1, .inl 2), (0, .inr (some (some v0)))]) rfl rfl ?_
      refine g_iload rfl rfl ?_
      refine g_ifne_f rfl (by decide) ?_
      refine g_aload rfl rfl ?_
      refine g_dup rfl ?_
      refine g_getI rfl tv0 ?_
      refine g_push rfl ?_
      refine g_iadd rfl ?_
      obtain ⟨S3, hS3, E⟩ := ob E
      refine g_putI rfl tv0 hS3 ?_
      refine g_push rfl ?_
      refine g_istore (L2 := [(2, .inl 1), (1, .inl 2), (0, .inr (some (some v0)))]) rfl rfl ?_
      exact g_loc (lsub_cons rfl (lsub_cons rfl (lsub_cons rfl lsub_nil))) (tt_readLine_93 hd LF v0 2 1 S3 tv0 _ _ E)
    · refine g_icne_f rfl h2 ?_
      refine g_aload rfl rfl ?_
      refine g_getI rfl tv0 ?_
      refine g_push rfl ?_
      rcases xif E with ⟨h3, E⟩ | ⟨h3, E⟩
      · refine g_icne_t rfl h3 ?_
        refine g_push rfl ?_
        refine g_goto rfl ?_
        refine g_istore (L2 := [(1, .inl 1), (0, .inr (some (some v0)))]) rfl rfl ?_
        refine g_iload rfl rfl ?_
        refine g_ifne_f rfl (by decide) ?_
        refine g_aload rfl rfl ?_
        refine g_dup rfl ?_
        refine g_getI rfl tv0 ?_
        refine g_push rfl ?_
        refine g_iadd rfl ?_
        obtain ⟨S4, hS4, E⟩ := ob E
        refine g_putI rfl tv0 hS4 ?_
        refine g_push rfl ?_
        refine g_istore (L2 := [(2, .inl 1), (1, .inl 1), (0, .inr (some (some v0)))]) rfl rfl ?_
        exact g_loc (lsub_cons rfl (lsub_cons rfl (lsub_cons rfl lsub_nil))) (tt_readLine_93 hd LF v0 1 1 S4 tv0 _ _ E)
      · refine g_icne_f rfl h3 ?_
        refine g_push rfl ?_
        refine g_istore (L2 := [(1, .inl 0), (0, .inr (some (some v0)))]) rfl rfl ?_
        refine g_iload rfl rfl ?_
        refine g_ifne_t rfl (by decide) ?_
        refine g_push rfl ?_
        obtain ⟨rfl, rfl⟩ := so2 E
        exact g_zret rfl b00
def ft_readLine (v0 : Nat) (S0 : Mem) : Option (Int32 × Mem) := (some (up2 S0 (v0 + 3) 1 0)).bind fun S1 => (ft_isRead v0 S1).bind fun x1 => if x1 = 0 then ((fn_at (v0 + 1) (S1 v0 3) S1).bind fun x2 => ft_readLine_31 v0 x2 v0 S1) else (ft_readLine_31 v0 ((-1)) v0 S1)
set_option maxRecDepth 20000 in
set_option maxHeartbeats 4000000 in
theorem tt_readLine {scr : Nat × (Nat → Int32)} {d : Nat} (hd : 3 ≤ d) (v0 : Nat) (S0 : Mem) (tv0 : Ty 4 v0) (rv : Int32) (SR : Mem) (E : ft_readLine  v0 S0 = some (rv, SR)) : XG scr d 28 0 [(0, .inr (some (some v0)))] [] S0 (some (.inl rv)) SR := by
  unfold ft_readLine at E
  refine g_aload rfl rfl ?_
  refine g_getR rfl tv0 (fR_4_1 tv0) ?_
  refine g_push rfl ?_
  obtain ⟨S1, hS1, E⟩ := ob E
  refine g_putI rfl (fT_4_1 tv0) hS1 ?_
  refine g_aload rfl rfl ?_
  refine g_aload rfl rfl ?_
  obtain ⟨x1, h1, E⟩ := ob E
  refine g_inv0 (dc := 0) rfl (by omega) tv0 (Nat.le_of_ble_eq_true rfl) (fun d hd => tt_isRead hd v0 S1 tv0 _ h1) ?_
  rcases xif E with ⟨h2, E⟩ | ⟨h2, E⟩
  · refine g_ifeq_t rfl h2 ?_
    refine g_aload rfl rfl ?_
    refine g_getR rfl tv0 (fR_4_0 tv0) ?_
    refine g_aload rfl rfl ?_
    refine g_getI rfl tv0 ?_
    obtain ⟨x2, h3, E⟩ := ob E
    refine g_inv1 (dc := 0) rfl (by omega) (fT_4_0 tv0) (Nat.le_of_ble_eq_true rfl) (fun d hd => tn_at hd (v0 + 1) (S1 v0 3) S1 (fT_4_0 tv0) _ h3) ?_
    exact g_loc (lsub_cons rfl lsub_nil) (tt_readLine_31 hd v0 x2 v0 S1 tv0 tv0 _ _ E)
  · refine g_ifeq_f rfl h2 ?_
    refine g_push rfl ?_
    refine g_goto rfl ?_
    exact g_loc (lsub_cons rfl lsub_nil) (tt_readLine_31 hd v0 ((-1)) v0 S1 tv0 tv0 _ _ E)
def ft_faultOfForm_7b (k7 : Nat → Int32 → Mem → Option (Int32 × Mem)) (v0 : Nat) (v1 : Int32) (S0 : Mem) : Option (Int32 × Mem) := if 120 ≤ v1 then (some (S0 v0 3, S0)) else (bd (ft_readLine v0 S0) fun x1 S1 => if x1 = 0 then (some (S1 v0 3, S1)) else ((ft_isRead v0 S1).bind fun x2 => if x2 = 0 then ((fn_at (v0 + 1) (S1 v0 3) S1).bind fun x3 => if x3 = 59 then ((some (up2 S1 v0 3 ((S1 v0 3) + 1))).bind fun S2 => k7 v0 (v1 + 1) S2) else (some (S1 v0 3, S1))) else (some ((-1), S1))))
set_option maxRecDepth 20000 in
set_option maxHeartbeats 4000000 in
theorem tt_faultOfForm_7b {scr : Nat × (Nat → Int32)} {d : Nat} (hd : 4 ≤ d) {k7 : Nat → Int32 → Mem → Option (Int32 × Mem)} (hk7 : ∀ (v0 : Nat) (v1 : Int32) (S0 : Mem), Ty 4 v0 → ∀ (rv : Int32) (SR : Mem), k7 v0 v1 S0 = some (rv, SR) → XG scr d 23 7 [(0, .inr (some (some v0))), (1, .inl v1)] [] S0 (some (.inl rv)) SR) (v0 : Nat) (v1 : Int32) (S0 : Mem) (tv0 : Ty 4 v0) (rv : Int32) (SR : Mem) (E : ft_faultOfForm_7b k7 v0 v1 S0 = some (rv, SR)) : XG scr d 23 7 [(0, .inr (some (some v0))), (1, .inl v1)] [] S0 (some (.inl rv)) SR := by
  unfold ft_faultOfForm_7b at E
  refine g_iload rfl rfl ?_
  refine g_push rfl ?_
  rcases xif E with ⟨h1, E⟩ | ⟨h1, E⟩
  · refine g_icge_t rfl h1 ?_
    refine g_aload rfl rfl ?_
    refine g_getI rfl tv0 ?_
    obtain ⟨rfl, rfl⟩ := so2 E
    exact g_iret rfl
  · refine g_icge_f rfl h1 ?_
    refine g_aload rfl rfl ?_
    obtain ⟨x1, S1, h2, E⟩ := ob2 E
    refine g_inv0 (dc := 3) rfl (by omega) tv0 (Nat.le_of_ble_eq_true rfl) (fun d hd => tt_readLine hd v0 S0 tv0 _ _ h2) ?_
    rcases xif E with ⟨h3, E⟩ | ⟨h3, E⟩
    · refine g_ifne_t rfl h3 ?_
      refine g_aload rfl rfl ?_
      refine g_getI rfl tv0 ?_
      obtain ⟨rfl, rfl⟩ := so2 E
      exact g_iret rfl
    · refine g_ifne_f rfl h3 ?_
      refine g_aload rfl rfl ?_
      obtain ⟨x2, h4, E⟩ := ob E
      refine g_inv0 (dc := 0) rfl (by omega) tv0 (Nat.le_of_ble_eq_true rfl) (fun d hd => tt_isRead hd v0 S1 tv0 _ h4) ?_
      rcases xif E with ⟨h5, E⟩ | ⟨h5, E⟩
      · refine g_ifeq_t rfl h5 ?_
        refine g_aload rfl rfl ?_
        refine g_getR rfl tv0 (fR_4_0 tv0) ?_
        refine g_aload rfl rfl ?_
        refine g_getI rfl tv0 ?_
        obtain ⟨x3, h6, E⟩ := ob E
        refine g_inv1 (dc := 0) rfl (by omega) (fT_4_0 tv0) (Nat.le_of_ble_eq_true rfl) (fun d hd => tn_at hd (v0 + 1) (S1 v0 3) S1 (fT_4_0 tv0) _ h6) ?_
        refine g_push rfl ?_
        rcases xif E with ⟨h7, E⟩ | ⟨h7, E⟩
        · refine g_iceq_t rfl h7 ?_
          refine g_aload rfl rfl ?_
          refine g_dup rfl ?_
          refine g_getI rfl tv0 ?_
          refine g_push rfl ?_
          refine g_iadd rfl ?_
          obtain ⟨S2, hS2, E⟩ := ob E
          refine g_putI rfl tv0 hS2 ?_
          refine g_iinc (L2 := [(1, .inl (v1 + 1)), (0, .inr (some (some v0)))]) rfl rfl rfl ?_
          refine g_goto rfl ?_
          exact g_loc (lsub_cons rfl (lsub_cons rfl lsub_nil)) (hk7 v0 (v1 + 1) S2 tv0 _ _ E)
        · refine g_iceq_f rfl h7 ?_
          refine g_aload rfl rfl ?_
          refine g_getI rfl tv0 ?_
          obtain ⟨rfl, rfl⟩ := so2 E
          exact g_iret rfl
      · refine g_ifeq_f rfl h5 ?_
        refine g_push rfl ?_
        obtain ⟨rfl, rfl⟩ := so2 E
        exact g_iret rfl
def ft_faultOfForm_7  : Nat → Nat → Int32 → Mem → Option (Int32 × Mem)
  | 0 => fun _ _ _ => none
  | n + 1 => ft_faultOfForm_7b  (ft_faultOfForm_7  n)
set_option maxRecDepth 20000 in
set_option maxHeartbeats 4000000 in
theorem tt_faultOfForm_7 {scr : Nat × (Nat → Int32)} {d : Nat} (hd : 4 ≤ d)  : ∀ (n : Nat) (v0 : Nat) (v1 : Int32) (S0 : Mem), Ty 4 v0 → ∀ (rv : Int32) (SR : Mem), ft_faultOfForm_7  n v0 v1 S0 = some (rv, SR) → XG scr d 23 7 [(0, .inr (some (some v0))), (1, .inl v1)] [] S0 (some (.inl rv)) SR
  | 0, v0, v1, S0, tv0, rv, SR, E => nn E
  | n + 1, v0, v1, S0, tv0, rv, SR, E => tt_faultOfForm_7b hd  (tt_faultOfForm_7 hd  n) v0 v1 S0 tv0 rv SR E
def ft_faultOfForm (v0 : Nat) (S0 : Mem) : Option (Int32 × Mem) := (some (up2 S0 v0 3 0)).bind fun S1 => ft_faultOfForm_7 LF v0 0 S1
set_option maxRecDepth 20000 in
set_option maxHeartbeats 4000000 in
theorem tt_faultOfForm {scr : Nat × (Nat → Int32)} {d : Nat} (hd : 4 ≤ d) (v0 : Nat) (S0 : Mem) (tv0 : Ty 4 v0) (rv : Int32) (SR : Mem) (E : ft_faultOfForm  v0 S0 = some (rv, SR)) : XG scr d 23 0 [(0, .inr (some (some v0)))] [] S0 (some (.inl rv)) SR := by
  unfold ft_faultOfForm at E
  refine g_aload rfl rfl ?_
  refine g_push rfl ?_
  obtain ⟨S1, hS1, E⟩ := ob E
  refine g_putI rfl tv0 hS1 ?_
  refine g_push rfl ?_
  refine g_istore (L2 := [(1, .inl 0), (0, .inr (some (some v0)))]) rfl rfl ?_
  exact g_loc (lsub_cons rfl (lsub_cons rfl lsub_nil)) (tt_faultOfForm_7 hd LF v0 0 S1 tv0 _ _ E)
def fc_copyFrom (v0 : Nat) (v1 : Nat) (S0 : Mem) : Option Mem := (some (up2 S0 v0 3 (imx 0 (imn (S0 v1 3) 10)))).bind fun S1 => (acp S1 (v1 + 1) 0 (v0 + 1) 0 (S1 v0 3)).bind fun S2 => (acp S2 (v1 + 2) 0 (v0 + 2) 0 (S2 v0 3)).bind fun S3 => (acp S3 (v1 + 3) 0 (v0 + 3) 0 (S3 v0 3)).bind fun S4 => some S4
set_option maxRecDepth 20000 in
set_option maxHeartbeats 4000000 in
theorem tc_copyFrom {scr : Nat × (Nat → Int32)} {d : Nat} (hd : 0 ≤ d) (v0 : Nat) (v1 : Nat) (S0 : Mem) (tv0 : Ty 5 v0) (tv1 : Ty 5 v1) (SR : Mem) (E : fc_copyFrom  v0 v1 S0 = some SR) : XG scr d 30 0 [(0, .inr (some (some v0))), (1, .inr (some (some v1)))] [] S0 none SR := by
  unfold fc_copyFrom at E
  refine g_aload rfl rfl ?_
  refine g_push rfl ?_
  refine g_aload rfl rfl ?_
  refine g_getI rfl tv1 ?_
  refine g_push rfl ?_
  refine g_mmin rfl (Nat.le_of_ble_eq_true rfl) ?_
  refine g_mmax rfl (Nat.le_of_ble_eq_true rfl) ?_
  obtain ⟨S1, hS1, E⟩ := ob E
  refine g_putI rfl tv0 hS1 ?_
  refine g_aload rfl rfl ?_
  refine g_getR rfl tv1 (fR_5_0 tv1) ?_
  refine g_push rfl ?_
  refine g_aload rfl rfl ?_
  refine g_getR rfl tv0 (fR_5_0 tv0) ?_
  refine g_push rfl ?_
  refine g_aload rfl rfl ?_
  refine g_getI rfl tv0 ?_
  obtain ⟨S2, h1, E⟩ := ob E
  refine g_copy rfl (fT_5_0 tv1) (fT_5_0 tv0) (Nat.le_of_ble_eq_true rfl) h1 ?_
  refine g_aload rfl rfl ?_
  refine g_getR rfl tv1 (fR_5_1 tv1) ?_
  refine g_push rfl ?_
  refine g_aload rfl rfl ?_
  refine g_getR rfl tv0 (fR_5_1 tv0) ?_
  refine g_push rfl ?_
  refine g_aload rfl rfl ?_
  refine g_getI rfl tv0 ?_
  obtain ⟨S3, h2, E⟩ := ob E
  refine g_copy rfl (fT_5_1 tv1) (fT_5_1 tv0) (Nat.le_of_ble_eq_true rfl) h2 ?_
  refine g_aload rfl rfl ?_
  refine g_getR rfl tv1 (fR_5_2 tv1) ?_
  refine g_push rfl ?_
  refine g_aload rfl rfl ?_
  refine g_getR rfl tv0 (fR_5_2 tv0) ?_
  refine g_push rfl ?_
  refine g_aload rfl rfl ?_
  refine g_getI rfl tv0 ?_
  obtain ⟨S4, h3, E⟩ := ob E
  refine g_copy rfl (fT_5_2 tv1) (fT_5_2 tv0) (Nat.le_of_ble_eq_true rfl) h3 ?_
  obtain rfl := so1 E
  exact g_ret rfl
def fc_countOf_4b (k4 : Nat → Int32 → Int32 → Int32 → Mem → Option Int32) (v0 : Nat) (v1 : Int32) (v2 : Int32) (v3 : Int32) (S0 : Mem) : Option Int32 := if (S0 v0 3) ≤ v3 then (some v2) else (if 10 ≤ v3 then (some v2) else ((ald S0 (v0 + 1) v3).bind fun x1 => if x1 = v1 then (k4 v0 v1 (v2 + 1) (v3 + 1) S0) else (k4 v0 v1 (v2 + 0) (v3 + 1) S0)))
set_option maxRecDepth 20000 in
set_option maxHeartbeats 4000000 in
theorem tc_countOf_4b {scr : Nat × (Nat → Int32)} {d : Nat} (hd : 0 ≤ d) {k4 : Nat → Int32 → Int32 → Int32 → Mem → Option Int32} (hk4 : ∀ (v0 : Nat) (v1 : Int32) (v2 : Int32) (v3 : Int32) (S0 : Mem), Ty 5 v0 → ∀ (rv : Int32), k4 v0 v1 v2 v3 S0 = some rv → XG scr d 31 4 [(0, .inr (some (some v0))), (1, .inl v1), (2, .inl v2), (3, .inl v3)] [] S0 (some (.inl rv)) S0) (v0 : Nat) (v1 : Int32) (v2 : Int32) (v3 : Int32) (S0 : Mem) (tv0 : Ty 5 v0) (rv : Int32) (E : fc_countOf_4b k4 v0 v1 v2 v3 S0 = some rv) : XG scr d 31 4 [(0, .inr (some (some v0))), (1, .inl v1), (2, .inl v2), (3, .inl v3)] [] S0 (some (.inl rv)) S0 := by
  unfold fc_countOf_4b at E
  refine g_iload rfl rfl ?_
  refine g_aload rfl rfl ?_
  refine g_getI rfl tv0 ?_
  rcases xif E with ⟨h1, E⟩ | ⟨h1, E⟩
  · refine g_icge_t rfl h1 ?_
    refine g_iload rfl rfl ?_
    obtain rfl := so1 E
    exact g_iret rfl
  · refine g_icge_f rfl h1 ?_
    refine g_iload rfl rfl ?_
    refine g_push rfl ?_
    rcases xif E with ⟨h2, E⟩ | ⟨h2, E⟩
    · refine g_icge_t rfl h2 ?_
      refine g_iload rfl rfl ?_
      obtain rfl := so1 E
      exact g_iret rfl
    · refine g_icge_f rfl h2 ?_
      refine g_iload rfl rfl ?_
      refine g_aload rfl rfl ?_
      refine g_getR rfl tv0 (fR_5_0 tv0) ?_
      refine g_iload rfl rfl ?_
      obtain ⟨x1, h3, E⟩ := ob E
      refine g_iald rfl (fT_5_0 tv0) h3 ?_
      refine g_iload rfl rfl ?_
      rcases xif E with ⟨h4, E⟩ | ⟨h4, E⟩
      · refine g_icne_t rfl h4 ?_
        refine g_push rfl ?_
        refine g_goto rfl ?_
        refine g_iadd rfl ?_
        refine g_istore (L2 := [(2, .inl (v2 + 1)), (0, .inr (some (some v0))), (1, .inl v1), (3, .inl v3)]) rfl rfl ?_
        refine g_iinc (L2 := [(3, .inl (v3 + 1)), (2, .inl (v2 + 1)), (0, .inr (some (some v0))), (1, .inl v1)]) rfl rfl rfl ?_
        refine g_goto rfl ?_
        exact g_loc (lsub_cons rfl (lsub_cons rfl (lsub_cons rfl (lsub_cons rfl lsub_nil)))) (hk4 v0 v1 (v2 + 1) (v3 + 1) S0 tv0 _ E)
      · refine g_icne_f rfl h4 ?_
        refine g_push rfl ?_
        refine g_iadd rfl ?_
        refine g_istore (L2 := [(2, .inl (v2 + 0)), (0, .inr (some (some v0))), (1, .inl v1), (3, .inl v3)]) rfl rfl ?_
        refine g_iinc (L2 := [(3, .inl (v3 + 1)), (2, .inl (v2 + 0)), (0, .inr (some (some v0))), (1, .inl v1)]) rfl rfl rfl ?_
        refine g_goto rfl ?_
        exact g_loc (lsub_cons rfl (lsub_cons rfl (lsub_cons rfl (lsub_cons rfl lsub_nil)))) (hk4 v0 v1 (v2 + 0) (v3 + 1) S0 tv0 _ E)
def fc_countOf_4  : Nat → Nat → Int32 → Int32 → Int32 → Mem → Option Int32
  | 0 => fun _ _ _ _ _ => none
  | n + 1 => fc_countOf_4b  (fc_countOf_4  n)
set_option maxRecDepth 20000 in
set_option maxHeartbeats 4000000 in
theorem tc_countOf_4 {scr : Nat × (Nat → Int32)} {d : Nat} (hd : 0 ≤ d)  : ∀ (n : Nat) (v0 : Nat) (v1 : Int32) (v2 : Int32) (v3 : Int32) (S0 : Mem), Ty 5 v0 → ∀ (rv : Int32), fc_countOf_4  n v0 v1 v2 v3 S0 = some rv → XG scr d 31 4 [(0, .inr (some (some v0))), (1, .inl v1), (2, .inl v2), (3, .inl v3)] [] S0 (some (.inl rv)) S0
  | 0, v0, v1, v2, v3, S0, tv0, rv, E => nn E
  | n + 1, v0, v1, v2, v3, S0, tv0, rv, E => tc_countOf_4b hd  (tc_countOf_4 hd  n) v0 v1 v2 v3 S0 tv0 rv E
def fc_countOf (v0 : Nat) (v1 : Int32) (S0 : Mem) : Option Int32 := fc_countOf_4 LF v0 v1 0 0 S0
set_option maxRecDepth 20000 in
set_option maxHeartbeats 4000000 in
theorem tc_countOf {scr : Nat × (Nat → Int32)} {d : Nat} (hd : 0 ≤ d) (v0 : Nat) (v1 : Int32) (S0 : Mem) (tv0 : Ty 5 v0) (rv : Int32) (E : fc_countOf  v0 v1 S0 = some rv) : XG scr d 31 0 [(0, .inr (some (some v0))), (1, .inl v1)] [] S0 (some (.inl rv)) S0 := by
  unfold fc_countOf at E
  refine g_push rfl ?_
  refine g_istore (L2 := [(2, .inl 0), (0, .inr (some (some v0))), (1, .inl v1)]) rfl rfl ?_
  refine g_push rfl ?_
  refine g_istore (L2 := [(3, .inl 0), (2, .inl 0), (0, .inr (some (some v0))), (1, .inl v1)]) rfl rfl ?_
  exact g_loc (lsub_cons rfl (lsub_cons rfl (lsub_cons rfl (lsub_cons rfl lsub_nil)))) (tc_countOf_4 hd LF v0 v1 0 0 S0 tv0 _ E)
def fc_dueAt (v0 : Nat) (v1 : Int32) (S0 : Mem) : Option Int32 := if v1 < 0 then (some 0) else (if (Int32.ofNat (ln (v0 + 2))) ≤ v1 then (some 0) else ((ald S0 (v0 + 2) v1).bind fun x1 => some x1))
set_option maxRecDepth 20000 in
set_option maxHeartbeats 4000000 in
theorem tc_dueAt {scr : Nat × (Nat → Int32)} {d : Nat} (hd : 0 ≤ d) (v0 : Nat) (v1 : Int32) (S0 : Mem) (tv0 : Ty 5 v0) (rv : Int32) (E : fc_dueAt  v0 v1 S0 = some rv) : XG scr d 32 0 [(0, .inr (some (some v0))), (1, .inl v1)] [] S0 (some (.inl rv)) S0 := by
  unfold fc_dueAt at E
  refine g_iload rfl rfl ?_
  rcases xif E with ⟨h1, E⟩ | ⟨h1, E⟩
  · refine g_iflt_t rfl h1 ?_
    refine g_push rfl ?_
    obtain rfl := so1 E
    exact g_iret rfl
  · refine g_iflt_f rfl h1 ?_
    refine g_iload rfl rfl ?_
    refine g_aload rfl rfl ?_
    refine g_getR rfl tv0 (fR_5_1 tv0) ?_
    refine g_len rfl (fT_5_1 tv0) ?_
    rcases xif E with ⟨h2, E⟩ | ⟨h2, E⟩
    · refine g_icge_t rfl h2 ?_
      refine g_push rfl ?_
      obtain rfl := so1 E
      exact g_iret rfl
    · refine g_icge_f rfl h2 ?_
      refine g_aload rfl rfl ?_
      refine g_getR rfl tv0 (fR_5_1 tv0) ?_
      refine g_iload rfl rfl ?_
      obtain ⟨x1, h3, E⟩ := ob E
      refine g_iald rfl (fT_5_1 tv0) h3 ?_
      refine g_goto rfl ?_
      obtain rfl := so1 E
      exact g_iret rfl
def fc_move (v0 : Nat) (v1 : Int32) (v2 : Int32) (S0 : Mem) : Option Mem := if v1 < 0 then (some S0) else (if 10 ≤ v1 then (some S0) else (if v2 < 0 then (some S0) else (if 10 ≤ v2 then (some S0) else ((ald S0 (v0 + 1) v1).bind fun x1 => (ast S0 (v0 + 1) v2 x1).bind fun S1 => (ald S1 (v0 + 2) v1).bind fun x2 => (ast S1 (v0 + 2) v2 x2).bind fun S2 => (ald S2 (v0 + 3) v1).bind fun x3 => (ast S2 (v0 + 3) v2 x3).bind fun S3 => some S3))))
set_option maxRecDepth 20000 in
set_option maxHeartbeats 4000000 in
theorem tc_move {scr : Nat × (Nat → Int32)} {d : Nat} (hd : 0 ≤ d) (v0 : Nat) (v1 : Int32) (v2 : Int32) (S0 : Mem) (tv0 : Ty 5 v0) (SR : Mem) (E : fc_move  v0 v1 v2 S0 = some SR) : XG scr d 34 0 [(0, .inr (some (some v0))), (1, .inl v1), (2, .inl v2)] [] S0 none SR := by
  unfold fc_move at E
  refine g_iload rfl rfl ?_
  rcases xif E with ⟨h1, E⟩ | ⟨h1, E⟩
  · refine g_iflt_t rfl h1 ?_
    obtain rfl := so1 E
    exact g_ret rfl
  · refine g_iflt_f rfl h1 ?_
    refine g_iload rfl rfl ?_
    refine g_push rfl ?_
    rcases xif E with ⟨h2, E⟩ | ⟨h2, E⟩
    · refine g_icge_t rfl h2 ?_
      obtain rfl := so1 E
      exact g_ret rfl
    · refine g_icge_f rfl h2 ?_
      refine g_iload rfl rfl ?_
      rcases xif E with ⟨h3, E⟩ | ⟨h3, E⟩
      · refine g_iflt_t rfl h3 ?_
        obtain rfl := so1 E
        exact g_ret rfl
      · refine g_iflt_f rfl h3 ?_
        refine g_iload rfl rfl ?_
        refine g_push rfl ?_
        rcases xif E with ⟨h4, E⟩ | ⟨h4, E⟩
        · refine g_icge_t rfl h4 ?_
          obtain rfl := so1 E
          exact g_ret rfl
        · refine g_icge_f rfl h4 ?_
          refine g_aload rfl rfl ?_
          refine g_getR rfl tv0 (fR_5_0 tv0) ?_
          refine g_iload rfl rfl ?_
          refine g_aload rfl rfl ?_
          refine g_getR rfl tv0 (fR_5_0 tv0) ?_
          refine g_iload rfl rfl ?_
          obtain ⟨x1, h5, E⟩ := ob E
          refine g_iald rfl (fT_5_0 tv0) h5 ?_
          obtain ⟨S1, h6, E⟩ := ob E
          refine g_iast rfl (fT_5_0 tv0) h6 ?_
          refine g_aload rfl rfl ?_
          refine g_getR rfl tv0 (fR_5_1 tv0) ?_
          refine g_iload rfl rfl ?_
          refine g_aload rfl rfl ?_
          refine g_getR rfl tv0 (fR_5_1 tv0) ?_
          refine g_iload rfl rfl ?_
          obtain ⟨x2, h7, E⟩ := ob E
          refine g_iald rfl (fT_5_1 tv0) h7 ?_
          obtain ⟨S2, h8, E⟩ := ob E
          refine g_iast rfl (fT_5_1 tv0) h8 ?_
          refine g_aload rfl rfl ?_
          refine g_getR rfl tv0 (fR_5_2 tv0) ?_
          refine g_iload rfl rfl ?_
          refine g_aload rfl rfl ?_
          refine g_getR rfl tv0 (fR_5_2 tv0) ?_
          refine g_iload rfl rfl ?_
          obtain ⟨x3, h9, E⟩ := ob E
          refine g_iald rfl (fT_5_2 tv0) h9 ?_
          obtain ⟨S3, h10, E⟩ := ob E
          refine g_iast rfl (fT_5_2 tv0) h10 ?_
          obtain rfl := so1 E
          exact g_ret rfl
def fc_numberAt (v0 : Nat) (v1 : Int32) (S0 : Mem) : Option Int32 := if v1 < 0 then (some 0) else (if (Int32.ofNat (ln (v0 + 3))) ≤ v1 then (some 0) else ((ald S0 (v0 + 3) v1).bind fun x1 => some x1))
set_option maxRecDepth 20000 in
set_option maxHeartbeats 4000000 in
theorem tc_numberAt {scr : Nat × (Nat → Int32)} {d : Nat} (hd : 0 ≤ d) (v0 : Nat) (v1 : Int32) (S0 : Mem) (tv0 : Ty 5 v0) (rv : Int32) (E : fc_numberAt  v0 v1 S0 = some rv) : XG scr d 35 0 [(0, .inr (some (some v0))), (1, .inl v1)] [] S0 (some (.inl rv)) S0 := by
  unfold fc_numberAt at E
  refine g_iload rfl rfl ?_
  rcases xif E with ⟨h1, E⟩ | ⟨h1, E⟩
  · refine g_iflt_t rfl h1 ?_
    refine g_push rfl ?_
    obtain rfl := so1 E
    exact g_iret rfl
  · refine g_iflt_f rfl h1 ?_
    refine g_iload rfl rfl ?_
    refine g_aload rfl rfl ?_
    refine g_getR rfl tv0 (fR_5_2 tv0) ?_
    refine g_len rfl (fT_5_2 tv0) ?_
    rcases xif E with ⟨h2, E⟩ | ⟨h2, E⟩
    · refine g_icge_t rfl h2 ?_
      refine g_push rfl ?_
      obtain rfl := so1 E
      exact g_iret rfl
    · refine g_icge_f rfl h2 ?_
      refine g_aload rfl rfl ?_
      refine g_getR rfl tv0 (fR_5_2 tv0) ?_
      refine g_iload rfl rfl ?_
      obtain ⟨x1, h3, E⟩ := ob E
      refine g_iald rfl (fT_5_2 tv0) h3 ?_
      refine g_goto rfl ?_
      obtain rfl := so1 E
      exact g_iret rfl
def fc_ownerAt (v0 : Nat) (v1 : Int32) (S0 : Mem) : Option Int32 := if v1 < 0 then (some ((-1))) else (if (Int32.ofNat (ln (v0 + 1))) ≤ v1 then (some ((-1))) else ((ald S0 (v0 + 1) v1).bind fun x1 => some x1))
set_option maxRecDepth 20000 in
set_option maxHeartbeats 4000000 in
theorem tc_ownerAt {scr : Nat × (Nat → Int32)} {d : Nat} (hd : 0 ≤ d) (v0 : Nat) (v1 : Int32) (S0 : Mem) (tv0 : Ty 5 v0) (rv : Int32) (E : fc_ownerAt  v0 v1 S0 = some rv) : XG scr d 36 0 [(0, .inr (some (some v0))), (1, .inl v1)] [] S0 (some (.inl rv)) S0 := by
  unfold fc_ownerAt at E
  refine g_iload rfl rfl ?_
  rcases xif E with ⟨h1, E⟩ | ⟨h1, E⟩
  · refine g_iflt_t rfl h1 ?_
    refine g_push rfl ?_
    obtain rfl := so1 E
    exact g_iret rfl
  · refine g_iflt_f rfl h1 ?_
    refine g_iload rfl rfl ?_
    refine g_aload rfl rfl ?_
    refine g_getR rfl tv0 (fR_5_0 tv0) ?_
    refine g_len rfl (fT_5_0 tv0) ?_
    rcases xif E with ⟨h2, E⟩ | ⟨h2, E⟩
    · refine g_icge_t rfl h2 ?_
      refine g_push rfl ?_
      obtain rfl := so1 E
      exact g_iret rfl
    · refine g_icge_f rfl h2 ?_
      refine g_aload rfl rfl ?_
      refine g_getR rfl tv0 (fR_5_0 tv0) ?_
      refine g_iload rfl rfl ?_
      obtain ⟨x1, h3, E⟩ := ob E
      refine g_iald rfl (fT_5_0 tv0) h3 ?_
      refine g_goto rfl ?_
      obtain rfl := so1 E
      exact g_iret rfl
def fc_removeFirst_9b (k9 : Nat → Int32 → Mem → Option Mem) (v0 : Nat) (v1 : Int32) (S0 : Mem) : Option Mem := if (S0 v0 3) ≤ v1 then ((some (up2 S0 v0 3 ((S0 v0 3) - 1))).bind fun S1 => some S1) else ((fc_move v0 v1 (v1 - 1) S0).bind fun S2 => k9 v0 (v1 + 1) S2)
set_option maxRecDepth 20000 in
set_option maxHeartbeats 4000000 in
theorem tc_removeFirst_9b {scr : Nat × (Nat → Int32)} {d : Nat} (hd : 1 ≤ d) {k9 : Nat → Int32 → Mem → Option Mem} (hk9 : ∀ (v0 : Nat) (v1 : Int32) (S0 : Mem), Ty 5 v0 → ∀ (SR : Mem), k9 v0 v1 S0 = some SR → XG scr d 37 9 [(0, .inr (some (some v0))), (1, .inl v1)] [] S0 none SR) (v0 : Nat) (v1 : Int32) (S0 : Mem) (tv0 : Ty 5 v0) (SR : Mem) (E : fc_removeFirst_9b k9 v0 v1 S0 = some SR) : XG scr d 37 9 [(0, .inr (some (some v0))), (1, .inl v1)] [] S0 none SR := by
  unfold fc_removeFirst_9b at E
  refine g_iload rfl rfl ?_
  refine g_aload rfl rfl ?_
  refine g_getI rfl tv0 ?_
  rcases xif E with ⟨h1, E⟩ | ⟨h1, E⟩
  · refine g_icge_t rfl h1 ?_
    refine g_aload rfl rfl ?_
    refine g_dup rfl ?_
    refine g_getI rfl tv0 ?_
    refine g_push rfl ?_
    refine g_isub rfl ?_
    obtain ⟨S1, hS1, E⟩ := ob E
    refine g_putI rfl tv0 hS1 ?_
    obtain rfl := so1 E
    exact g_ret rfl
  · refine g_icge_f rfl h1 ?_
    refine g_aload rfl rfl ?_
    refine g_iload rfl rfl ?_
    refine g_iload rfl rfl ?_
    refine g_push rfl ?_
    refine g_isub rfl ?_
    obtain ⟨S2, h2, E⟩ := ob E
    refine g_inv2 (dc := 0) rfl (by omega) tv0 (Nat.le_of_ble_eq_true rfl) (fun d hd => tc_move hd v0 v1 (v1 - 1) S0 tv0 _ h2) ?_
    refine g_iinc (L2 := [(1, .inl (v1 + 1)), (0, .inr (some (some v0)))]) rfl rfl rfl ?_
    refine g_goto rfl ?_
    exact g_loc (lsub_cons rfl (lsub_cons rfl lsub_nil)) (hk9 v0 (v1 + 1) S2 tv0 _ E)
def fc_removeFirst_9  : Nat → Nat → Int32 → Mem → Option Mem
  | 0 => fun _ _ _ => none
  | n + 1 => fc_removeFirst_9b  (fc_removeFirst_9  n)
set_option maxRecDepth 20000 in
set_option maxHeartbeats 4000000 in
theorem tc_removeFirst_9 {scr : Nat × (Nat → Int32)} {d : Nat} (hd : 1 ≤ d)  : ∀ (n : Nat) (v0 : Nat) (v1 : Int32) (S0 : Mem), Ty 5 v0 → ∀ (SR : Mem), fc_removeFirst_9  n v0 v1 S0 = some SR → XG scr d 37 9 [(0, .inr (some (some v0))), (1, .inl v1)] [] S0 none SR
  | 0, v0, v1, S0, tv0, SR, E => nn E
  | n + 1, v0, v1, S0, tv0, SR, E => tc_removeFirst_9b hd  (tc_removeFirst_9 hd  n) v0 v1 S0 tv0 SR E
def fc_removeFirst (v0 : Nat) (S0 : Mem) : Option Mem := if (S0 v0 3) ≤ 0 then (some S0) else (fc_removeFirst_9 LF v0 1 S0)
set_option maxRecDepth 20000 in
set_option maxHeartbeats 4000000 in
theorem tc_removeFirst {scr : Nat × (Nat → Int32)} {d : Nat} (hd : 1 ≤ d) (v0 : Nat) (S0 : Mem) (tv0 : Ty 5 v0) (SR : Mem) (E : fc_removeFirst  v0 S0 = some SR) : XG scr d 37 0 [(0, .inr (some (some v0)))] [] S0 none SR := by
  unfold fc_removeFirst at E
  refine g_aload rfl rfl ?_
  refine g_getI rfl tv0 ?_
  rcases xif E with ⟨h1, E⟩ | ⟨h1, E⟩
  · refine g_ifle_t rfl h1 ?_
    obtain rfl := so1 E
    exact g_ret rfl
  · refine g_ifle_f rfl h1 ?_
    refine g_push rfl ?_
    refine g_istore (L2 := [(1, .inl 1), (0, .inr (some (some v0)))]) rfl rfl ?_
    exact g_loc (lsub_cons rfl (lsub_cons rfl lsub_nil)) (tc_removeFirst_9 hd LF v0 1 S0 tv0 _ E)
def fc_removeOf_4b (k4 : Nat → Int32 → Int32 → Int32 → Mem → Option Mem) (v0 : Nat) (v1 : Int32) (v2 : Int32) (v3 : Int32) (S0 : Mem) : Option Mem := if (S0 v0 3) ≤ v3 then ((some (up2 S0 v0 3 v2)).bind fun S1 => some S1) else (if 10 ≤ v3 then ((some (up2 S0 v0 3 v2)).bind fun S2 => some S2) else ((ald S0 (v0 + 1) v3).bind fun x1 => if x1 = v1 then (k4 v0 v1 v2 (v3 + 1) S0) else ((fc_move v0 v3 v2 S0).bind fun S3 => k4 v0 v1 (v2 + 1) (v3 + 1) S3)))
set_option maxRecDepth 20000 in
set_option maxHeartbeats 4000000 in
theorem tc_removeOf_4b {scr : Nat × (Nat → Int32)} {d : Nat} (hd : 1 ≤ d) {k4 : Nat → Int32 → Int32 → Int32 → Mem → Option Mem} (hk4 : ∀ (v0 : Nat) (v1 : Int32) (v2 : Int32) (v3 : Int32) (S0 : Mem), Ty 5 v0 → ∀ (SR : Mem), k4 v0 v1 v2 v3 S0 = some SR → XG scr d 38 4 [(0, .inr (some (some v0))), (1, .inl v1), (2, .inl v2), (3, .inl v3)] [] S0 none SR) (v0 : Nat) (v1 : Int32) (v2 : Int32) (v3 : Int32) (S0 : Mem) (tv0 : Ty 5 v0) (SR : Mem) (E : fc_removeOf_4b k4 v0 v1 v2 v3 S0 = some SR) : XG scr d 38 4 [(0, .inr (some (some v0))), (1, .inl v1), (2, .inl v2), (3, .inl v3)] [] S0 none SR := by
  unfold fc_removeOf_4b at E
  refine g_iload rfl rfl ?_
  refine g_aload rfl rfl ?_
  refine g_getI rfl tv0 ?_
  rcases xif E with ⟨h1, E⟩ | ⟨h1, E⟩
  · refine g_icge_t rfl h1 ?_
    refine g_aload rfl rfl ?_
    refine g_iload rfl rfl ?_
    obtain ⟨S1, hS1, E⟩ := ob E
    refine g_putI rfl tv0 hS1 ?_
    obtain rfl := so1 E
    exact g_ret rfl
  · refine g_icge_f rfl h1 ?_
    refine g_iload rfl rfl ?_
    refine g_push rfl ?_
    rcases xif E with ⟨h2, E⟩ | ⟨h2, E⟩
    · refine g_icge_t rfl h2 ?_
      refine g_aload rfl rfl ?_
      refine g_iload rfl rfl ?_
      obtain ⟨S2, hS2, E⟩ := ob E
      refine g_putI rfl tv0 hS2 ?_
      obtain rfl := so1 E
      exact g_ret rfl
    · refine g_icge_f rfl h2 ?_
      refine g_aload rfl rfl ?_
      refine g_getR rfl tv0 (fR_5_0 tv0) ?_
      refine g_iload rfl rfl ?_
      obtain ⟨x1, h3, E⟩ := ob E
      refine g_iald rfl (fT_5_0 tv0) h3 ?_
      refine g_iload rfl rfl ?_
      rcases xif E with ⟨h4, E⟩ | ⟨h4, E⟩
      · refine g_iceq_t rfl h4 ?_
        refine g_iinc (L2 := [(3, .inl (v3 + 1)), (0, .inr (some (some v0))), (1, .inl v1), (2, .inl v2)]) rfl rfl rfl ?_
        refine g_goto rfl ?_
        exact g_loc (lsub_cons rfl (lsub_cons rfl (lsub_cons rfl (lsub_cons rfl lsub_nil)))) (hk4 v0 v1 v2 (v3 + 1) S0 tv0 _ E)
      · refine g_iceq_f rfl h4 ?_
        refine g_aload rfl rfl ?_
        refine g_iload rfl rfl ?_
        refine g_iload rfl rfl ?_
        obtain ⟨S3, h5, E⟩ := ob E
        refine g_inv2 (dc := 0) rfl (by omega) tv0 (Nat.le_of_ble_eq_true rfl) (fun d hd => tc_move hd v0 v3 v2 S0 tv0 _ h5) ?_
        refine g_iinc (L2 := [(2, .inl (v2 + 1)), (0, .inr (some (some v0))), (1, .inl v1), (3, .inl v3)]) rfl rfl rfl ?_
        refine g_iinc (L2 := [(3, .inl (v3 + 1)), (2, .inl (v2 + 1)), (0, .inr (some (some v0))), (1, .inl v1)]) rfl rfl rfl ?_
        refine g_goto rfl ?_
        exact g_loc (lsub_cons rfl (lsub_cons rfl (lsub_cons rfl (lsub_cons rfl lsub_nil)))) (hk4 v0 v1 (v2 + 1) (v3 + 1) S3 tv0 _ E)
def fc_removeOf_4  : Nat → Nat → Int32 → Int32 → Int32 → Mem → Option Mem
  | 0 => fun _ _ _ _ _ => none
  | n + 1 => fc_removeOf_4b  (fc_removeOf_4  n)
set_option maxRecDepth 20000 in
set_option maxHeartbeats 4000000 in
theorem tc_removeOf_4 {scr : Nat × (Nat → Int32)} {d : Nat} (hd : 1 ≤ d)  : ∀ (n : Nat) (v0 : Nat) (v1 : Int32) (v2 : Int32) (v3 : Int32) (S0 : Mem), Ty 5 v0 → ∀ (SR : Mem), fc_removeOf_4  n v0 v1 v2 v3 S0 = some SR → XG scr d 38 4 [(0, .inr (some (some v0))), (1, .inl v1), (2, .inl v2), (3, .inl v3)] [] S0 none SR
  | 0, v0, v1, v2, v3, S0, tv0, SR, E => nn E
  | n + 1, v0, v1, v2, v3, S0, tv0, SR, E => tc_removeOf_4b hd  (tc_removeOf_4 hd  n) v0 v1 v2 v3 S0 tv0 SR E
def fc_removeOf (v0 : Nat) (v1 : Int32) (S0 : Mem) : Option Mem := fc_removeOf_4 LF v0 v1 0 0 S0
set_option maxRecDepth 20000 in
set_option maxHeartbeats 4000000 in
theorem tc_removeOf {scr : Nat × (Nat → Int32)} {d : Nat} (hd : 1 ≤ d) (v0 : Nat) (v1 : Int32) (S0 : Mem) (tv0 : Ty 5 v0) (SR : Mem) (E : fc_removeOf  v0 v1 S0 = some SR) : XG scr d 38 0 [(0, .inr (some (some v0))), (1, .inl v1)] [] S0 none SR := by
  unfold fc_removeOf at E
  refine g_push rfl ?_
  refine g_istore (L2 := [(2, .inl 0), (0, .inr (some (some v0))), (1, .inl v1)]) rfl rfl ?_
  refine g_push rfl ?_
  refine g_istore (L2 := [(3, .inl 0), (2, .inl 0), (0, .inr (some (some v0))), (1, .inl v1)]) rfl rfl ?_
  exact g_loc (lsub_cons rfl (lsub_cons rfl (lsub_cons rfl (lsub_cons rfl lsub_nil)))) (tc_removeOf_4 hd LF v0 v1 0 0 S0 tv0 _ E)
def fc_set_23b (k23 : Nat → Int32 → Int32 → Int32 → Int32 → Mem → Option Mem) (v0 : Nat) (v1 : Int32) (v2 : Int32) (v3 : Int32) (v4 : Int32) (S0 : Mem) : Option Mem := if v4 ≤ 0 then ((ast S0 (v0 + 1) v4 v1).bind fun S1 => (ast S1 (v0 + 2) v4 v2).bind fun S2 => (ast S2 (v0 + 3) v4 v3).bind fun S3 => (some (up2 S3 v0 3 ((S3 v0 3) + 1))).bind fun S4 => some S4) else ((ald S0 (v0 + 2) (v4 - 1)).bind fun x1 => if x1 ≤ v2 then ((ast S0 (v0 + 1) v4 v1).bind fun S5 => (ast S5 (v0 + 2) v4 v2).bind fun S6 => (ast S6 (v0 + 3) v4 v3).bind fun S7 => (some (up2 S7 v0 3 ((S7 v0 3) + 1))).bind fun S8 => some S8) else ((fc_move v0 (v4 - 1) v4 S0).bind fun S9 => k23 v0 v1 v2 v3 (v4 + (-1)) S9))
set_option maxRecDepth 20000 in
set_option maxHeartbeats 4000000 in
theorem tc_set_23b {scr : Nat × (Nat → Int32)} {d : Nat} (hd : 1 ≤ d) {k23 : Nat → Int32 → Int32 → Int32 → Int32 → Mem → Option Mem} (hk23 : ∀ (v0 : Nat) (v1 : Int32) (v2 : Int32) (v3 : Int32) (v4 : Int32) (S0 : Mem), Ty 5 v0 → ∀ (SR : Mem), k23 v0 v1 v2 v3 v4 S0 = some SR → XG scr d 39 23 [(0, .inr (some (some v0))), (1, .inl v1), (2, .inl v2), (3, .inl v3), (4, .inl v4)] [] S0 none SR) (v0 : Nat) (v1 : Int32) (v2 : Int32) (v3 : Int32) (v4 : Int32) (S0 : Mem) (tv0 : Ty 5 v0) (SR : Mem) (E : fc_set_23b k23 v0 v1 v2 v3 v4 S0 = some SR) : XG scr d 39 23 [(0, .inr (some (some v0))), (1, .inl v1), (2, .inl v2), (3, .inl v3), (4, .inl v4)] [] S0 none SR := by
  unfold fc_set_23b at E
  refine g_iload rfl rfl ?_
  rcases xif E with ⟨h1, E⟩ | ⟨h1, E⟩
  · refine g_ifle_t rfl h1 ?_
    refine g_aload rfl rfl ?_
    refine g_getR rfl tv0 (fR_5_0 tv0) ?_
    refine g_iload rfl rfl ?_
    refine g_iload rfl rfl ?_
    obtain ⟨S1, h2, E⟩ := ob E
    refine g_iast rfl (fT_5_0 tv0) h2 ?_
    refine g_aload rfl rfl ?_
    refine g_getR rfl tv0 (fR_5_1 tv0) ?_
    refine g_iload rfl rfl ?_
    refine g_iload rfl rfl ?_
    obtain ⟨S2, h3, E⟩ := ob E
    refine g_iast rfl (fT_5_1 tv0) h3 ?_
    refine g_aload rfl rfl ?_
    refine g_getR rfl tv0 (fR_5_2 tv0) ?_
    refine g_iload rfl rfl ?_
    refine g_iload rfl rfl ?_
    obtain ⟨S3, h4, E⟩ := ob E
    refine g_iast rfl (fT_5_2 tv0) h4 ?_
    refine g_aload rfl rfl ?_
    refine g_dup rfl ?_
    refine g_getI rfl tv0 ?_
    refine g_push rfl ?_
    refine g_iadd rfl ?_
    obtain ⟨S4, hS4, E⟩ := ob E
    refine g_putI rfl tv0 hS4 ?_
    obtain rfl := so1 E
    exact g_ret rfl
  · refine g_ifle_f rfl h1 ?_
    refine g_aload rfl rfl ?_
    refine g_getR rfl tv0 (fR_5_1 tv0) ?_
    refine g_iload rfl rfl ?_
    refine g_push rfl ?_
    refine g_isub rfl ?_
    obtain ⟨x1, h5, E⟩ := ob E
    refine g_iald rfl (fT_5_1 tv0) h5 ?_
    refine g_iload rfl rfl ?_
    rcases xif E with ⟨h6, E⟩ | ⟨h6, E⟩
    · refine g_icle_t rfl h6 ?_
      refine g_aload rfl rfl ?_
      refine g_getR rfl tv0 (fR_5_0 tv0) ?_
      refine g_iload rfl rfl ?_
      refine g_iload rfl rfl ?_
      obtain ⟨S5, h7, E⟩ := ob E
      refine g_iast rfl (fT_5_0 tv0) h7 ?_
      refine g_aload rfl rfl ?_
      refine g_getR rfl tv0 (fR_5_1 tv0) ?_
      refine g_iload rfl rfl ?_
      refine g_iload rfl rfl ?_
      obtain ⟨S6, h8, E⟩ := ob E
      refine g_iast rfl (fT_5_1 tv0) h8 ?_
      refine g_aload rfl rfl ?_
      refine g_getR rfl tv0 (fR_5_2 tv0) ?_
      refine g_iload rfl rfl ?_
      refine g_iload rfl rfl ?_
      obtain ⟨S7, h9, E⟩ := ob E
      refine g_iast rfl (fT_5_2 tv0) h9 ?_
      refine g_aload rfl rfl ?_
      refine g_dup rfl ?_
      refine g_getI rfl tv0 ?_
      refine g_push rfl ?_
      refine g_iadd rfl ?_
      obtain ⟨S8, hS8, E⟩ := ob E
      refine g_putI rfl tv0 hS8 ?_
      obtain rfl := so1 E
      exact g_ret rfl
    · refine g_icle_f rfl h6 ?_
      refine g_aload rfl rfl ?_
      refine g_iload rfl rfl ?_
      refine g_push rfl ?_
      refine g_isub rfl ?_
      refine g_iload rfl rfl ?_
      obtain ⟨S9, h10, E⟩ := ob E
      refine g_inv2 (dc := 0) rfl (by omega) tv0 (Nat.le_of_ble_eq_true rfl) (fun d hd => tc_move hd v0 (v4 - 1) v4 S0 tv0 _ h10) ?_
      refine g_iinc (L2 := [(4, .inl (v4 + (-1))), (0, .inr (some (some v0))), (1, .inl v1), (2, .inl v2), (3, .inl v3)]) rfl rfl rfl ?_
      refine g_goto rfl ?_
      exact g_loc (lsub_cons rfl (lsub_cons rfl (lsub_cons rfl (lsub_cons rfl (lsub_cons rfl lsub_nil))))) (hk23 v0 v1 v2 v3 (v4 + (-1)) S9 tv0 _ E)
def fc_set_23  : Nat → Nat → Int32 → Int32 → Int32 → Int32 → Mem → Option Mem
  | 0 => fun _ _ _ _ _ _ => none
  | n + 1 => fc_set_23b  (fc_set_23  n)
set_option maxRecDepth 20000 in
set_option maxHeartbeats 4000000 in
theorem tc_set_23 {scr : Nat × (Nat → Int32)} {d : Nat} (hd : 1 ≤ d)  : ∀ (n : Nat) (v0 : Nat) (v1 : Int32) (v2 : Int32) (v3 : Int32) (v4 : Int32) (S0 : Mem), Ty 5 v0 → ∀ (SR : Mem), fc_set_23  n v0 v1 v2 v3 v4 S0 = some SR → XG scr d 39 23 [(0, .inr (some (some v0))), (1, .inl v1), (2, .inl v2), (3, .inl v3), (4, .inl v4)] [] S0 none SR
  | 0, v0, v1, v2, v3, v4, S0, tv0, SR, E => nn E
  | n + 1, v0, v1, v2, v3, v4, S0, tv0, SR, E => tc_set_23b hd  (tc_set_23 hd  n) v0 v1 v2 v3 v4 S0 tv0 SR E
def fc_set (v0 : Nat) (v1 : Int32) (v2 : Int32) (v3 : Int32) (S0 : Mem) : Option Mem := if (S0 v0 3) < 0 then (some S0) else (if (S0 v0 3) < 10 then (fc_set_23 LF v0 v1 v2 v3 (S0 v0 3) S0) else (some S0))
set_option maxRecDepth 20000 in
set_option maxHeartbeats 4000000 in
theorem tc_set {scr : Nat × (Nat → Int32)} {d : Nat} (hd : 1 ≤ d) (v0 : Nat) (v1 : Int32) (v2 : Int32) (v3 : Int32) (S0 : Mem) (tv0 : Ty 5 v0) (SR : Mem) (E : fc_set  v0 v1 v2 v3 S0 = some SR) : XG scr d 39 0 [(0, .inr (some (some v0))), (1, .inl v1), (2, .inl v2), (3, .inl v3)] [] S0 none SR := by
  unfold fc_set at E
  refine g_aload rfl rfl ?_
  refine g_getI rfl tv0 ?_
  rcases xif E with ⟨h1, E⟩ | ⟨h1, E⟩
  · refine g_iflt_t rfl h1 ?_
    obtain rfl := so1 E
    exact g_ret rfl
  · refine g_iflt_f rfl h1 ?_
    refine g_aload rfl rfl ?_
    refine g_getI rfl tv0 ?_
    refine g_push rfl ?_
    rcases xif E with ⟨h2, E⟩ | ⟨h2, E⟩
    · refine g_iclt_t rfl h2 ?_
      refine g_aload rfl rfl ?_
      refine g_getI rfl tv0 ?_
      refine g_istore (L2 := [(4, .inl (S0 v0 3)), (0, .inr (some (some v0))), (1, .inl v1), (2, .inl v2), (3, .inl v3)]) rfl rfl ?_
      exact g_loc (lsub_cons rfl (lsub_cons rfl (lsub_cons rfl (lsub_cons rfl (lsub_cons rfl lsub_nil))))) (tc_set_23 hd LF v0 v1 v2 v3 (S0 v0 3) S0 tv0 _ E)
    · refine g_iclt_f rfl h2 ?_
      obtain rfl := so1 E
      exact g_ret rfl
def fw_isActor (v0 : Nat) (v1 : Int32) (S0 : Mem) : Option Int32 := if v1 < 0 then (some 0) else (if (S0 v0 4) ≤ v1 then (some 0) else (if 12 ≤ v1 then (some 0) else (some 1)))
set_option maxRecDepth 20000 in
set_option maxHeartbeats 4000000 in
theorem tw_isActor {scr : Nat × (Nat → Int32)} {d : Nat} (hd : 0 ≤ d) (v0 : Nat) (v1 : Int32) (S0 : Mem) (tv0 : Ty 6 v0) (rv : Int32) (E : fw_isActor  v0 v1 S0 = some rv) : XG scr d 53 0 [(0, .inr (some (some v0))), (1, .inl v1)] [] S0 (some (.inl rv)) S0 := by
  unfold fw_isActor at E
  refine g_iload rfl rfl ?_
  rcases xif E with ⟨h1, E⟩ | ⟨h1, E⟩
  · refine g_iflt_t rfl h1 ?_
    refine g_push rfl ?_
    obtain rfl := so1 E
    exact g_zret rfl b00
  · refine g_iflt_f rfl h1 ?_
    refine g_iload rfl rfl ?_
    refine g_aload rfl rfl ?_
    refine g_getI rfl tv0 ?_
    rcases xif E with ⟨h2, E⟩ | ⟨h2, E⟩
    · refine g_icge_t rfl h2 ?_
      refine g_push rfl ?_
      obtain rfl := so1 E
      exact g_zret rfl b00
    · refine g_icge_f rfl h2 ?_
      refine g_iload rfl rfl ?_
      refine g_push rfl ?_
      rcases xif E with ⟨h3, E⟩ | ⟨h3, E⟩
      · refine g_icge_t rfl h3 ?_
        refine g_push rfl ?_
        obtain rfl := so1 E
        exact g_zret rfl b00
      · refine g_icge_f rfl h3 ?_
        refine g_push rfl ?_
        refine g_goto rfl ?_
        obtain rfl := so1 E
        exact g_zret rfl b01
def fw_isLive (v0 : Nat) (v1 : Int32) (S0 : Mem) : Option Int32 := if v1 < 0 then (some 0) else (if (S0 v0 4) ≤ v1 then (some 0) else (if 12 ≤ v1 then (some 0) else ((ix v1 12).bind fun i1 => if (S0 (v0 + 12 + 13 * i1) 6) = 0 then (some 0) else (some 1))))
set_option maxRecDepth 20000 in
set_option maxHeartbeats 4000000 in
theorem tw_isLive {scr : Nat × (Nat → Int32)} {d : Nat} (hd : 0 ≤ d) (v0 : Nat) (v1 : Int32) (S0 : Mem) (tv0 : Ty 6 v0) (rv : Int32) (E : fw_isLive  v0 v1 S0 = some rv) : XG scr d 54 0 [(0, .inr (some (some v0))), (1, .inl v1)] [] S0 (some (.inl rv)) S0 := by
  unfold fw_isLive at E
  refine g_iload rfl rfl ?_
  rcases xif E with ⟨h1, E⟩ | ⟨h1, E⟩
  · refine g_iflt_t rfl h1 ?_
    refine g_push rfl ?_
    obtain rfl := so1 E
    exact g_zret rfl b00
  · refine g_iflt_f rfl h1 ?_
    refine g_iload rfl rfl ?_
    refine g_aload rfl rfl ?_
    refine g_getI rfl tv0 ?_
    rcases xif E with ⟨h2, E⟩ | ⟨h2, E⟩
    · refine g_icge_t rfl h2 ?_
      refine g_push rfl ?_
      obtain rfl := so1 E
      exact g_zret rfl b00
    · refine g_icge_f rfl h2 ?_
      refine g_iload rfl rfl ?_
      refine g_push rfl ?_
      rcases xif E with ⟨h3, E⟩ | ⟨h3, E⟩
      · refine g_icge_t rfl h3 ?_
        refine g_push rfl ?_
        obtain rfl := so1 E
        exact g_zret rfl b00
      · refine g_icge_f rfl h3 ?_
        refine g_aload rfl rfl ?_
        refine g_getR rfl tv0 (fR_6_0 tv0) ?_
        refine g_iload rfl rfl ?_
        obtain ⟨i1, h4, E⟩ := ob E
        refine g_aald rfl (eK_a _ tv0.1 tv0.2).1.1 (eK_a _ tv0.1 tv0.2).1.2 (by decide) h4 (rA_a tv0 h4) ?_
        refine g_getI rfl (eT_a tv0 h4) ?_
        rcases xif E with ⟨h5, E⟩ | ⟨h5, E⟩
        · refine g_ifeq_t rfl h5 ?_
          refine g_push rfl ?_
          obtain rfl := so1 E
          exact g_zret rfl b00
        · refine g_ifeq_f rfl h5 ?_
          refine g_push rfl ?_
          refine g_goto rfl ?_
          obtain rfl := so1 E
          exact g_zret rfl b01
def fw_addActor_94  (v0 : Nat) (v1 : Int32) (v2 : Int32) (v3 : Int32) (v4 : Int32) (v5 : Int32) (S0 : Mem) : Option (Int32 × Mem) := if (S0 v0 4) < 0 then (some ((-3), S0)) else (if (S0 v0 4) < 12 then ((ix (S0 v0 4) 12).bind fun i1 => (fa_begin (v0 + 12 + 13 * i1) v1 v2 S0).bind fun S1 => (some (up2 S1 (v0 + 12 + 13 * i1) 2 v3)).bind fun S2 => (some (up2 S2 (v0 + 12 + 13 * i1) 3 v4)).bind fun S3 => (some (up2 S3 (v0 + 12 + 13 * i1) 4 v5)).bind fun S4 => (some (up2 S4 v0 4 ((S4 v0 4) + 1))).bind fun S5 => some ((S5 v0 4) - 1, S5)) else (some ((-3), S0)))
set_option maxRecDepth 20000 in
set_option maxHeartbeats 4000000 in
theorem tw_addActor_94 {scr : Nat × (Nat → Int32)} {d : Nat} (hd : 3 ≤ d)  (v0 : Nat) (v1 : Int32) (v2 : Int32) (v3 : Int32) (v4 : Int32) (v5 : Int32) (S0 : Mem) (tv0 : Ty 6 v0) (rv : Int32) (SR : Mem) (E : fw_addActor_94 v0 v1 v2 v3 v4 v5 S0 = some (rv, SR)) : XG scr d 40 94 [(0, .inr (some (some v0))), (1, .inl v1), (2, .inl v2), (3, .inl v3), (4, .inl v4), (5, .inl v5)] [] S0 (some (.inl rv)) SR := by
  unfold fw_addActor_94 at E
  refine g_aload rfl rfl ?_
  refine g_getI rfl tv0 ?_
  rcases xif E with ⟨h1, E⟩ | ⟨h1, E⟩
  · refine g_iflt_t rfl h1 ?_
    refine g_push rfl ?_
    obtain ⟨rfl, rfl⟩ := so2 E
    exact g_iret rfl
  · refine g_iflt_f rfl h1 ?_
    refine g_aload rfl rfl ?_
    refine g_getI rfl tv0 ?_
    refine g_push rfl ?_
    rcases xif E with ⟨h2, E⟩ | ⟨h2, E⟩
    · refine g_iclt_t rfl h2 ?_
      refine g_aload rfl rfl ?_
      refine g_getR rfl tv0 (fR_6_0 tv0) ?_
      refine g_aload rfl rfl ?_
      refine g_getI rfl tv0 ?_
      obtain ⟨i1, h3, E⟩ := ob E
      refine g_aald rfl (eK_a _ tv0.1 tv0.2).1.1 (eK_a _ tv0.1 tv0.2).1.2 (by decide) h3 (rA_a tv0 h3) ?_
      refine g_astore (L2 := [(7, .inr (some (some (v0 + 12 + 13 * i1)))), (0, .inr (some (some v0))), (1, .inl v1), (2, .inl v2), (3, .inl v3), (4, .inl v4), (5, .inl v5)]) rfl rfl ?_
      refine g_aload rfl rfl ?_
      refine g_iload rfl rfl ?_
      refine g_iload rfl rfl ?_
      obtain ⟨S1, h4, E⟩ := ob E
      refine g_inv2 (dc := 2) rfl (by omega) (eT_a tv0 h3) (Nat.le_of_ble_eq_true rfl) (fun d hd => ta_begin hd (v0 + 12 + 13 * i1) v1 v2 S0 (eT_a tv0 h3) _ h4) ?_
      refine g_aload rfl rfl ?_
      refine g_iload rfl rfl ?_
      obtain ⟨S2, hS2, E⟩ := ob E
      refine g_putI rfl (eT_a tv0 h3) hS2 ?_
      refine g_aload rfl rfl ?_
      refine g_iload rfl rfl ?_
      obtain ⟨S3, hS3, E⟩ := ob E
      refine g_putI rfl (eT_a tv0 h3) hS3 ?_
      refine g_aload rfl rfl ?_
      refine g_iload rfl rfl ?_
      obtain ⟨S4, hS4, E⟩ := ob E
      refine g_putI rfl (eT_a tv0 h3) hS4 ?_
      refine g_aload rfl rfl ?_
      refine g_dup rfl ?_
      refine g_getI rfl tv0 ?_
      refine g_push rfl ?_
      refine g_iadd rfl ?_
      obtain ⟨S5, hS5, E⟩ := ob E
      refine g_putI rfl tv0 hS5 ?_
      refine g_aload rfl rfl ?_
      refine g_getI rfl tv0 ?_
      refine g_push rfl ?_
      refine g_isub rfl ?_
      obtain ⟨rfl, rfl⟩ := so2 E
      exact g_iret rfl
    · refine g_iclt_f rfl h2 ?_
      refine g_push rfl ?_
      obtain ⟨rfl, rfl⟩ := so2 E
      exact g_iret rfl
def fw_addActor_25  (v0 : Nat) (v1 : Int32) (v2 : Int32) (v3 : Int32) (v4 : Int32) (v5 : Int32) (s0 : Int32) (S0 : Mem) : Option (Int32 × Mem) := if s0 = 0 then (some ((-1), S0)) else (if v2 < 0 then (some ((-1), S0)) else (if 9 < v2 then (some ((-1), S0)) else (if v3 < 0 then (some ((-1), S0)) else (if 2 < v3 then (some ((-1), S0)) else (if v4 < 0 then (some ((-1), S0)) else (if 9 < v4 then (some ((-1), S0)) else (if v5 < 1 then (some ((-1), S0)) else (if v5 ≤ 50 then (if v1 = ((-1)) then (fw_addActor_94 v0 v1 v2 v3 v4 v5 S0) else ((fw_isLive v0 v1 S0).bind fun x1 => if x1 = 0 then (some ((-5), S0)) else (fw_addActor_94 v0 v1 v2 v3 v4 v5 S0))) else (some ((-1), S0))))))))))
set_option maxRecDepth 20000 in
set_option maxHeartbeats 4000000 in
theorem tw_addActor_25 {scr : Nat × (Nat → Int32)} {d : Nat} (hd : 3 ≤ d)  (v0 : Nat) (v1 : Int32) (v2 : Int32) (v3 : Int32) (v4 : Int32) (v5 : Int32) (s0 : Int32) (S0 : Mem) (tv0 : Ty 6 v0) (rv : Int32) (SR : Mem) (E : fw_addActor_25 v0 v1 v2 v3 v4 v5 s0 S0 = some (rv, SR)) : XG scr d 40 25 [(0, .inr (some (some v0))), (1, .inl v1), (2, .inl v2), (3, .inl v3), (4, .inl v4), (5, .inl v5)] [.inl s0] S0 (some (.inl rv)) SR := by
  unfold fw_addActor_25 at E
  refine g_istore (L2 := [(6, .inl s0), (0, .inr (some (some v0))), (1, .inl v1), (2, .inl v2), (3, .inl v3), (4, .inl v4), (5, .inl v5)]) rfl rfl ?_
  refine g_iload rfl rfl ?_
  rcases xif E with ⟨h1, E⟩ | ⟨h1, E⟩
  · refine g_ifeq_t rfl h1 ?_
    refine g_push rfl ?_
    obtain ⟨rfl, rfl⟩ := so2 E
    exact g_iret rfl
  · refine g_ifeq_f rfl h1 ?_
    refine g_iload rfl rfl ?_
    rcases xif E with ⟨h2, E⟩ | ⟨h2, E⟩
    · refine g_iflt_t rfl h2 ?_
      refine g_push rfl ?_
      obtain ⟨rfl, rfl⟩ := so2 E
      exact g_iret rfl
    · refine g_iflt_f rfl h2 ?_
      refine g_iload rfl rfl ?_
      refine g_push rfl ?_
      rcases xif E with ⟨h3, E⟩ | ⟨h3, E⟩
      · refine g_icgt_t rfl h3 ?_
        refine g_push rfl ?_
        obtain ⟨rfl, rfl⟩ := so2 E
        exact g_iret rfl
      · refine g_icgt_f rfl h3 ?_
        refine g_iload rfl rfl ?_
        rcases xif E with ⟨h4, E⟩ | ⟨h4, E⟩
        · refine g_iflt_t rfl h4 ?_
          refine g_push rfl ?_
          obtain ⟨rfl, rfl⟩ := so2 E
          exact g_iret rfl
        · refine g_iflt_f rfl h4 ?_
          refine g_iload rfl rfl ?_
          refine g_push rfl ?_
          rcases xif E with ⟨h5, E⟩ | ⟨h5, E⟩
          · refine g_icgt_t rfl h5 ?_
            refine g_push rfl ?_
            obtain ⟨rfl, rfl⟩ := so2 E
            exact g_iret rfl
          · refine g_icgt_f rfl h5 ?_
            refine g_iload rfl rfl ?_
            rcases xif E with ⟨h6, E⟩ | ⟨h6, E⟩
            · refine g_iflt_t rfl h6 ?_
              refine g_push rfl ?_
              obtain ⟨rfl, rfl⟩ := so2 E
              exact g_iret rfl
            · refine g_iflt_f rfl h6 ?_
              refine g_iload rfl rfl ?_
              refine g_push rfl ?_
              rcases xif E with ⟨h7, E⟩ | ⟨h7, E⟩
              · refine g_icgt_t rfl h7 ?_
                refine g_push rfl ?_
                obtain ⟨rfl, rfl⟩ := so2 E
                exact g_iret rfl
              · refine g_icgt_f rfl h7 ?_
                refine g_iload rfl rfl ?_
                refine g_push rfl ?_
                rcases xif E with ⟨h8, E⟩ | ⟨h8, E⟩
                · refine g_iclt_t rfl h8 ?_
                  refine g_push rfl ?_
                  obtain ⟨rfl, rfl⟩ := so2 E
                  exact g_iret rfl
                · refine g_iclt_f rfl h8 ?_
                  refine g_iload rfl rfl ?_
                  refine g_push rfl ?_
                  rcases xif E with ⟨h9, E⟩ | ⟨h9, E⟩
                  · refine g_icle_t rfl h9 ?_
                    refine g_iload rfl rfl ?_
                    refine g_push rfl ?_
                    rcases xif E with ⟨h10, E⟩ | ⟨h10, E⟩
                    · refine g_iceq_t rfl h10 ?_
                      exact g_loc (lsub_cons rfl (lsub_cons rfl (lsub_cons rfl (lsub_cons rfl (lsub_cons rfl (lsub_cons rfl lsub_nil)))))) (tw_addActor_94 hd v0 v1 v2 v3 v4 v5 S0 tv0 _ _ E)
                    · refine g_iceq_f rfl h10 ?_
                      refine g_aload rfl rfl ?_
                      refine g_iload rfl rfl ?_
                      obtain ⟨x1, h11, E⟩ := ob E
                      refine g_inv1 (dc := 0) rfl (by omega) tv0 (Nat.le_of_ble_eq_true rfl) (fun d hd => tw_isLive hd v0 v1 S0 tv0 _ h11) ?_
                      rcases xif E with ⟨h12, E⟩ | ⟨h12, E⟩
                      · refine g_ifne_t rfl h12 ?_
                        refine g_push rfl ?_
                        obtain ⟨rfl, rfl⟩ := so2 E
                        exact g_iret rfl
                      · refine g_ifne_f rfl h12 ?_
                        exact g_loc (lsub_cons rfl (lsub_cons rfl (lsub_cons rfl (lsub_cons rfl (lsub_cons rfl (lsub_cons rfl lsub_nil)))))) (tw_addActor_94 hd v0 v1 v2 v3 v4 v5 S0 tv0 _ _ E)
                  · refine g_icle_f rfl h9 ?_
                    refine g_push rfl ?_
                    obtain ⟨rfl, rfl⟩ := so2 E
                    exact g_iret rfl
def fw_addActor (v0 : Nat) (v1 : Int32) (v2 : Int32) (v3 : Int32) (v4 : Int32) (v5 : Int32) (S0 : Mem) : Option (Int32 × Mem) := if v1 = ((-1)) then (if (S0 v0 4) = 0 then (fw_addActor_25 v0 v1 v2 v3 v4 v5 1 S0) else (fw_addActor_25 v0 v1 v2 v3 v4 v5 0 S0)) else ((fw_isActor v0 v1 S0).bind fun x1 => fw_addActor_25 v0 v1 v2 v3 v4 v5 x1 S0)
set_option maxRecDepth 20000 in
set_option maxHeartbeats 4000000 in
theorem tw_addActor {scr : Nat × (Nat → Int32)} {d : Nat} (hd : 3 ≤ d) (v0 : Nat) (v1 : Int32) (v2 : Int32) (v3 : Int32) (v4 : Int32) (v5 : Int32) (S0 : Mem) (tv0 : Ty 6 v0) (rv : Int32) (SR : Mem) (E : fw_addActor  v0 v1 v2 v3 v4 v5 S0 = some (rv, SR)) : XG scr d 40 0 [(0, .inr (some (some v0))), (1, .inl v1), (2, .inl v2), (3, .inl v3), (4, .inl v4), (5, .inl v5)] [] S0 (some (.inl rv)) SR := by
  unfold fw_addActor at E
  refine g_iload rfl rfl ?_
  refine g_push rfl ?_
  rcases xif E with ⟨h1, E⟩ | ⟨h1, E⟩
  · refine g_icne_t rfl h1 ?_
    refine g_aload rfl rfl ?_
    refine g_getI rfl tv0 ?_
    rcases xif E with ⟨h2, E⟩ | ⟨h2, E⟩
    · refine g_ifne_t rfl h2 ?_
      refine g_push rfl ?_
      refine g_goto rfl ?_
      exact g_loc (lsub_cons rfl (lsub_cons rfl (lsub_cons rfl (lsub_cons rfl (lsub_cons rfl (lsub_cons rfl lsub_nil)))))) (tw_addActor_25 hd v0 v1 v2 v3 v4 v5 1 S0 tv0 _ _ E)
    · refine g_ifne_f rfl h2 ?_
      refine g_push rfl ?_
      refine g_goto rfl ?_
      exact g_loc (lsub_cons rfl (lsub_cons rfl (lsub_cons rfl (lsub_cons rfl (lsub_cons rfl (lsub_cons rfl lsub_nil)))))) (tw_addActor_25 hd v0 v1 v2 v3 v4 v5 0 S0 tv0 _ _ E)
  · refine g_icne_f rfl h1 ?_
    refine g_aload rfl rfl ?_
    refine g_iload rfl rfl ?_
    obtain ⟨x1, h3, E⟩ := ob E
    refine g_inv1 (dc := 0) rfl (by omega) tv0 (Nat.le_of_ble_eq_true rfl) (fun d hd => tw_isActor hd v0 v1 S0 tv0 _ h3) ?_
    exact g_loc (lsub_cons rfl (lsub_cons rfl (lsub_cons rfl (lsub_cons rfl (lsub_cons rfl (lsub_cons rfl lsub_nil)))))) (tw_addActor_25 hd v0 v1 v2 v3 v4 v5 x1 S0 tv0 _ _ E)
def fw_childBits_4b (k4 : Nat → Int32 → Int32 → Int32 → Mem → Option Int32) (v0 : Nat) (v1 : Int32) (v2 : Int32) (v3 : Int32) (S0 : Mem) : Option Int32 := if (S0 v0 4) ≤ v3 then (some v2) else (if 12 ≤ v3 then (some v2) else ((ix v3 12).bind fun i1 => if (S0 (v0 + 12 + 13 * i1) 0) = v1 then (k4 v0 v1 (v2 ||| (1 <<< (v3 &&& 31))) (v3 + 1) S0) else (k4 v0 v1 (v2 ||| 0) (v3 + 1) S0)))
set_option maxRecDepth 20000 in
set_option maxHeartbeats 4000000 in
theorem tw_childBits_4b {scr : Nat × (Nat → Int32)} {d : Nat} (hd : 0 ≤ d) {k4 : Nat → Int32 → Int32 → Int32 → Mem → Option Int32} (hk4 : ∀ (v0 : Nat) (v1 : Int32) (v2 : Int32) (v3 : Int32) (S0 : Mem), Ty 6 v0 → ∀ (rv : Int32), k4 v0 v1 v2 v3 S0 = some rv → XG scr d 41 4 [(0, .inr (some (some v0))), (1, .inl v1), (2, .inl v2), (3, .inl v3)] [] S0 (some (.inl rv)) S0) (v0 : Nat) (v1 : Int32) (v2 : Int32) (v3 : Int32) (S0 : Mem) (tv0 : Ty 6 v0) (rv : Int32) (E : fw_childBits_4b k4 v0 v1 v2 v3 S0 = some rv) : XG scr d 41 4 [(0, .inr (some (some v0))), (1, .inl v1), (2, .inl v2), (3, .inl v3)] [] S0 (some (.inl rv)) S0 := by
  unfold fw_childBits_4b at E
  refine g_iload rfl rfl ?_
  refine g_aload rfl rfl ?_
  refine g_getI rfl tv0 ?_
  rcases xif E with ⟨h1, E⟩ | ⟨h1, E⟩
  · refine g_icge_t rfl h1 ?_
    refine g_iload rfl rfl ?_
    obtain rfl := so1 E
    exact g_iret rfl
  · refine g_icge_f rfl h1 ?_
    refine g_iload rfl rfl ?_
    refine g_push rfl ?_
    rcases xif E with ⟨h2, E⟩ | ⟨h2, E⟩
    · refine g_icge_t rfl h2 ?_
      refine g_iload rfl rfl ?_
      obtain rfl := so1 E
      exact g_iret rfl
    · refine g_icge_f rfl h2 ?_
      refine g_iload rfl rfl ?_
      refine g_aload rfl rfl ?_
      refine g_getR rfl tv0 (fR_6_0 tv0) ?_
      refine g_iload rfl rfl ?_
      obtain ⟨i1, h3, E⟩ := ob E
      refine g_aald rfl (eK_a _ tv0.1 tv0.2).1.1 (eK_a _ tv0.1 tv0.2).1.2 (by decide) h3 (rA_a tv0 h3) ?_
      refine g_getI rfl (eT_a tv0 h3) ?_
      refine g_iload rfl rfl ?_
      rcases xif E with ⟨h4, E⟩ | ⟨h4, E⟩
      · refine g_icne_t rfl h4 ?_
        refine g_push rfl ?_
        refine g_iload rfl rfl ?_
        refine g_ishl rfl ?_
        refine g_goto rfl ?_
        refine g_ior rfl ?_
        refine g_istore (L2 := [(2, .inl (v2 ||| (1 <<< (v3 &&& 31)))), (0, .inr (some (some v0))), (1, .inl v1), (3, .inl v3)]) rfl rfl ?_
        refine g_iinc (L2 := [(3, .inl (v3 + 1)), (2, .inl (v2 ||| (1 <<< (v3 &&& 31)))), (0, .inr (some (some v0))), (1, .inl v1)]) rfl rfl rfl ?_
        refine g_goto rfl ?_
        exact g_loc (lsub_cons rfl (lsub_cons rfl (lsub_cons rfl (lsub_cons rfl lsub_nil)))) (hk4 v0 v1 (v2 ||| (1 <<< (v3 &&& 31))) (v3 + 1) S0 tv0 _ E)
      · refine g_icne_f rfl h4 ?_
        refine g_push rfl ?_
        refine g_ior rfl ?_
        refine g_istore (L2 := [(2, .inl (v2 ||| 0)), (0, .inr (some (some v0))), (1, .inl v1), (3, .inl v3)]) rfl rfl ?_
        refine g_iinc (L2 := [(3, .inl (v3 + 1)), (2, .inl (v2 ||| 0)), (0, .inr (some (some v0))), (1, .inl v1)]) rfl rfl rfl ?_
        refine g_goto rfl ?_
        exact g_loc (lsub_cons rfl (lsub_cons rfl (lsub_cons rfl (lsub_cons rfl lsub_nil)))) (hk4 v0 v1 (v2 ||| 0) (v3 + 1) S0 tv0 _ E)
def fw_childBits_4  : Nat → Nat → Int32 → Int32 → Int32 → Mem → Option Int32
  | 0 => fun _ _ _ _ _ => none
  | n + 1 => fw_childBits_4b  (fw_childBits_4  n)
set_option maxRecDepth 20000 in
set_option maxHeartbeats 4000000 in
theorem tw_childBits_4 {scr : Nat × (Nat → Int32)} {d : Nat} (hd : 0 ≤ d)  : ∀ (n : Nat) (v0 : Nat) (v1 : Int32) (v2 : Int32) (v3 : Int32) (S0 : Mem), Ty 6 v0 → ∀ (rv : Int32), fw_childBits_4  n v0 v1 v2 v3 S0 = some rv → XG scr d 41 4 [(0, .inr (some (some v0))), (1, .inl v1), (2, .inl v2), (3, .inl v3)] [] S0 (some (.inl rv)) S0
  | 0, v0, v1, v2, v3, S0, tv0, rv, E => nn E
  | n + 1, v0, v1, v2, v3, S0, tv0, rv, E => tw_childBits_4b hd  (tw_childBits_4 hd  n) v0 v1 v2 v3 S0 tv0 rv E
def fw_childBits (v0 : Nat) (v1 : Int32) (S0 : Mem) : Option Int32 := fw_childBits_4 LF v0 v1 0 0 S0
set_option maxRecDepth 20000 in
set_option maxHeartbeats 4000000 in
theorem tw_childBits {scr : Nat × (Nat → Int32)} {d : Nat} (hd : 0 ≤ d) (v0 : Nat) (v1 : Int32) (S0 : Mem) (tv0 : Ty 6 v0) (rv : Int32) (E : fw_childBits  v0 v1 S0 = some rv) : XG scr d 41 0 [(0, .inr (some (some v0))), (1, .inl v1)] [] S0 (some (.inl rv)) S0 := by
  unfold fw_childBits at E
  refine g_push rfl ?_
  refine g_istore (L2 := [(2, .inl 0), (0, .inr (some (some v0))), (1, .inl v1)]) rfl rfl ?_
  refine g_push rfl ?_
  refine g_istore (L2 := [(3, .inl 0), (2, .inl 0), (0, .inr (some (some v0))), (1, .inl v1)]) rfl rfl ?_
  exact g_loc (lsub_cons rfl (lsub_cons rfl (lsub_cons rfl (lsub_cons rfl lsub_nil)))) (tw_childBits_4 hd LF v0 v1 0 0 S0 tv0 _ E)
def fw_copyFrom_45  (v0 : Nat) (v1 : Nat) (S0 : Mem) : Option Mem := (fc_copyFrom (v0 + 2) (v1 + 2) S0).bind fun S1 => (fp_copyFrom (v0 + 6) (v1 + 6) S1).bind fun S2 => (fp_copyFrom (v0 + 9) (v1 + 9) S2).bind fun S3 => (some (up2 S3 v0 5 (S3 v1 5))).bind fun S4 => (some (up2 S4 v0 6 (S4 v1 6))).bind fun S5 => (some (up2 S5 v0 7 (S5 v1 7))).bind fun S6 => (some (up2 S6 v0 8 (S6 v1 8))).bind fun S7 => (some (up2 S7 v0 9 (S7 v1 9))).bind fun S8 => (some (up2 S8 v0 10 (S8 v1 10))).bind fun S9 => some S9
set_option maxRecDepth 20000 in
set_option maxHeartbeats 4000000 in
theorem tw_copyFrom_45 {scr : Nat × (Nat → Int32)} {d : Nat} (hd : 2 ≤ d)  (v0 : Nat) (v1 : Nat) (S0 : Mem) (tv0 : Ty 6 v0) (tv1 : Ty 6 v1) (SR : Mem) (E : fw_copyFrom_45 v0 v1 S0 = some SR) : XG scr d 42 45 [(0, .inr (some (some v0))), (1, .inr (some (some v1)))] [] S0 none SR := by
  unfold fw_copyFrom_45 at E
  refine g_aload rfl rfl ?_
  refine g_getR rfl tv0 (fR_6_1 tv0) ?_
  refine g_aload rfl rfl ?_
  refine g_getR rfl tv1 (fR_6_1 tv1) ?_
  obtain ⟨S1, h1, E⟩ := ob E
  refine g_inv1 (dc := 0) rfl (by omega) (fT_6_1 tv0) (Nat.le_of_ble_eq_true rfl) (fun d hd => tc_copyFrom hd (v0 + 2) (v1 + 2) S0 (fT_6_1 tv0) (fT_6_1 tv1) _ h1) ?_
  refine g_aload rfl rfl ?_
  refine g_getR rfl tv0 (fR_6_2 tv0) ?_
  refine g_aload rfl rfl ?_
  refine g_getR rfl tv1 (fR_6_2 tv1) ?_
  obtain ⟨S2, h2, E⟩ := ob E
  refine g_inv1 (dc := 0) rfl (by omega) (fT_6_2 tv0) (Nat.le_of_ble_eq_true rfl) (fun d hd => tp_copyFrom hd (v0 + 6) (v1 + 6) S1 (fT_6_2 tv0) (fT_6_2 tv1) _ h2) ?_
  refine g_aload rfl rfl ?_
  refine g_getR rfl tv0 (fR_6_3 tv0) ?_
  refine g_aload rfl rfl ?_
  refine g_getR rfl tv1 (fR_6_3 tv1) ?_
  obtain ⟨S3, h3, E⟩ := ob E
  refine g_inv1 (dc := 0) rfl (by omega) (fT_6_3 tv0) (Nat.le_of_ble_eq_true rfl) (fun d hd => tp_copyFrom hd (v0 + 9) (v1 + 9) S2 (fT_6_3 tv0) (fT_6_3 tv1) _ h3) ?_
  refine g_aload rfl rfl ?_
  refine g_aload rfl rfl ?_
  refine g_getI rfl tv1 ?_
  obtain ⟨S4, hS4, E⟩ := ob E
  refine g_putI rfl tv0 hS4 ?_
  refine g_aload rfl rfl ?_
  refine g_aload rfl rfl ?_
  refine g_getI rfl tv1 ?_
  obtain ⟨S5, hS5, E⟩ := ob E
  refine g_putI rfl tv0 hS5 ?_
  refine g_aload rfl rfl ?_
  refine g_aload rfl rfl ?_
  refine g_getI rfl tv1 ?_
  obtain ⟨S6, hS6, E⟩ := ob E
  refine g_putI rfl tv0 hS6 ?_
  refine g_aload rfl rfl ?_
  refine g_aload rfl rfl ?_
  refine g_getI rfl tv1 ?_
  obtain ⟨S7, hS7, E⟩ := ob E
  refine g_putI rfl tv0 hS7 ?_
  refine g_aload rfl rfl ?_
  refine g_aload rfl rfl ?_
  refine g_getI rfl tv1 ?_
  obtain ⟨S8, hS8, E⟩ := ob E
  refine g_putI rfl tv0 hS8 ?_
  refine g_aload rfl rfl ?_
  refine g_aload rfl rfl ?_
  refine g_getI rfl tv1 ?_
  obtain ⟨S9, hS9, E⟩ := ob E
  refine g_putI rfl tv0 hS9 ?_
  obtain rfl := so1 E
  exact g_ret rfl
def fw_copyFrom_10b (k10 : Nat → Nat → Int32 → Mem → Option Mem) (v0 : Nat) (v1 : Nat) (v2 : Int32) (S0 : Mem) : Option Mem := if (S0 v0 4) ≤ v2 then (fw_copyFrom_45 v0 v1 S0) else (if 12 ≤ v2 then (fw_copyFrom_45 v0 v1 S0) else ((ix v2 12).bind fun i1 => (ix v2 12).bind fun i2 => (fa_copyFrom (v0 + 12 + 13 * i1) (v1 + 12 + 13 * i2) S0).bind fun S1 => k10 v0 v1 (v2 + 1) S1))
set_option maxRecDepth 20000 in
set_option maxHeartbeats 4000000 in
theorem tw_copyFrom_10b {scr : Nat × (Nat → Int32)} {d : Nat} (hd : 2 ≤ d) {k10 : Nat → Nat → Int32 → Mem → Option Mem} (hk10 : ∀ (v0 : Nat) (v1 : Nat) (v2 : Int32) (S0 : Mem), Ty 6 v0 → Ty 6 v1 → ∀ (SR : Mem), k10 v0 v1 v2 S0 = some SR → XG scr d 42 10 [(0, .inr (some (some v0))), (1, .inr (some (some v1))), (2, .inl v2)] [] S0 none SR) (v0 : Nat) (v1 : Nat) (v2 : Int32) (S0 : Mem) (tv0 : Ty 6 v0) (tv1 : Ty 6 v1) (SR : Mem) (E : fw_copyFrom_10b k10 v0 v1 v2 S0 = some SR) : XG scr d 42 10 [(0, .inr (some (some v0))), (1, .inr (some (some v1))), (2, .inl v2)] [] S0 none SR := by
  unfold fw_copyFrom_10b at E
  refine g_iload rfl rfl ?_
  refine g_aload rfl rfl ?_
  refine g_getI rfl tv0 ?_
  rcases xif E with ⟨h1, E⟩ | ⟨h1, E⟩
  · refine g_icge_t rfl h1 ?_
    exact g_loc (lsub_cons rfl (lsub_cons rfl lsub_nil)) (tw_copyFrom_45 hd v0 v1 S0 tv0 tv1 _ E)
  · refine g_icge_f rfl h1 ?_
    refine g_iload rfl rfl ?_
    refine g_push rfl ?_
    rcases xif E with ⟨h2, E⟩ | ⟨h2, E⟩
    · refine g_icge_t rfl h2 ?_
      exact g_loc (lsub_cons rfl (lsub_cons rfl lsub_nil)) (tw_copyFrom_45 hd v0 v1 S0 tv0 tv1 _ E)
    · refine g_icge_f rfl h2 ?_
      refine g_aload rfl rfl ?_
      refine g_getR rfl tv0 (fR_6_0 tv0) ?_
      refine g_iload rfl rfl ?_
      obtain ⟨i1, h3, E⟩ := ob E
      refine g_aald rfl (eK_a _ tv0.1 tv0.2).1.1 (eK_a _ tv0.1 tv0.2).1.2 (by decide) h3 (rA_a tv0 h3) ?_
      refine g_aload rfl rfl ?_
      refine g_getR rfl tv1 (fR_6_0 tv1) ?_
      refine g_iload rfl rfl ?_
      obtain ⟨i2, h4, E⟩ := ob E
      refine g_aald rfl (eK_a _ tv1.1 tv1.2).1.1 (eK_a _ tv1.1 tv1.2).1.2 (by decide) h4 (rA_a tv1 h4) ?_
      obtain ⟨S1, h5, E⟩ := ob E
      refine g_inv1 (dc := 1) rfl (by omega) (eT_a tv0 h3) (Nat.le_of_ble_eq_true rfl) (fun d hd => ta_copyFrom hd (v0 + 12 + 13 * i1) (v1 + 12 + 13 * i2) S0 (eT_a tv0 h3) (eT_a tv1 h4) _ h5) ?_
      refine g_iinc (L2 := [(2, .inl (v2 + 1)), (0, .inr (some (some v0))), (1, .inr (some (some v1)))]) rfl rfl rfl ?_
      refine g_goto rfl ?_
      exact g_loc (lsub_cons rfl (lsub_cons rfl (lsub_cons rfl lsub_nil))) (hk10 v0 v1 (v2 + 1) S1 tv0 tv1 _ E)
def fw_copyFrom_10  : Nat → Nat → Nat → Int32 → Mem → Option Mem
  | 0 => fun _ _ _ _ => none
  | n + 1 => fw_copyFrom_10b  (fw_copyFrom_10  n)
set_option maxRecDepth 20000 in
set_option maxHeartbeats 4000000 in
theorem tw_copyFrom_10 {scr : Nat × (Nat → Int32)} {d : Nat} (hd : 2 ≤ d)  : ∀ (n : Nat) (v0 : Nat) (v1 : Nat) (v2 : Int32) (S0 : Mem), Ty 6 v0 → Ty 6 v1 → ∀ (SR : Mem), fw_copyFrom_10  n v0 v1 v2 S0 = some SR → XG scr d 42 10 [(0, .inr (some (some v0))), (1, .inr (some (some v1))), (2, .inl v2)] [] S0 none SR
  | 0, v0, v1, v2, S0, tv0, tv1, SR, E => nn E
  | n + 1, v0, v1, v2, S0, tv0, tv1, SR, E => tw_copyFrom_10b hd  (tw_copyFrom_10 hd  n) v0 v1 v2 S0 tv0 tv1 SR E
def fw_copyFrom (v0 : Nat) (v1 : Nat) (S0 : Mem) : Option Mem := (some (up2 S0 v0 4 (S0 v1 4))).bind fun S1 => fw_copyFrom_10 LF v0 v1 0 S1
set_option maxRecDepth 20000 in
set_option maxHeartbeats 4000000 in
theorem tw_copyFrom {scr : Nat × (Nat → Int32)} {d : Nat} (hd : 2 ≤ d) (v0 : Nat) (v1 : Nat) (S0 : Mem) (tv0 : Ty 6 v0) (tv1 : Ty 6 v1) (SR : Mem) (E : fw_copyFrom  v0 v1 S0 = some SR) : XG scr d 42 0 [(0, .inr (some (some v0))), (1, .inr (some (some v1)))] [] S0 none SR := by
  unfold fw_copyFrom at E
  refine g_aload rfl rfl ?_
  refine g_aload rfl rfl ?_
  refine g_getI rfl tv1 ?_
  obtain ⟨S1, hS1, E⟩ := ob E
  refine g_putI rfl tv0 hS1 ?_
  refine g_push rfl ?_
  refine g_istore (L2 := [(2, .inl 0), (0, .inr (some (some v0))), (1, .inr (some (some v1)))]) rfl rfl ?_
  exact g_loc (lsub_cons rfl (lsub_cons rfl (lsub_cons rfl lsub_nil))) (tw_copyFrom_10 hd LF v0 v1 0 S1 tv0 tv1 _ E)
def fw_isLiveChild (v0 : Nat) (v1 : Int32) (v2 : Int32) (S0 : Mem) : Option Int32 := if v1 < 0 then (some 0) else (if (S0 v0 4) ≤ v1 then (some 0) else (if 12 ≤ v1 then (some 0) else ((ix v1 12).bind fun i1 => if (S0 (v0 + 12 + 13 * i1) 6) = 0 then (some 0) else ((ix v1 12).bind fun i2 => if (S0 (v0 + 12 + 13 * i2) 0) = v2 then (some 1) else (some 0)))))
set_option maxRecDepth 20000 in
set_option maxHeartbeats 4000000 in
theorem tw_isLiveChild {scr : Nat × (Nat → Int32)} {d : Nat} (hd : 0 ≤ d) (v0 : Nat) (v1 : Int32) (v2 : Int32) (S0 : Mem) (tv0 : Ty 6 v0) (rv : Int32) (E : fw_isLiveChild  v0 v1 v2 S0 = some rv) : XG scr d 55 0 [(0, .inr (some (some v0))), (1, .inl v1), (2, .inl v2)] [] S0 (some (.inl rv)) S0 := by
  unfold fw_isLiveChild at E
  refine g_iload rfl rfl ?_
  rcases xif E with ⟨h1, E⟩ | ⟨h1, E⟩
  · refine g_iflt_t rfl h1 ?_
    refine g_push rfl ?_
    obtain rfl := so1 E
    exact g_zret rfl b00
  · refine g_iflt_f rfl h1 ?_
    refine g_iload rfl rfl ?_
    refine g_aload rfl rfl ?_
    refine g_getI rfl tv0 ?_
    rcases xif E with ⟨h2, E⟩ | ⟨h2, E⟩
    · refine g_icge_t rfl h2 ?_
      refine g_push rfl ?_
      obtain rfl := so1 E
      exact g_zret rfl b00
    · refine g_icge_f rfl h2 ?_
      refine g_iload rfl rfl ?_
      refine g_push rfl ?_
      rcases xif E with ⟨h3, E⟩ | ⟨h3, E⟩
      · refine g_icge_t rfl h3 ?_
        refine g_push rfl ?_
        obtain rfl := so1 E
        exact g_zret rfl b00
      · refine g_icge_f rfl h3 ?_
        refine g_aload rfl rfl ?_
        refine g_getR rfl tv0 (fR_6_0 tv0) ?_
        refine g_iload rfl rfl ?_
        obtain ⟨i1, h4, E⟩ := ob E
        refine g_aald rfl (eK_a _ tv0.1 tv0.2).1.1 (eK_a _ tv0.1 tv0.2).1.2 (by decide) h4 (rA_a tv0 h4) ?_
        refine g_getI rfl (eT_a tv0 h4) ?_
        rcases xif E with ⟨h5, E⟩ | ⟨h5, E⟩
        · refine g_ifeq_t rfl h5 ?_
          refine g_push rfl ?_
          obtain rfl := so1 E
          exact g_zret rfl b00
        · refine g_ifeq_f rfl h5 ?_
          refine g_aload rfl rfl ?_
          refine g_getR rfl tv0 (fR_6_0 tv0) ?_
          refine g_iload rfl rfl ?_
          obtain ⟨i2, h6, E⟩ := ob E
          refine g_aald rfl (eK_a _ tv0.1 tv0.2).1.1 (eK_a _ tv0.1 tv0.2).1.2 (by decide) h6 (rA_a tv0 h6) ?_
          refine g_getI rfl (eT_a tv0 h6) ?_
          refine g_iload rfl rfl ?_
          rcases xif E with ⟨h7, E⟩ | ⟨h7, E⟩
          · refine g_icne_t rfl h7 ?_
            refine g_push rfl ?_
            refine g_goto rfl ?_
            obtain rfl := so1 E
            exact g_zret rfl b01
          · refine g_icne_f rfl h7 ?_
            refine g_push rfl ?_
            obtain rfl := so1 E
            exact g_zret rfl b00
def fw_send (v0 : Nat) (v1 : Int32) (v2 : Int32) (v3 : Int32) (S0 : Mem) : Option (Int32 × Mem) := (fw_isLive v0 v1 S0).bind fun x1 => if x1 = 0 then ((some (up2 S0 v0 8 ((S0 v0 8) + 1))).bind fun S1 => some (0, S1)) else ((ix v1 12).bind fun i1 => bd (fp_add (v0 + 12 + 13 * i1 + 3) v2 v3 S0) fun x2 S2 => if x2 = 0 then ((some (up2 S2 v0 8 ((S2 v0 8) + 1))).bind fun S3 => some (0, S3)) else (some (1, S2)))
set_option maxRecDepth 20000 in
set_option maxHeartbeats 4000000 in
theorem tw_send {scr : Nat × (Nat → Int32)} {d : Nat} (hd : 1 ≤ d) (v0 : Nat) (v1 : Int32) (v2 : Int32) (v3 : Int32) (S0 : Mem) (tv0 : Ty 6 v0) (rv : Int32) (SR : Mem) (E : fw_send  v0 v1 v2 v3 S0 = some (rv, SR)) : XG scr d 63 0 [(0, .inr (some (some v0))), (1, .inl v1), (2, .inl v2), (3, .inl v3)] [] S0 (some (.inl rv)) SR := by
  unfold fw_send at E
  refine g_aload rfl rfl ?_
  refine g_iload rfl rfl ?_
  obtain ⟨x1, h1, E⟩ := ob E
  refine g_inv1 (dc := 0) rfl (by omega) tv0 (Nat.le_of_ble_eq_true rfl) (fun d hd => tw_isLive hd v0 v1 S0 tv0 _ h1) ?_
  rcases xif E with ⟨h2, E⟩ | ⟨h2, E⟩
  · refine g_ifeq_t rfl h2 ?_
    refine g_push rfl ?_
    refine g_istore (L2 := [(4, .inl 0), (0, .inr (some (some v0))), (1, .inl v1), (2, .inl v2), (3, .inl v3)]) rfl rfl ?_
    refine g_iload rfl rfl ?_
    refine g_ifne_t rfl (by decide) ?_
    refine g_aload rfl rfl ?_
    refine g_dup rfl ?_
    refine g_getI rfl tv0 ?_
    refine g_push rfl ?_
    refine g_iadd rfl ?_
    obtain ⟨S1, hS1, E⟩ := ob E
    refine g_putI rfl tv0 hS1 ?_
    refine g_iload rfl rfl ?_
    obtain ⟨rfl, rfl⟩ := so2 E
    exact g_zret rfl b00
  · refine g_ifeq_f rfl h2 ?_
    refine g_aload rfl rfl ?_
    refine g_getR rfl tv0 (fR_6_0 tv0) ?_
    refine g_iload rfl rfl ?_
    obtain ⟨i1, h3, E⟩ := ob E
    refine g_aald rfl (eK_a _ tv0.1 tv0.2).1.1 (eK_a _ tv0.1 tv0.2).1.2 (by decide) h3 (rA_a tv0 h3) ?_
    refine g_getR rfl (eT_a tv0 h3) (fR_0_8 (eT_a tv0 h3)) ?_
    refine g_iload rfl rfl ?_
    refine g_iload rfl rfl ?_
    obtain ⟨x2, S2, h4, E⟩ := ob2 E
    refine g_inv2 (dc := 0) rfl (by omega) (fT_0_8 (eT_a tv0 h3)) (Nat.le_of_ble_eq_true rfl) (fun d hd => tp_add hd (v0 + 12 + 13 * i1 + 3) v2 v3 S0 (fT_0_8 (eT_a tv0 h3)) _ _ h4) ?_
    rcases xif E with ⟨h5, E⟩ | ⟨h5, E⟩
    · refine g_ifeq_t rfl h5 ?_
      refine g_push rfl ?_
      refine g_istore (L2 := [(4, .inl 0), (0, .inr (some (some v0))), (1, .inl v1), (2, .inl v2), (3, .inl v3)]) rfl rfl ?_
      refine g_iload rfl rfl ?_
      refine g_ifne_t rfl (by decide) ?_
      refine g_aload rfl rfl ?_
      refine g_dup rfl ?_
      refine g_getI rfl tv0 ?_
      refine g_push rfl ?_
      refine g_iadd rfl ?_
      obtain ⟨S3, hS3, E⟩ := ob E
      refine g_putI rfl tv0 hS3 ?_
      refine g_iload rfl rfl ?_
      obtain ⟨rfl, rfl⟩ := so2 E
      exact g_zret rfl b00
    · refine g_ifeq_f rfl h5 ?_
      refine g_push rfl ?_
      refine g_goto rfl ?_
      refine g_istore (L2 := [(4, .inl 1), (0, .inr (some (some v0))), (1, .inl v1), (2, .inl v2), (3, .inl v3)]) rfl rfl ?_
      refine g_iload rfl rfl ?_
      refine g_ifne_f rfl (by decide) ?_
      refine g_iload rfl rfl ?_
      obtain ⟨rfl, rfl⟩ := so2 E
      exact g_zret rfl b01
def fw_sendDown_6b (k6 : Nat → Int32 → Int32 → Int32 → Int32 → Int32 → Mem → Option Mem) (v0 : Nat) (v1 : Int32) (v2 : Int32) (v3 : Int32) (v4 : Int32) (v5 : Int32) (S0 : Mem) : Option Mem := if (S0 v0 4) ≤ v5 then (some S0) else (if v3 ≤ v4 then (some S0) else ((fw_isLiveChild v0 v5 v1 S0).bind fun x1 => if x1 = 0 then (k6 v0 v1 v2 v3 v4 (v5 + 1) S0) else (bd (fw_send v0 v5 v1 v2 S0) fun x2 S1 => k6 v0 v1 v2 v3 (v4 + 1) (v5 + 1) S1)))
set_option maxRecDepth 20000 in
set_option maxHeartbeats 4000000 in
theorem tw_sendDown_6b {scr : Nat × (Nat → Int32)} {d : Nat} (hd : 2 ≤ d) {k6 : Nat → Int32 → Int32 → Int32 → Int32 → Int32 → Mem → Option Mem} (hk6 : ∀ (v0 : Nat) (v1 : Int32) (v2 : Int32) (v3 : Int32) (v4 : Int32) (v5 : Int32) (S0 : Mem), Ty 6 v0 → ∀ (SR : Mem), k6 v0 v1 v2 v3 v4 v5 S0 = some SR → XG scr d 64 6 [(0, .inr (some (some v0))), (1, .inl v1), (2, .inl v2), (3, .inl v3), (4, .inl v4), (5, .inl v5)] [] S0 none SR) (v0 : Nat) (v1 : Int32) (v2 : Int32) (v3 : Int32) (v4 : Int32) (v5 : Int32) (S0 : Mem) (tv0 : Ty 6 v0) (SR : Mem) (E : fw_sendDown_6b k6 v0 v1 v2 v3 v4 v5 S0 = some SR) : XG scr d 64 6 [(0, .inr (some (some v0))), (1, .inl v1), (2, .inl v2), (3, .inl v3), (4, .inl v4), (5, .inl v5)] [] S0 none SR := by
  unfold fw_sendDown_6b at E
  refine g_iload rfl rfl ?_
  refine g_aload rfl rfl ?_
  refine g_getI rfl tv0 ?_
  rcases xif E with ⟨h1, E⟩ | ⟨h1, E⟩
  · refine g_icge_t rfl h1 ?_
    obtain rfl := so1 E
    exact g_ret rfl
  · refine g_icge_f rfl h1 ?_
    refine g_iload rfl rfl ?_
    refine g_iload rfl rfl ?_
    rcases xif E with ⟨h2, E⟩ | ⟨h2, E⟩
    · refine g_icge_t rfl h2 ?_
      obtain rfl := so1 E
      exact g_ret rfl
    · refine g_icge_f rfl h2 ?_
      refine g_aload rfl rfl ?_
      refine g_iload rfl rfl ?_
      refine g_iload rfl rfl ?_
      obtain ⟨x1, h3, E⟩ := ob E
      refine g_inv2 (dc := 0) rfl (by omega) tv0 (Nat.le_of_ble_eq_true rfl) (fun d hd => tw_isLiveChild hd v0 v5 v1 S0 tv0 _ h3) ?_
      rcases xif E with ⟨h4, E⟩ | ⟨h4, E⟩
      · refine g_ifeq_t rfl h4 ?_
        refine g_iinc (L2 := [(5, .inl (v5 + 1)), (0, .inr (some (some v0))), (1, .inl v1), (2, .inl v2), (3, .inl v3), (4, .inl v4)]) rfl rfl rfl ?_
        refine g_goto rfl ?_
        exact g_loc (lsub_cons rfl (lsub_cons rfl (lsub_cons rfl (lsub_cons rfl (lsub_cons rfl (lsub_cons rfl lsub_nil)))))) (hk6 v0 v1 v2 v3 v4 (v5 + 1) S0 tv0 _ E)
      · refine g_ifeq_f rfl h4 ?_
        refine g_aload rfl rfl ?_
        refine g_iload rfl rfl ?_
        refine g_iload rfl rfl ?_
        refine g_iload rfl rfl ?_
        obtain ⟨x2, S1, h5, E⟩ := ob2 E
        refine g_inv3 (dc := 1) rfl (by omega) tv0 (Nat.le_of_ble_eq_true rfl) (fun d hd => tw_send hd v0 v5 v1 v2 S0 tv0 _ _ h5) ?_
        refine g_pop rfl ?_
        refine g_iinc (L2 := [(4, .inl (v4 + 1)), (0, .inr (some (some v0))), (1, .inl v1), (2, .inl v2), (3, .inl v3), (5, .inl v5)]) rfl rfl rfl ?_
        refine g_iinc (L2 := [(5, .inl (v5 + 1)), (4, .inl (v4 + 1)), (0, .inr (some (some v0))), (1, .inl v1), (2, .inl v2), (3, .inl v3)]) rfl rfl rfl ?_
        refine g_goto rfl ?_
        exact g_loc (lsub_cons rfl (lsub_cons rfl (lsub_cons rfl (lsub_cons rfl (lsub_cons rfl (lsub_cons rfl lsub_nil)))))) (hk6 v0 v1 v2 v3 (v4 + 1) (v5 + 1) S1 tv0 _ E)
def fw_sendDown_6  : Nat → Nat → Int32 → Int32 → Int32 → Int32 → Int32 → Mem → Option Mem
  | 0 => fun _ _ _ _ _ _ _ => none
  | n + 1 => fw_sendDown_6b  (fw_sendDown_6  n)
set_option maxRecDepth 20000 in
set_option maxHeartbeats 4000000 in
theorem tw_sendDown_6 {scr : Nat × (Nat → Int32)} {d : Nat} (hd : 2 ≤ d)  : ∀ (n : Nat) (v0 : Nat) (v1 : Int32) (v2 : Int32) (v3 : Int32) (v4 : Int32) (v5 : Int32) (S0 : Mem), Ty 6 v0 → ∀ (SR : Mem), fw_sendDown_6  n v0 v1 v2 v3 v4 v5 S0 = some SR → XG scr d 64 6 [(0, .inr (some (some v0))), (1, .inl v1), (2, .inl v2), (3, .inl v3), (4, .inl v4), (5, .inl v5)] [] S0 none SR
  | 0, v0, v1, v2, v3, v4, v5, S0, tv0, SR, E => nn E
  | n + 1, v0, v1, v2, v3, v4, v5, S0, tv0, SR, E => tw_sendDown_6b hd  (tw_sendDown_6 hd  n) v0 v1 v2 v3 v4 v5 S0 tv0 SR E
def fw_sendDown (v0 : Nat) (v1 : Int32) (v2 : Int32) (v3 : Int32) (S0 : Mem) : Option Mem := fw_sendDown_6 LF v0 v1 v2 v3 0 0 S0
set_option maxRecDepth 20000 in
set_option maxHeartbeats 4000000 in
theorem tw_sendDown {scr : Nat × (Nat → Int32)} {d : Nat} (hd : 2 ≤ d) (v0 : Nat) (v1 : Int32) (v2 : Int32) (v3 : Int32) (S0 : Mem) (tv0 : Ty 6 v0) (SR : Mem) (E : fw_sendDown  v0 v1 v2 v3 S0 = some SR) : XG scr d 64 0 [(0, .inr (some (some v0))), (1, .inl v1), (2, .inl v2), (3, .inl v3)] [] S0 none SR := by
  unfold fw_sendDown at E
  refine g_push rfl ?_
  refine g_istore (L2 := [(4, .inl 0), (0, .inr (some (some v0))), (1, .inl v1), (2, .inl v2), (3, .inl v3)]) rfl rfl ?_
  refine g_push rfl ?_
  refine g_istore (L2 := [(5, .inl 0), (4, .inl 0), (0, .inr (some (some v0))), (1, .inl v1), (2, .inl v2), (3, .inl v3)]) rfl rfl ?_
  exact g_loc (lsub_cons rfl (lsub_cons rfl (lsub_cons rfl (lsub_cons rfl (lsub_cons rfl (lsub_cons rfl lsub_nil)))))) (tw_sendDown_6 hd LF v0 v1 v2 v3 0 0 S0 tv0 _ E)
def fw_watch (v0 : Nat) (v1 : Int32) (v2 : Int32) (S0 : Mem) : Option Mem := if 0 < (S0 v0 4) then ((nz (S0 v0 4)).bind fun z1 => if (irm v2 (S0 v0 4)) = v1 then (some S0) else ((fw_isActor v0 (irm v2 (S0 v0 4)) S0).bind fun x1 => if x1 = 0 then (some S0) else ((fw_isLive v0 (irm v2 (S0 v0 4)) S0).bind fun x2 => if x2 = 0 then (bd (fw_send v0 v1 v1 (200 + (irm v2 (S0 v0 4))) S0) fun x3 S1 => some S1) else ((ix (irm v2 (S0 v0 4)) 12).bind fun i1 => (fn_has (v0 + 12 + 13 * i1 + 9) v1 S0).bind fun x4 => if x4 = 0 then ((ix (irm v2 (S0 v0 4)) 12).bind fun i2 => bd (fn_add (v0 + 12 + 13 * i2 + 9) v1 S0) fun x5 S2 => some S2) else (some S0))))) else (some S0)
set_option maxRecDepth 20000 in
set_option maxHeartbeats 4000000 in
theorem tw_watch {scr : Nat × (Nat → Int32)} {d : Nat} (hd : 2 ≤ d) (v0 : Nat) (v1 : Int32) (v2 : Int32) (S0 : Mem) (tv0 : Ty 6 v0) (SR : Mem) (E : fw_watch  v0 v1 v2 S0 = some SR) : XG scr d 67 0 [(0, .inr (some (some v0))), (1, .inl v1), (2, .inl v2)] [] S0 none SR := by
  unfold fw_watch at E
  refine g_aload rfl rfl ?_
  refine g_getI rfl tv0 ?_
  rcases xif E with ⟨h1, E⟩ | ⟨h1, E⟩
  · refine g_ifgt_t rfl h1 ?_
    refine g_iload rfl rfl ?_
    refine g_aload rfl rfl ?_
    refine g_getI rfl tv0 ?_
    obtain ⟨z1, h2, E⟩ := ob E
    refine g_irem rfl (nz_of h2).1 ?_
    refine g_istore (L2 := [(3, .inl (irm v2 (S0 v0 4))), (0, .inr (some (some v0))), (1, .inl v1), (2, .inl v2)]) rfl rfl ?_
    refine g_iload rfl rfl ?_
    refine g_iload rfl rfl ?_
    rcases xif E with ⟨h3, E⟩ | ⟨h3, E⟩
    · refine g_iceq_t rfl h3 ?_
      obtain rfl := so1 E
      exact g_ret rfl
    · refine g_iceq_f rfl h3 ?_
      refine g_aload rfl rfl ?_
      refine g_iload rfl rfl ?_
      obtain ⟨x1, h4, E⟩ := ob E
      refine g_inv1 (dc := 0) rfl (by omega) tv0 (Nat.le_of_ble_eq_true rfl) (fun d hd => tw_isActor hd v0 (irm v2 (S0 v0 4)) S0 tv0 _ h4) ?_
      rcases xif E with ⟨h5, E⟩ | ⟨h5, E⟩
      · refine g_ifne_t rfl h5 ?_
        obtain rfl := so1 E
        exact g_ret rfl
      · refine g_ifne_f rfl h5 ?_
        refine g_aload rfl rfl ?_
        refine g_iload rfl rfl ?_
        obtain ⟨x2, h6, E⟩ := ob E
        refine g_inv1 (dc := 0) rfl (by omega) tv0 (Nat.le_of_ble_eq_true rfl) (fun d hd => tw_isLive hd v0 (irm v2 (S0 v0 4)) S0 tv0 _ h6) ?_
        rcases xif E with ⟨h7, E⟩ | ⟨h7, E⟩
        · refine g_ifne_t rfl h7 ?_
          refine g_aload rfl rfl ?_
          refine g_iload rfl rfl ?_
          refine g_iload rfl rfl ?_
          refine g_push rfl ?_
          refine g_iload rfl rfl ?_
          refine g_iadd rfl ?_
          obtain ⟨x3, S1, h8, E⟩ := ob2 E
          refine g_inv3 (dc := 1) rfl (by omega) tv0 (Nat.le_of_ble_eq_true rfl) (fun d hd => tw_send hd v0 v1 v1 (200 + (irm v2 (S0 v0 4))) S0 tv0 _ _ h8) ?_
          refine g_pop rfl ?_
          refine g_goto rfl ?_
          obtain rfl := so1 E
          exact g_ret rfl
        · refine g_ifne_f rfl h7 ?_
          refine g_aload rfl rfl ?_
          refine g_getR rfl tv0 (fR_6_0 tv0) ?_
          refine g_iload rfl rfl ?_
          obtain ⟨i1, h9, E⟩ := ob E
          refine g_aald rfl (eK_a _ tv0.1 tv0.2).1.1 (eK_a _ tv0.1 tv0.2).1.2 (by decide) h9 (rA_a tv0 h9) ?_
          refine g_getR rfl (eT_a tv0 h9) (fR_0_10 (eT_a tv0 h9)) ?_
          refine g_iload rfl rfl ?_
          obtain ⟨x4, h10, E⟩ := ob E
          refine g_inv1 (dc := 0) rfl (by omega) (fT_0_10 (eT_a tv0 h9)) (Nat.le_of_ble_eq_true rfl) (fun d hd => tn_has hd (v0 + 12 + 13 * i1 + 9) v1 S0 (fT_0_10 (eT_a tv0 h9)) _ h10) ?_
          rcases xif E with ⟨h11, E⟩ | ⟨h11, E⟩
          · refine g_ifne_t rfl h11 ?_
            refine g_aload rfl rfl ?_
            refine g_getR rfl tv0 (fR_6_0 tv0) ?_
            refine g_iload rfl rfl ?_
            obtain ⟨i2, h12, E⟩ := ob E
            refine g_aald rfl (eK_a _ tv0.1 tv0.2).1.1 (eK_a _ tv0.1 tv0.2).1.2 (by decide) h12 (rA_a tv0 h12) ?_
            refine g_getR rfl (eT_a tv0 h12) (fR_0_10 (eT_a tv0 h12)) ?_
            refine g_iload rfl rfl ?_
            obtain ⟨x5, S2, h13, E⟩ := ob2 E
            refine g_inv1 (dc := 0) rfl (by omega) (fT_0_10 (eT_a tv0 h12)) (Nat.le_of_ble_eq_true rfl) (fun d hd => tn_add hd (v0 + 12 + 13 * i2 + 9) v1 S0 (fT_0_10 (eT_a tv0 h12)) _ _ h13) ?_
            refine g_pop rfl ?_
            obtain rfl := so1 E
            exact g_ret rfl
          · refine g_ifne_f rfl h11 ?_
            obtain rfl := so1 E
            exact g_ret rfl
  · refine g_ifgt_f rfl h1 ?_
    obtain rfl := so1 E
    exact g_ret rfl
def fw_greatestLiveChild_7b (k7 : Nat → Int32 → Int32 → Mem → Option Int32) (v0 : Nat) (v1 : Int32) (v2 : Int32) (S0 : Mem) : Option Int32 := if v2 ≤ v1 then (some ((-1))) else ((fw_isLiveChild v0 v2 v1 S0).bind fun x1 => if x1 = 0 then (k7 v0 v1 (v2 + (-1)) S0) else (some v2))
set_option maxRecDepth 20000 in
set_option maxHeartbeats 4000000 in
theorem tw_greatestLiveChild_7b {scr : Nat × (Nat → Int32)} {d : Nat} (hd : 1 ≤ d) {k7 : Nat → Int32 → Int32 → Mem → Option Int32} (hk7 : ∀ (v0 : Nat) (v1 : Int32) (v2 : Int32) (S0 : Mem), Ty 6 v0 → ∀ (rv : Int32), k7 v0 v1 v2 S0 = some rv → XG scr d 48 7 [(0, .inr (some (some v0))), (1, .inl v1), (2, .inl v2)] [] S0 (some (.inl rv)) S0) (v0 : Nat) (v1 : Int32) (v2 : Int32) (S0 : Mem) (tv0 : Ty 6 v0) (rv : Int32) (E : fw_greatestLiveChild_7b k7 v0 v1 v2 S0 = some rv) : XG scr d 48 7 [(0, .inr (some (some v0))), (1, .inl v1), (2, .inl v2)] [] S0 (some (.inl rv)) S0 := by
  unfold fw_greatestLiveChild_7b at E
  refine g_iload rfl rfl ?_
  refine g_iload rfl rfl ?_
  rcases xif E with ⟨h1, E⟩ | ⟨h1, E⟩
  · refine g_icle_t rfl h1 ?_
    refine g_push rfl ?_
    obtain rfl := so1 E
    exact g_iret rfl
  · refine g_icle_f rfl h1 ?_
    refine g_aload rfl rfl ?_
    refine g_iload rfl rfl ?_
    refine g_iload rfl rfl ?_
    obtain ⟨x1, h2, E⟩ := ob E
    refine g_inv2 (dc := 0) rfl (by omega) tv0 (Nat.le_of_ble_eq_true rfl) (fun d hd => tw_isLiveChild hd v0 v2 v1 S0 tv0 _ h2) ?_
    rcases xif E with ⟨h3, E⟩ | ⟨h3, E⟩
    · refine g_ifeq_t rfl h3 ?_
      refine g_iinc (L2 := [(2, .inl (v2 + (-1))), (0, .inr (some (some v0))), (1, .inl v1)]) rfl rfl rfl ?_
      refine g_goto rfl ?_
      exact g_loc (lsub_cons rfl (lsub_cons rfl (lsub_cons rfl lsub_nil))) (hk7 v0 v1 (v2 + (-1)) S0 tv0 _ E)
    · refine g_ifeq_f rfl h3 ?_
      refine g_iload rfl rfl ?_
      obtain rfl := so1 E
      exact g_iret rfl
def fw_greatestLiveChild_7  : Nat → Nat → Int32 → Int32 → Mem → Option Int32
  | 0 => fun _ _ _ _ => none
  | n + 1 => fw_greatestLiveChild_7b  (fw_greatestLiveChild_7  n)
set_option maxRecDepth 20000 in
set_option maxHeartbeats 4000000 in
theorem tw_greatestLiveChild_7 {scr : Nat × (Nat → Int32)} {d : Nat} (hd : 1 ≤ d)  : ∀ (n : Nat) (v0 : Nat) (v1 : Int32) (v2 : Int32) (S0 : Mem), Ty 6 v0 → ∀ (rv : Int32), fw_greatestLiveChild_7  n v0 v1 v2 S0 = some rv → XG scr d 48 7 [(0, .inr (some (some v0))), (1, .inl v1), (2, .inl v2)] [] S0 (some (.inl rv)) S0
  | 0, v0, v1, v2, S0, tv0, rv, E => nn E
  | n + 1, v0, v1, v2, S0, tv0, rv, E => tw_greatestLiveChild_7b hd  (tw_greatestLiveChild_7 hd  n) v0 v1 v2 S0 tv0 rv E
def fw_greatestLiveChild (v0 : Nat) (v1 : Int32) (S0 : Mem) : Option Int32 := fw_greatestLiveChild_7 LF v0 v1 ((S0 v0 4) - 1) S0
set_option maxRecDepth 20000 in
set_option maxHeartbeats 4000000 in
theorem tw_greatestLiveChild {scr : Nat × (Nat → Int32)} {d : Nat} (hd : 1 ≤ d) (v0 : Nat) (v1 : Int32) (S0 : Mem) (tv0 : Ty 6 v0) (rv : Int32) (E : fw_greatestLiveChild  v0 v1 S0 = some rv) : XG scr d 48 0 [(0, .inr (some (some v0))), (1, .inl v1)] [] S0 (some (.inl rv)) S0 := by
  unfold fw_greatestLiveChild at E
  refine g_aload rfl rfl ?_
  refine g_getI rfl tv0 ?_
  refine g_push rfl ?_
  refine g_isub rfl ?_
  refine g_istore (L2 := [(2, .inl ((S0 v0 4) - 1)), (0, .inr (some (some v0))), (1, .inl v1)]) rfl rfl ?_
  exact g_loc (lsub_cons rfl (lsub_cons rfl (lsub_cons rfl lsub_nil))) (tw_greatestLiveChild_7 hd LF v0 v1 ((S0 v0 4) - 1) S0 tv0 _ E)
def fw_halt_128b (k7 : Nat → Int32 → Int32 → Int32 → Int32 → Mem → Option (Int32 × Mem)) (k128 : Nat → Int32 → Int32 → Int32 → Int32 → Nat → Int32 → Mem → Option (Int32 × Mem)) (v0 : Nat) (v1 : Int32) (v2 : Int32) (v3 : Int32) (v4 : Int32) (v6 : Nat) (v7 : Int32) (S0 : Mem) : Option (Int32 × Mem) := if (S0 (v6 + 9) 1) ≤ v7 then ((some (up2 S0 (v6 + 9) 1 0)).bind fun S1 => if v3 = v1 then (k7 v0 v1 (v2 + 1) ((-1)) (v4 + 1) S1) else (k7 v0 v1 (v2 + 1) (S1 v6 0) (v4 + 1) S1)) else ((fn_at (v6 + 9) v7 S0).bind fun x1 => bd (fw_send v0 x1 ((-1)) (200 + v3) S0) fun x2 S2 => k128 v0 v1 v2 v3 v4 v6 (v7 + 1) S2)
set_option maxRecDepth 20000 in
set_option maxHeartbeats 4000000 in
theorem tw_halt_128b {scr : Nat × (Nat → Int32)} {d : Nat} (hd : 2 ≤ d) {k7 : Nat → Int32 → Int32 → Int32 → Int32 → Mem → Option (Int32 × Mem)} (hk7 : ∀ (v0 : Nat) (v1 : Int32) (v2 : Int32) (v3 : Int32) (v4 : Int32) (S0 : Mem), Ty 6 v0 → ∀ (rv : Int32) (SR : Mem), k7 v0 v1 v2 v3 v4 S0 = some (rv, SR) → XG scr d 49 7 [(0, .inr (some (some v0))), (1, .inl v1), (2, .inl v2), (3, .inl v3), (4, .inl v4)] [] S0 (some (.inl rv)) SR) {k128 : Nat → Int32 → Int32 → Int32 → Int32 → Nat → Int32 → Mem → Option (Int32 × Mem)} (hk128 : ∀ (v0 : Nat) (v1 : Int32) (v2 : Int32) (v3 : Int32) (v4 : Int32) (v6 : Nat) (v7 : Int32) (S0 : Mem), Ty 6 v0 → Ty 0 v6 → ∀ (rv : Int32) (SR : Mem), k128 v0 v1 v2 v3 v4 v6 v7 S0 = some (rv, SR) → XG scr d 49 128 [(0, .inr (some (some v0))), (1, .inl v1), (2, .inl v2), (3, .inl v3), (4, .inl v4), (6, .inr (some (some v6))), (7, .inl v7)] [] S0 (some (.inl rv)) SR) (v0 : Nat) (v1 : Int32) (v2 : Int32) (v3 : Int32) (v4 : Int32) (v6 : Nat) (v7 : Int32) (S0 : Mem) (tv0 : Ty 6 v0) (tv6 : Ty 0 v6) (rv : Int32) (SR : Mem) (E : fw_halt_128b k7 k128 v0 v1 v2 v3 v4 v6 v7 S0 = some (rv, SR)) : XG scr d 49 128 [(0, .inr (some (some v0))), (1, .inl v1), (2, .inl v2), (3, .inl v3), (4, .inl v4), (6, .inr (some (some v6))), (7, .inl v7)] [] S0 (some (.inl rv)) SR := by
  unfold fw_halt_128b at E
  refine g_iload rfl rfl ?_
  refine g_aload rfl rfl ?_
  refine g_getR rfl tv6 (fR_0_10 tv6) ?_
  refine g_getI rfl (fT_0_10 tv6) ?_
  rcases xif E with ⟨h1, E⟩ | ⟨h1, E⟩
  · refine g_icge_t rfl h1 ?_
    refine g_aload rfl rfl ?_
    refine g_getR rfl tv6 (fR_0_10 tv6) ?_
    refine g_push rfl ?_
    obtain ⟨S1, hS1, E⟩ := ob E
    refine g_putI rfl (fT_0_10 tv6) hS1 ?_
    refine g_iinc (L2 := [(2, .inl (v2 + 1)), (0, .inr (some (some v0))), (1, .inl v1), (3, .inl v3), (4, .inl v4), (6, .inr (some (some v6))), (7, .inl v7)]) rfl rfl rfl ?_
    refine g_iload rfl rfl ?_
    refine g_iload rfl rfl ?_
    rcases xif E with ⟨h2, E⟩ | ⟨h2, E⟩
    · refine g_icne_t rfl h2 ?_
      refine g_push rfl ?_
      refine g_goto rfl ?_
      refine g_istore (L2 := [(3, .inl ((-1))), (2, .inl (v2 + 1)), (0, .inr (some (some v0))), (1, .inl v1), (4, .inl v4), (6, .inr (some (some v6))), (7, .inl v7)]) rfl rfl ?_
      refine g_iinc (L2 := [(4, .inl (v4 + 1)), (3, .inl ((-1))), (2, .inl (v2 + 1)), (0, .inr (some (some v0))), (1, .inl v1), (6, .inr (some (some v6))), (7, .inl v7)]) rfl rfl rfl ?_
      refine g_goto rfl ?_
      exact g_loc (lsub_cons rfl (lsub_cons rfl (lsub_cons rfl (lsub_cons rfl (lsub_cons rfl lsub_nil))))) (hk7 v0 v1 (v2 + 1) ((-1)) (v4 + 1) S1 tv0 _ _ E)
    · refine g_icne_f rfl h2 ?_
      refine g_aload rfl rfl ?_
      refine g_getI rfl tv6 ?_
      refine g_istore (L2 := [(3, .inl (S1 v6 0)), (2, .inl (v2 + 1)), (0, .inr (some (some v0))), (1, .inl v1), (4, .inl v4), (6, .inr (some (some v6))), (7, .inl v7)]) rfl rfl ?_
      refine g_iinc (L2 := [(4, .inl (v4 + 1)), (3, .inl (S1 v6 0)), (2, .inl (v2 + 1)), (0, .inr (some (some v0))), (1, .inl v1), (6, .inr (some (some v6))), (7, .inl v7)]) rfl rfl rfl ?_
      refine g_goto rfl ?_
      exact g_loc (lsub_cons rfl (lsub_cons rfl (lsub_cons rfl (lsub_cons rfl (lsub_cons rfl lsub_nil))))) (hk7 v0 v1 (v2 + 1) (S1 v6 0) (v4 + 1) S1 tv0 _ _ E)
  · refine g_icge_f rfl h1 ?_
    refine g_aload rfl rfl ?_
    refine g_aload rfl rfl ?_
    refine g_getR rfl tv6 (fR_0_10 tv6) ?_
    refine g_iload rfl rfl ?_
    obtain ⟨x1, h3, E⟩ := ob E
    refine g_inv1 (dc := 0) rfl (by omega) (fT_0_10 tv6) (Nat.le_of_ble_eq_true rfl) (fun d hd => tn_at hd (v6 + 9) v7 S0 (fT_0_10 tv6) _ h3) ?_
    refine g_push rfl ?_
    refine g_push rfl ?_
    refine g_iload rfl rfl ?_
    refine g_iadd rfl ?_
    obtain ⟨x2, S2, h4, E⟩ := ob2 E
    refine g_inv3 (dc := 1) rfl (by omega) tv0 (Nat.le_of_ble_eq_true rfl) (fun d hd => tw_send hd v0 x1 ((-1)) (200 + v3) S0 tv0 _ _ h4) ?_
    refine g_pop rfl ?_
    refine g_iinc (L2 := [(7, .inl (v7 + 1)), (0, .inr (some (some v0))), (1, .inl v1), (2, .inl v2), (3, .inl v3), (4, .inl v4), (6, .inr (some (some v6)))]) rfl rfl rfl ?_
    refine g_goto rfl ?_
    exact g_loc (lsub_cons rfl (lsub_cons rfl (lsub_cons rfl (lsub_cons rfl (lsub_cons rfl (lsub_cons rfl (lsub_cons rfl lsub_nil))))))) (hk128 v0 v1 v2 v3 v4 v6 (v7 + 1) S2 tv0 tv6 _ _ E)
def fw_halt_128 (k7 : Nat → Int32 → Int32 → Int32 → Int32 → Mem → Option (Int32 × Mem)) : Nat → Nat → Int32 → Int32 → Int32 → Int32 → Nat → Int32 → Mem → Option (Int32 × Mem)
  | 0 => fun _ _ _ _ _ _ _ _ => none
  | n + 1 => fw_halt_128b  k7 (fw_halt_128 k7 n)
set_option maxRecDepth 20000 in
set_option maxHeartbeats 4000000 in
theorem tw_halt_128 {scr : Nat × (Nat → Int32)} {d : Nat} (hd : 2 ≤ d) {k7 : Nat → Int32 → Int32 → Int32 → Int32 → Mem → Option (Int32 × Mem)} (hk7 : ∀ (v0 : Nat) (v1 : Int32) (v2 : Int32) (v3 : Int32) (v4 : Int32) (S0 : Mem), Ty 6 v0 → ∀ (rv : Int32) (SR : Mem), k7 v0 v1 v2 v3 v4 S0 = some (rv, SR) → XG scr d 49 7 [(0, .inr (some (some v0))), (1, .inl v1), (2, .inl v2), (3, .inl v3), (4, .inl v4)] [] S0 (some (.inl rv)) SR) : ∀ (n : Nat) (v0 : Nat) (v1 : Int32) (v2 : Int32) (v3 : Int32) (v4 : Int32) (v6 : Nat) (v7 : Int32) (S0 : Mem), Ty 6 v0 → Ty 0 v6 → ∀ (rv : Int32) (SR : Mem), fw_halt_128 k7 n v0 v1 v2 v3 v4 v6 v7 S0 = some (rv, SR) → XG scr d 49 128 [(0, .inr (some (some v0))), (1, .inl v1), (2, .inl v2), (3, .inl v3), (4, .inl v4), (6, .inr (some (some v6))), (7, .inl v7)] [] S0 (some (.inl rv)) SR
  | 0, v0, v1, v2, v3, v4, v6, v7, S0, tv0, tv6, rv, SR, E => nn E
  | n + 1, v0, v1, v2, v3, v4, v6, v7, S0, tv0, tv6, rv, SR, E => tw_halt_128b hd  hk7 (tw_halt_128 hd hk7 n) v0 v1 v2 v3 v4 v6 v7 S0 tv0 tv6 rv SR E
def fw_halt_89b (k7 : Nat → Int32 → Int32 → Int32 → Int32 → Mem → Option (Int32 × Mem)) (k89 : Nat → Int32 → Int32 → Int32 → Int32 → Nat → Int32 → Mem → Option (Int32 × Mem)) (v0 : Nat) (v1 : Int32) (v2 : Int32) (v3 : Int32) (v4 : Int32) (v6 : Nat) (v7 : Int32) (S0 : Mem) : Option (Int32 × Mem) := if (S0 v0 4) ≤ v7 then (fw_halt_128 k7 LF v0 v1 v2 v3 v4 v6 0 S0) else (if 12 ≤ v7 then (fw_halt_128 k7 LF v0 v1 v2 v3 v4 v6 0 S0) else ((ix v7 12).bind fun i1 => (fn_remove (v0 + 12 + 13 * i1 + 9) v3 S0).bind fun S1 => k89 v0 v1 v2 v3 v4 v6 (v7 + 1) S1))
set_option maxRecDepth 20000 in
set_option maxHeartbeats 4000000 in
theorem tw_halt_89b {scr : Nat × (Nat → Int32)} {d : Nat} (hd : 2 ≤ d) {k7 : Nat → Int32 → Int32 → Int32 → Int32 → Mem → Option (Int32 × Mem)} (hk7 : ∀ (v0 : Nat) (v1 : Int32) (v2 : Int32) (v3 : Int32) (v4 : Int32) (S0 : Mem), Ty 6 v0 → ∀ (rv : Int32) (SR : Mem), k7 v0 v1 v2 v3 v4 S0 = some (rv, SR) → XG scr d 49 7 [(0, .inr (some (some v0))), (1, .inl v1), (2, .inl v2), (3, .inl v3), (4, .inl v4)] [] S0 (some (.inl rv)) SR) {k89 : Nat → Int32 → Int32 → Int32 → Int32 → Nat → Int32 → Mem → Option (Int32 × Mem)} (hk89 : ∀ (v0 : Nat) (v1 : Int32) (v2 : Int32) (v3 : Int32) (v4 : Int32) (v6 : Nat) (v7 : Int32) (S0 : Mem), Ty 6 v0 → Ty 0 v6 → ∀ (rv : Int32) (SR : Mem), k89 v0 v1 v2 v3 v4 v6 v7 S0 = some (rv, SR) → XG scr d 49 89 [(0, .inr (some (some v0))), (1, .inl v1), (2, .inl v2), (3, .inl v3), (4, .inl v4), (6, .inr (some (some v6))), (7, .inl v7)] [] S0 (some (.inl rv)) SR) (v0 : Nat) (v1 : Int32) (v2 : Int32) (v3 : Int32) (v4 : Int32) (v6 : Nat) (v7 : Int32) (S0 : Mem) (tv0 : Ty 6 v0) (tv6 : Ty 0 v6) (rv : Int32) (SR : Mem) (E : fw_halt_89b k7 k89 v0 v1 v2 v3 v4 v6 v7 S0 = some (rv, SR)) : XG scr d 49 89 [(0, .inr (some (some v0))), (1, .inl v1), (2, .inl v2), (3, .inl v3), (4, .inl v4), (6, .inr (some (some v6))), (7, .inl v7)] [] S0 (some (.inl rv)) SR := by
  unfold fw_halt_89b at E
  refine g_iload rfl rfl ?_
  refine g_aload rfl rfl ?_
  refine g_getI rfl tv0 ?_
  rcases xif E with ⟨h1, E⟩ | ⟨h1, E⟩
  · refine g_icge_t rfl h1 ?_
    refine g_push rfl ?_
    refine g_istore (L2 := [(7, .inl 0), (0, .inr (some (some v0))), (1, .inl v1), (2, .inl v2), (3, .inl v3), (4, .inl v4), (6, .inr (some (some v6)))]) rfl rfl ?_
    exact g_loc (lsub_cons rfl (lsub_cons rfl (lsub_cons rfl (lsub_cons rfl (lsub_cons rfl (lsub_cons rfl (lsub_cons rfl lsub_nil))))))) (tw_halt_128 hd hk7 LF v0 v1 v2 v3 v4 v6 0 S0 tv0 tv6 _ _ E)
  · refine g_icge_f rfl h1 ?_
    refine g_iload rfl rfl ?_
    refine g_push rfl ?_
    rcases xif E with ⟨h2, E⟩ | ⟨h2, E⟩
    · refine g_icge_t rfl h2 ?_
      refine g_push rfl ?_
      refine g_istore (L2 := [(7, .inl 0), (0, .inr (some (some v0))), (1, .inl v1), (2, .inl v2), (3, .inl v3), (4, .inl v4), (6, .inr (some (some v6)))]) rfl rfl ?_
      exact g_loc (lsub_cons rfl (lsub_cons rfl (lsub_cons rfl (lsub_cons rfl (lsub_cons rfl (lsub_cons rfl (lsub_cons rfl lsub_nil))))))) (tw_halt_128 hd hk7 LF v0 v1 v2 v3 v4 v6 0 S0 tv0 tv6 _ _ E)
    · refine g_icge_f rfl h2 ?_
      refine g_aload rfl rfl ?_
      refine g_getR rfl tv0 (fR_6_0 tv0) ?_
      refine g_iload rfl rfl ?_
      obtain ⟨i1, h3, E⟩ := ob E
      refine g_aald rfl (eK_a _ tv0.1 tv0.2).1.1 (eK_a _ tv0.1 tv0.2).1.2 (by decide) h3 (rA_a tv0 h3) ?_
      refine g_getR rfl (eT_a tv0 h3) (fR_0_10 (eT_a tv0 h3)) ?_
      refine g_iload rfl rfl ?_
      obtain ⟨S1, h4, E⟩ := ob E
      refine g_inv1 (dc := 0) rfl (by omega) (fT_0_10 (eT_a tv0 h3)) (Nat.le_of_ble_eq_true rfl) (fun d hd => tn_remove hd (v0 + 12 + 13 * i1 + 9) v3 S0 (fT_0_10 (eT_a tv0 h3)) _ h4) ?_
      refine g_iinc (L2 := [(7, .inl (v7 + 1)), (0, .inr (some (some v0))), (1, .inl v1), (2, .inl v2), (3, .inl v3), (4, .inl v4), (6, .inr (some (some v6)))]) rfl rfl rfl ?_
      refine g_goto rfl ?_
      exact g_loc (lsub_cons rfl (lsub_cons rfl (lsub_cons rfl (lsub_cons rfl (lsub_cons rfl (lsub_cons rfl (lsub_cons rfl lsub_nil))))))) (hk89 v0 v1 v2 v3 v4 v6 (v7 + 1) S1 tv0 tv6 _ _ E)
def fw_halt_89 (k7 : Nat → Int32 → Int32 → Int32 → Int32 → Mem → Option (Int32 × Mem)) : Nat → Nat → Int32 → Int32 → Int32 → Int32 → Nat → Int32 → Mem → Option (Int32 × Mem)
  | 0 => fun _ _ _ _ _ _ _ _ => none
  | n + 1 => fw_halt_89b  k7 (fw_halt_89 k7 n)
set_option maxRecDepth 20000 in
set_option maxHeartbeats 4000000 in
theorem tw_halt_89 {scr : Nat × (Nat → Int32)} {d : Nat} (hd : 2 ≤ d) {k7 : Nat → Int32 → Int32 → Int32 → Int32 → Mem → Option (Int32 × Mem)} (hk7 : ∀ (v0 : Nat) (v1 : Int32) (v2 : Int32) (v3 : Int32) (v4 : Int32) (S0 : Mem), Ty 6 v0 → ∀ (rv : Int32) (SR : Mem), k7 v0 v1 v2 v3 v4 S0 = some (rv, SR) → XG scr d 49 7 [(0, .inr (some (some v0))), (1, .inl v1), (2, .inl v2), (3, .inl v3), (4, .inl v4)] [] S0 (some (.inl rv)) SR) : ∀ (n : Nat) (v0 : Nat) (v1 : Int32) (v2 : Int32) (v3 : Int32) (v4 : Int32) (v6 : Nat) (v7 : Int32) (S0 : Mem), Ty 6 v0 → Ty 0 v6 → ∀ (rv : Int32) (SR : Mem), fw_halt_89 k7 n v0 v1 v2 v3 v4 v6 v7 S0 = some (rv, SR) → XG scr d 49 89 [(0, .inr (some (some v0))), (1, .inl v1), (2, .inl v2), (3, .inl v3), (4, .inl v4), (6, .inr (some (some v6))), (7, .inl v7)] [] S0 (some (.inl rv)) SR
  | 0, v0, v1, v2, v3, v4, v6, v7, S0, tv0, tv6, rv, SR, E => nn E
  | n + 1, v0, v1, v2, v3, v4, v6, v7, S0, tv0, tv6, rv, SR, E => tw_halt_89b hd  hk7 (tw_halt_89 hd hk7 n) v0 v1 v2 v3 v4 v6 v7 S0 tv0 tv6 rv SR E
def fw_halt_7b (k7 : Nat → Int32 → Int32 → Int32 → Int32 → Mem → Option (Int32 × Mem)) (v0 : Nat) (v1 : Int32) (v2 : Int32) (v3 : Int32) (v4 : Int32) (S0 : Mem) : Option (Int32 × Mem) := if 24 ≤ v4 then (some (v2, S0)) else ((fw_isLive v0 v3 S0).bind fun x1 => if x1 = 0 then (some (v2, S0)) else ((fw_greatestLiveChild v0 v3 S0).bind fun x2 => if x2 = ((-1)) then ((ix v3 12).bind fun i1 => (some (up2 S0 (v0 + 12 + 13 * i1) 6 0)).bind fun S1 => (some (up2 S1 (v0 + 12 + 13 * i1 + 3) 2 0)).bind fun S2 => (some (up2 S2 (v0 + 12 + 13 * i1 + 6) 2 0)).bind fun S3 => (fa_keepOwnOnly (v0 + 12 + 13 * i1) S3).bind fun S4 => (fc_removeOf (v0 + 2) v3 S4).bind fun S5 => fw_halt_89 k7 LF v0 v1 v2 v3 v4 (v0 + 12 + 13 * i1) 0 S5) else (k7 v0 v1 v2 x2 (v4 + 1) S0)))
set_option maxRecDepth 20000 in
set_option maxHeartbeats 4000000 in
theorem tw_halt_7b {scr : Nat × (Nat → Int32)} {d : Nat} (hd : 2 ≤ d) {k7 : Nat → Int32 → Int32 → Int32 → Int32 → Mem → Option (Int32 × Mem)} (hk7 : ∀ (v0 : Nat) (v1 : Int32) (v2 : Int32) (v3 : Int32) (v4 : Int32) (S0 : Mem), Ty 6 v0 → ∀ (rv : Int32) (SR : Mem), k7 v0 v1 v2 v3 v4 S0 = some (rv, SR) → XG scr d 49 7 [(0, .inr (some (some v0))), (1, .inl v1), (2, .inl v2), (3, .inl v3), (4, .inl v4)] [] S0 (some (.inl rv)) SR) (v0 : Nat) (v1 : Int32) (v2 : Int32) (v3 : Int32) (v4 : Int32) (S0 : Mem) (tv0 : Ty 6 v0) (rv : Int32) (SR : Mem) (E : fw_halt_7b k7 v0 v1 v2 v3 v4 S0 = some (rv, SR)) : XG scr d 49 7 [(0, .inr (some (some v0))), (1, .inl v1), (2, .inl v2), (3, .inl v3), (4, .inl v4)] [] S0 (some (.inl rv)) SR := by
  unfold fw_halt_7b at E
  refine g_iload rfl rfl ?_
  refine g_push rfl ?_
  rcases xif E with ⟨h1, E⟩ | ⟨h1, E⟩
  · refine g_icge_t rfl h1 ?_
    refine g_iload rfl rfl ?_
    obtain ⟨rfl, rfl⟩ := so2 E
    exact g_iret rfl
  · refine g_icge_f rfl h1 ?_
    refine g_aload rfl rfl ?_
    refine g_iload rfl rfl ?_
    obtain ⟨x1, h2, E⟩ := ob E
    refine g_inv1 (dc := 0) rfl (by omega) tv0 (Nat.le_of_ble_eq_true rfl) (fun d hd => tw_isLive hd v0 v3 S0 tv0 _ h2) ?_
    rcases xif E with ⟨h3, E⟩ | ⟨h3, E⟩
    · refine g_ifeq_t rfl h3 ?_
      refine g_iload rfl rfl ?_
      obtain ⟨rfl, rfl⟩ := so2 E
      exact g_iret rfl
    · refine g_ifeq_f rfl h3 ?_
      refine g_aload rfl rfl ?_
      refine g_iload rfl rfl ?_
      obtain ⟨x2, h4, E⟩ := ob E
      refine g_inv1 (dc := 1) rfl (by omega) tv0 (Nat.le_of_ble_eq_true rfl) (fun d hd => tw_greatestLiveChild hd v0 v3 S0 tv0 _ h4) ?_
      refine g_istore (L2 := [(5, .inl x2), (0, .inr (some (some v0))), (1, .inl v1), (2, .inl v2), (3, .inl v3), (4, .inl v4)]) rfl rfl ?_
      refine g_iload rfl rfl ?_
      refine g_push rfl ?_
      rcases xif E with ⟨h5, E⟩ | ⟨h5, E⟩
      · refine g_iceq_t rfl h5 ?_
        refine g_aload rfl rfl ?_
        refine g_getR rfl tv0 (fR_6_0 tv0) ?_
        refine g_iload rfl rfl ?_
        obtain ⟨i1, h6, E⟩ := ob E
        refine g_aald rfl (eK_a _ tv0.1 tv0.2).1.1 (eK_a _ tv0.1 tv0.2).1.2 (by decide) h6 (rA_a tv0 h6) ?_
        refine g_astore (L2 := [(6, .inr (some (some (v0 + 12 + 13 * i1)))), (5, .inl x2), (0, .inr (some (some v0))), (1, .inl v1), (2, .inl v2), (3, .inl v3), (4, .inl v4)]) rfl rfl ?_
        refine g_aload rfl rfl ?_
        refine g_push rfl ?_
        obtain ⟨S1, hS1, E⟩ := ob E
        refine g_putZ rfl (eT_a tv0 h6) b00 hS1 ?_
        refine g_aload rfl rfl ?_
        refine g_getR rfl (eT_a tv0 h6) (fR_0_8 (eT_a tv0 h6)) ?_
        refine g_push rfl ?_
        obtain ⟨S2, hS2, E⟩ := ob E
        refine g_putI rfl (fT_0_8 (eT_a tv0 h6)) hS2 ?_
        refine g_aload rfl rfl ?_
        refine g_getR rfl (eT_a tv0 h6) (fR_0_9 (eT_a tv0 h6)) ?_
        refine g_push rfl ?_
        obtain ⟨S3, hS3, E⟩ := ob E
        refine g_putI rfl (fT_0_9 (eT_a tv0 h6)) hS3 ?_
        refine g_aload rfl rfl ?_
        obtain ⟨S4, h7, E⟩ := ob E
        refine g_inv0 (dc := 1) rfl (by omega) (eT_a tv0 h6) (Nat.le_of_ble_eq_true rfl) (fun d hd => ta_keepOwnOnly hd (v0 + 12 + 13 * i1) S3 (eT_a tv0 h6) _ h7) ?_
        refine g_aload rfl rfl ?_
        refine g_getR rfl tv0 (fR_6_1 tv0) ?_
        refine g_iload rfl rfl ?_
        obtain ⟨S5, h8, E⟩ := ob E
        refine g_inv1 (dc := 1) rfl (by omega) (fT_6_1 tv0) (Nat.le_of_ble_eq_true rfl) (fun d hd => tc_removeOf hd (v0 + 2) v3 S4 (fT_6_1 tv0) _ h8) ?_
        refine g_push rfl ?_
        refine g_istore (L2 := [(7, .inl 0), (6, .inr (some (some (v0 + 12 + 13 * i1)))), (5, .inl x2), (0, .inr (some (some v0))), (1, .inl v1), (2, .inl v2), (3, .inl v3), (4, .inl v4)]) rfl rfl ?_
        exact g_loc (lsub_cons rfl (lsub_cons rfl (lsub_cons rfl (lsub_cons rfl (lsub_cons rfl (lsub_cons rfl (lsub_cons rfl lsub_nil))))))) (tw_halt_89 hd hk7 LF v0 v1 v2 v3 v4 (v0 + 12 + 13 * i1) 0 S5 tv0 (eT_a tv0 h6) _ _ E)
      · refine g_iceq_f rfl h5 ?_
        refine g_iload rfl rfl ?_
        refine g_istore (L2 := [(3, .inl x2), (5, .inl x2), (0, .inr (some (some v0))), (1, .inl v1), (2, .inl v2), (4, .inl v4)]) rfl rfl ?_
        refine g_goto rfl ?_
        refine g_iinc (L2 := [(4, .inl (v4 + 1)), (3, .inl x2), (5, .inl x2), (0, .inr (some (some v0))), (1, .inl v1), (2, .inl v2)]) rfl rfl rfl ?_
        refine g_goto rfl ?_
        exact g_loc (lsub_cons rfl (lsub_cons rfl (lsub_cons rfl (lsub_cons rfl (lsub_cons rfl lsub_nil))))) (hk7 v0 v1 v2 x2 (v4 + 1) S0 tv0 _ _ E)
def fw_halt_7  : Nat → Nat → Int32 → Int32 → Int32 → Int32 → Mem → Option (Int32 × Mem)
  | 0 => fun _ _ _ _ _ _ => none
  | n + 1 => fw_halt_7b  (fw_halt_7  n)
set_option maxRecDepth 20000 in
set_option maxHeartbeats 4000000 in
theorem tw_halt_7 {scr : Nat × (Nat → Int32)} {d : Nat} (hd : 2 ≤ d)  : ∀ (n : Nat) (v0 : Nat) (v1 : Int32) (v2 : Int32) (v3 : Int32) (v4 : Int32) (S0 : Mem), Ty 6 v0 → ∀ (rv : Int32) (SR : Mem), fw_halt_7  n v0 v1 v2 v3 v4 S0 = some (rv, SR) → XG scr d 49 7 [(0, .inr (some (some v0))), (1, .inl v1), (2, .inl v2), (3, .inl v3), (4, .inl v4)] [] S0 (some (.inl rv)) SR
  | 0, v0, v1, v2, v3, v4, S0, tv0, rv, SR, E => nn E
  | n + 1, v0, v1, v2, v3, v4, S0, tv0, rv, SR, E => tw_halt_7b hd  (tw_halt_7 hd  n) v0 v1 v2 v3 v4 S0 tv0 rv SR E
def fw_halt (v0 : Nat) (v1 : Int32) (S0 : Mem) : Option (Int32 × Mem) := fw_halt_7 LF v0 v1 0 v1 0 S0
set_option maxRecDepth 20000 in
set_option maxHeartbeats 4000000 in
theorem tw_halt {scr : Nat × (Nat → Int32)} {d : Nat} (hd : 2 ≤ d) (v0 : Nat) (v1 : Int32) (S0 : Mem) (tv0 : Ty 6 v0) (rv : Int32) (SR : Mem) (E : fw_halt  v0 v1 S0 = some (rv, SR)) : XG scr d 49 0 [(0, .inr (some (some v0))), (1, .inl v1)] [] S0 (some (.inl rv)) SR := by
  unfold fw_halt at E
  refine g_push rfl ?_
  refine g_istore (L2 := [(2, .inl 0), (0, .inr (some (some v0))), (1, .inl v1)]) rfl rfl ?_
  refine g_iload rfl rfl ?_
  refine g_istore (L2 := [(3, .inl v1), (2, .inl 0), (0, .inr (some (some v0))), (1, .inl v1)]) rfl rfl ?_
  refine g_push rfl ?_
  refine g_istore (L2 := [(4, .inl 0), (3, .inl v1), (2, .inl 0), (0, .inr (some (some v0))), (1, .inl v1)]) rfl rfl ?_
  exact g_loc (lsub_cons rfl (lsub_cons rfl (lsub_cons rfl (lsub_cons rfl (lsub_cons rfl lsub_nil))))) (tw_halt_7 hd LF v0 v1 0 v1 0 S0 tv0 _ _ E)
