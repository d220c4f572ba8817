/-! 13c: the methods as functions over the cells -/
def fx_order (v1 : Int32) (v2 : Int32) (S0 : Mem) : Option (Int32 × Mem) := (fx_isHandle v1 S0).bind fun x1 => if x1 = 0 then (some ((-1), S0)) else ((ix v1 6).bind fun i1 => if (S0 (679 + 3 * i1) 1) = 0 then (some ((-11), S0)) else (if (S0 (679 + 3 * i1) 1) = 2 then (if 0 ≤ v2 then (if v2 ≤ ((S0 (679 + 3 * i1 + 1) 1) / 2) then (bd (fx_firstOtherwise (679 + 3 * i1 + 1) v2 S0) fun x2 S1 => some (x2, S1)) else (some ((-13), S0))) else (some ((-14), S0))) else (some ((-12), S0))))
set_option maxRecDepth 20000 in
set_option maxHeartbeats 4000000 in
theorem tx_order {scr : Nat × (Nat → Int32)} {d : Nat} (hd : 7 ≤ d) (v1 : Int32) (v2 : Int32) (S0 : Mem)  (rv : Int32) (SR : Mem) (E : fx_order  v1 v2 S0 = some (rv, SR)) : XG scr d 91 0 [(0, .inr (some (some 0))), (1, .inl v1), (2, .inl v2)] [] S0 (some (.inl rv)) SR := by
  unfold fx_order at E
  refine g_iload rfl rfl ?_
  obtain ⟨x1, h1, E⟩ := ob E
  refine g_invS1 (dc := 0) rfl (by omega) (Nat.le_of_ble_eq_true rfl) (fun d hd => tx_isHandle hd v1 S0 _ h1) ?_
  rcases xif E with ⟨h2, E⟩ | ⟨h2, E⟩
  · refine g_ifne_t rfl h2 ?_
    refine g_push rfl ?_
    obtain ⟨rfl, rfl⟩ := so2 E
    exact g_iret rfl
  · refine g_ifne_f rfl h2 ?_
    refine g_aload rfl rfl ?_
    refine g_getR rfl ty_x (fR_7_5 ty_x) ?_
    refine g_iload rfl rfl ?_
    obtain ⟨i1, h3, E⟩ := ob E
    refine g_aald rfl (by decide) (show K0 678 = .inr (2, 6) by decide +kernel) (by decide) h3 (rA_h h3) ?_
    refine g_astore (L2 := [(3, .inr (some (some (679 + 3 * i1)))), (0, .inr (some (some 0))), (1, .inl v1), (2, .inl v2)]) rfl rfl ?_
    refine g_aload rfl rfl ?_
    refine g_getI rfl (eT_h h3) ?_
    rcases xif E with ⟨h4, E⟩ | ⟨h4, E⟩
    · refine g_ifne_t rfl h4 ?_
      refine g_push rfl ?_
      obtain ⟨rfl, rfl⟩ := so2 E
      exact g_iret rfl
    · refine g_ifne_f rfl h4 ?_
      refine g_aload rfl rfl ?_
      refine g_getI rfl (eT_h h3) ?_
      refine g_push rfl ?_
      rcases xif E with ⟨h5, E⟩ | ⟨h5, E⟩
      · refine g_iceq_t rfl h5 ?_
        refine g_iload rfl rfl ?_
        rcases xif E with ⟨h6, E⟩ | ⟨h6, E⟩
        · refine g_ifge_t rfl h6 ?_
          refine g_iload rfl rfl ?_
          refine g_aload rfl rfl ?_
          refine g_getR rfl (eT_h h3) (fR_1_0 (eT_h h3)) ?_
          refine g_getI rfl (fT_1_0 (eT_h h3)) ?_
          refine g_push rfl ?_
          refine g_idiv rfl (by decide) ?_
          rcases xif E with ⟨h7, E⟩ | ⟨h7, E⟩
          · refine g_icle_t rfl h7 ?_
            refine g_aload rfl rfl ?_
            refine g_aload rfl rfl ?_
            refine g_getR rfl (eT_h h3) (fR_1_0 (eT_h h3)) ?_
            refine g_iload rfl rfl ?_
            obtain ⟨x2, S1, h8, E⟩ := ob2 E
            refine g_inv2 (dc := 6) rfl (by omega) ty_x (Nat.le_of_ble_eq_true rfl) (fun d hd => tx_firstOtherwise hd (679 + 3 * i1 + 1) v2 S0 (fT_1_0 (eT_h h3)) _ _ h8) ?_
            obtain ⟨rfl, rfl⟩ := so2 E
            exact g_iret rfl
          · refine g_icle_f rfl h7 ?_
            refine g_push rfl ?_
            refine g_goto rfl ?_
            obtain ⟨rfl, rfl⟩ := so2 E
            exact g_iret rfl
        · refine g_ifge_f rfl h6 ?_
          refine g_push rfl ?_
          obtain ⟨rfl, rfl⟩ := so2 E
          exact g_iret rfl
      · refine g_iceq_f rfl h5 ?_
        refine g_push rfl ?_
        obtain ⟨rfl, rfl⟩ := so2 E
        exact g_iret rfl
def fx_put (v1 : Int32) (v2 : Int32) (v3 : Int32) (S0 : Mem) : Option (Int32 × Mem) := (fx_isHandle v1 S0).bind fun x1 => if x1 = 0 then (some ((-2000000000), S0)) else ((ix v1 6).bind fun i1 => if (S0 (679 + 3 * i1) 1) = 2 then ((ix v1 6).bind fun i2 => if v2 < 0 then (some ((-2000000000), S0)) else (if v2 < (S0 (679 + 3 * i2 + 1) 1) then ((fn_at (679 + 3 * i2 + 1) v2 S0).bind fun x2 => (fn_change (679 + 3 * i2 + 1) v2 v3 S0).bind fun S1 => some (x2, S1)) else (some ((-2000000000), S0)))) else (some ((-2000000000), S0)))
set_option maxRecDepth 20000 in
set_option maxHeartbeats 4000000 in
theorem tx_put {scr : Nat × (Nat → Int32)} {d : Nat} (hd : 1 ≤ d) (v1 : Int32) (v2 : Int32) (v3 : Int32) (S0 : Mem)  (rv : Int32) (SR : Mem) (E : fx_put  v1 v2 v3 S0 = some (rv, SR)) : XG scr d 92 0 [(0, .inr (some (some 0))), (1, .inl v1), (2, .inl v2), (3, .inl v3)] [] S0 (some (.inl rv)) SR := by
  unfold fx_put at E
  refine g_iload rfl rfl ?_
  obtain ⟨x1, h1, E⟩ := ob E
  refine g_invS1 (dc := 0) rfl (by omega) (Nat.le_of_ble_eq_true rfl) (fun d hd => tx_isHandle hd v1 S0 _ h1) ?_
  rcases xif E with ⟨h2, E⟩ | ⟨h2, E⟩
  · refine g_ifeq_t rfl h2 ?_
    refine g_push rfl ?_
    obtain ⟨rfl, rfl⟩ := so2 E
    exact g_iret rfl
  · refine g_ifeq_f rfl h2 ?_
    refine g_aload rfl rfl ?_
    refine g_getR rfl ty_x (fR_7_5 ty_x) ?_
    refine g_iload rfl rfl ?_
    obtain ⟨i1, h3, E⟩ := ob E
    refine g_aald rfl (by decide) (show K0 678 = .inr (2, 6) by decide +kernel) (by decide) h3 (rA_h h3) ?_
    refine g_getI rfl (eT_h h3) ?_
    refine g_push rfl ?_
    rcases xif E with ⟨h4, E⟩ | ⟨h4, E⟩
    · refine g_iceq_t rfl h4 ?_
      refine g_aload rfl rfl ?_
      refine g_getR rfl ty_x (fR_7_5 ty_x) ?_
      refine g_iload rfl rfl ?_
      obtain ⟨i2, h5, E⟩ := ob E
      refine g_aald rfl (by decide) (show K0 678 = .inr (2, 6) by decide +kernel) (by decide) h5 (rA_h h5) ?_
      refine g_getR rfl (eT_h h5) (fR_1_0 (eT_h h5)) ?_
      refine g_astore (L2 := [(4, .inr (some (some (679 + 3 * i2 + 1)))), (0, .inr (some (some 0))), (1, .inl v1), (2, .inl v2), (3, .inl v3)]) rfl rfl ?_
      refine g_iload rfl rfl ?_
      rcases xif E with ⟨h6, E⟩ | ⟨h6, E⟩
      · refine g_iflt_t rfl h6 ?_
        refine g_push rfl ?_
        obtain ⟨rfl, rfl⟩ := so2 E
        exact g_iret rfl
      · refine g_iflt_f rfl h6 ?_
        refine g_iload rfl rfl ?_
        refine g_aload rfl rfl ?_
        refine g_getI rfl (fT_1_0 (eT_h h5)) ?_
        rcases xif E with ⟨h7, E⟩ | ⟨h7, E⟩
        · refine g_iclt_t rfl h7 ?_
          refine g_aload rfl rfl ?_
          refine g_iload rfl rfl ?_
          obtain ⟨x2, h8, E⟩ := ob E
          refine g_inv1 (dc := 0) rfl (by omega) (fT_1_0 (eT_h h5)) (Nat.le_of_ble_eq_true rfl) (fun d hd => tn_at hd (679 + 3 * i2 + 1) v2 S0 (fT_1_0 (eT_h h5)) _ h8) ?_
          refine g_istore (L2 := [(5, .inl x2), (4, .inr (some (some (679 + 3 * i2 + 1)))), (0, .inr (some (some 0))), (1, .inl v1), (2, .inl v2), (3, .inl v3)]) rfl rfl ?_
          refine g_aload rfl rfl ?_
          refine g_iload rfl rfl ?_
          refine g_iload rfl rfl ?_
          obtain ⟨S1, h9, E⟩ := ob E
          refine g_inv2 (dc := 0) rfl (by omega) (fT_1_0 (eT_h h5)) (Nat.le_of_ble_eq_true rfl) (fun d hd => tn_change hd (679 + 3 * i2 + 1) v2 v3 S0 (fT_1_0 (eT_h h5)) _ h9) ?_
          refine g_iload rfl rfl ?_
          obtain ⟨rfl, rfl⟩ := so2 E
          exact g_iret rfl
        · refine g_iclt_f rfl h7 ?_
          refine g_push rfl ?_
          obtain ⟨rfl, rfl⟩ := so2 E
          exact g_iret rfl
    · refine g_iceq_f rfl h4 ?_
      refine g_push rfl ?_
      obtain ⟨rfl, rfl⟩ := so2 E
      exact g_iret rfl
def fx_quiet_13b (k13 : Int32 → Mem → Option (Int32 × Mem)) (v1 : Int32) (S0 : Mem) : Option (Int32 × Mem) := if 200 ≤ v1 then ((fw_hasStep 169 S0).bind fun x1 => if x1 = 0 then (some (200, S0)) else (some ((-2), S0))) else (bd (fw_step 169 S0) fun x2 S1 => if x2 = 0 then (some (v1, S1)) else (k13 (v1 + 1) S1))
set_option maxRecDepth 20000 in
set_option maxHeartbeats 4000000 in
theorem tx_quiet_13b {scr : Nat × (Nat → Int32)} {d : Nat} (hd : 6 ≤ d) {k13 : Int32 → Mem → Option (Int32 × Mem)} (hk13 : ∀ (v1 : Int32) (S0 : Mem), ∀ (rv : Int32) (SR : Mem), k13 v1 S0 = some (rv, SR) → XG scr d 93 13 [(0, .inr (some (some 0))), (1, .inl v1)] [] S0 (some (.inl rv)) SR) (v1 : Int32) (S0 : Mem)  (rv : Int32) (SR : Mem) (E : fx_quiet_13b k13 v1 S0 = some (rv, SR)) : XG scr d 93 13 [(0, .inr (some (some 0))), (1, .inl v1)] [] S0 (some (.inl rv)) SR := by
  unfold fx_quiet_13b at E
  refine g_iload rfl rfl ?_
  refine g_push rfl ?_
  rcases xif E with ⟨h1, E⟩ | ⟨h1, E⟩
  · refine g_icge_t rfl h1 ?_
    refine g_aload rfl rfl ?_
    refine g_getR rfl ty_x (fR_7_1 ty_x) ?_
    obtain ⟨x1, h2, E⟩ := ob E
    refine g_inv0 (dc := 2) rfl (by omega) fT_7_1 (Nat.le_of_ble_eq_true rfl) (fun d hd => tw_hasStep hd 169 S0 fT_7_1 _ h2) ?_
    rcases xif E with ⟨h3, E⟩ | ⟨h3, E⟩
    · refine g_ifeq_t rfl h3 ?_
      refine g_push rfl ?_
      obtain ⟨rfl, rfl⟩ := so2 E
      exact g_iret rfl
    · refine g_ifeq_f rfl h3 ?_
      refine g_push rfl ?_
      refine g_goto rfl ?_
      obtain ⟨rfl, rfl⟩ := so2 E
      exact g_iret rfl
  · refine g_icge_f rfl h1 ?_
    refine g_aload rfl rfl ?_
    refine g_getR rfl ty_x (fR_7_1 ty_x) ?_
    obtain ⟨x2, S1, h4, E⟩ := ob2 E
    refine g_inv0 (dc := 5) rfl (by omega) fT_7_1 (Nat.le_of_ble_eq_true rfl) (fun d hd => tw_step hd 169 S0 fT_7_1 _ _ h4) ?_
    rcases xif E with ⟨h5, E⟩ | ⟨h5, E⟩
    · refine g_ifne_t rfl h5 ?_
      refine g_iload rfl rfl ?_
      obtain ⟨rfl, rfl⟩ := so2 E
      exact g_iret rfl
    · refine g_ifne_f rfl h5 ?_
      refine g_iinc (L2 := [(1, .inl (v1 + 1)), (0, .inr (some (some 0)))]) rfl rfl rfl ?_
      refine g_goto rfl ?_
      exact g_loc (lsub_cons rfl (lsub_cons rfl lsub_nil)) (hk13 (v1 + 1) S1 _ _ E)
def fx_quiet_13  : Nat → Int32 → Mem → Option (Int32 × Mem)
  | 0 => fun _ _ => none
  | n + 1 => fx_quiet_13b  (fx_quiet_13  n)
set_option maxRecDepth 20000 in
set_option maxHeartbeats 4000000 in
theorem tx_quiet_13 {scr : Nat × (Nat → Int32)} {d : Nat} (hd : 6 ≤ d)  : ∀ (n : Nat) (v1 : Int32) (S0 : Mem), ∀ (rv : Int32) (SR : Mem), fx_quiet_13  n v1 S0 = some (rv, SR) → XG scr d 93 13 [(0, .inr (some (some 0))), (1, .inl v1)] [] S0 (some (.inl rv)) SR
  | 0, v1, S0, rv, SR, E => nn E
  | n + 1, v1, S0, rv, SR, E => tx_quiet_13b hd  (tx_quiet_13 hd  n) v1 S0  rv SR E
def fx_quiet  (S0 : Mem) : Option (Int32 × Mem) := (fw_copyFrom 169 1 S0).bind fun S1 => fx_quiet_13 LF 0 S1
set_option maxRecDepth 20000 in
set_option maxHeartbeats 4000000 in
theorem tx_quiet {scr : Nat × (Nat → Int32)} {d : Nat} (hd : 6 ≤ d)  (S0 : Mem)  (rv : Int32) (SR : Mem) (E : fx_quiet   S0 = some (rv, SR)) : XG scr d 93 0 [(0, .inr (some (some 0)))] [] S0 (some (.inl rv)) SR := by
  unfold fx_quiet at E
  refine g_aload rfl rfl ?_
  refine g_getR rfl ty_x (fR_7_1 ty_x) ?_
  refine g_aload rfl rfl ?_
  refine g_getR rfl ty_x (fR_7_0 ty_x) ?_
  obtain ⟨S1, h1, E⟩ := ob E
  refine g_inv1 (dc := 2) rfl (by omega) fT_7_1 (Nat.le_of_ble_eq_true rfl) (fun d hd => tw_copyFrom hd 169 1 S0 fT_7_1 fT_7_0 _ h1) ?_
  refine g_push rfl ?_
  refine g_istore (L2 := [(1, .inl 0), (0, .inr (some (some 0)))]) rfl rfl ?_
  exact g_loc (lsub_cons rfl (lsub_cons rfl lsub_nil)) (tx_quiet_13 hd LF 0 S1 _ _ E)
def fx_reach_32b (k32 : Int32 → Int32 → Int32 → Mem → Option Int32) (v3 : Int32) (v4 : Int32) (v5 : Int32) (S0 : Mem) : Option Int32 := if 24 ≤ v5 then (some ((-2))) else ((fw_isLive 1 v3 S0).bind fun x1 => if x1 = 0 then (some ((-2))) else ((fw_isLive 1 v4 S0).bind fun x2 => if x2 = 0 then (some ((-2))) else (if v3 = v4 then (some v5) else (if v3 ≤ v4 then ((ix v4 12).bind fun i1 => k32 v3 (S0 (1 + 12 + 13 * i1) 0) (v5 + 1) S0) else ((ix v3 12).bind fun i2 => k32 (S0 (1 + 12 + 13 * i2) 0) v4 (v5 + 1) S0)))))
set_option maxRecDepth 20000 in
set_option maxHeartbeats 4000000 in
theorem tx_reach_32b {scr : Nat × (Nat → Int32)} {d : Nat} (hd : 1 ≤ d) {k32 : Int32 → Int32 → Int32 → Mem → Option Int32} (hk32 : ∀ (v3 : Int32) (v4 : Int32) (v5 : Int32) (S0 : Mem), ∀ (rv : Int32), k32 v3 v4 v5 S0 = some rv → XG scr d 94 32 [(0, .inr (some (some 0))), (3, .inl v3), (4, .inl v4), (5, .inl v5)] [] S0 (some (.inl rv)) S0) (v3 : Int32) (v4 : Int32) (v5 : Int32) (S0 : Mem)  (rv : Int32) (E : fx_reach_32b k32 v3 v4 v5 S0 = some rv) : XG scr d 94 32 [(0, .inr (some (some 0))), (3, .inl v3), (4, .inl v4), (5, .inl v5)] [] S0 (some (.inl rv)) S0 := by
  unfold fx_reach_32b at E
  refine g_iload rfl rfl ?_
  refine g_push rfl ?_
  rcases xif E with ⟨h1, E⟩ | ⟨h1, E⟩
  · refine g_icge_t rfl h1 ?_
    refine g_push rfl ?_
    obtain rfl := so1 E
    exact g_iret rfl
  · refine g_icge_f rfl h1 ?_
    refine g_aload rfl rfl ?_
    refine g_getR rfl ty_x (fR_7_0 ty_x) ?_
    refine g_iload rfl rfl ?_
    obtain ⟨x1, h2, E⟩ := ob E
    refine g_inv1 (dc := 0) rfl (by omega) fT_7_0 (Nat.le_of_ble_eq_true rfl) (fun d hd => tw_isLive hd 1 v3 S0 fT_7_0 _ h2) ?_
    rcases xif E with ⟨h3, E⟩ | ⟨h3, E⟩
    · refine g_ifeq_t rfl h3 ?_
      refine g_push rfl ?_
      obtain rfl := so1 E
      exact g_iret rfl
    · refine g_ifeq_f rfl h3 ?_
      refine g_aload rfl rfl ?_
      refine g_getR rfl ty_x (fR_7_0 ty_x) ?_
      refine g_iload rfl rfl ?_
      obtain ⟨x2, h4, E⟩ := ob E
      refine g_inv1 (dc := 0) rfl (by omega) fT_7_0 (Nat.le_of_ble_eq_true rfl) (fun d hd => tw_isLive hd 1 v4 S0 fT_7_0 _ h4) ?_
      rcases xif E with ⟨h5, E⟩ | ⟨h5, E⟩
      · refine g_ifne_t rfl h5 ?_
        refine g_push rfl ?_
        obtain rfl := so1 E
        exact g_iret rfl
      · refine g_ifne_f rfl h5 ?_
        refine g_iload rfl rfl ?_
        refine g_iload rfl rfl ?_
        rcases xif E with ⟨h6, E⟩ | ⟨h6, E⟩
        · refine g_icne_t rfl h6 ?_
          refine g_iload rfl rfl ?_
          obtain rfl := so1 E
          exact g_iret rfl
        · refine g_icne_f rfl h6 ?_
          refine g_iload rfl rfl ?_
          refine g_iload rfl rfl ?_
          rcases xif E with ⟨h7, E⟩ | ⟨h7, E⟩
          · refine g_icle_t rfl h7 ?_
            refine g_aload rfl rfl ?_
            refine g_getR rfl ty_x (fR_7_0 ty_x) ?_
            refine g_getR rfl fT_7_0 (fR_6_0 fT_7_0) ?_
            refine g_iload rfl rfl ?_
            obtain ⟨i1, h8, E⟩ := ob E
            refine g_aald rfl (eK_a _ fT_7_0.1 fT_7_0.2).1.1 (eK_a _ fT_7_0.1 fT_7_0.2).1.2 (by decide) h8 (rA_a fT_7_0 h8) ?_
            refine g_getI rfl (eT_a fT_7_0 h8) ?_
            refine g_istore (L2 := [(4, .inl (S0 (1 + 12 + 13 * i1) 0)), (0, .inr (some (some 0))), (3, .inl v3), (5, .inl v5)]) rfl rfl ?_
            refine g_iinc (L2 := [(5, .inl (v5 + 1)), (4, .inl (S0 (1 + 12 + 13 * i1) 0)), (0, .inr (some (some 0))), (3, .inl v3)]) rfl rfl rfl ?_
            refine g_goto rfl ?_
            exact g_loc (lsub_cons rfl (lsub_cons rfl (lsub_cons rfl (lsub_cons rfl lsub_nil)))) (hk32 v3 (S0 (1 + 12 + 13 * i1) 0) (v5 + 1) S0 _ E)
          · refine g_icle_f rfl h7 ?_
            refine g_aload rfl rfl ?_
            refine g_getR rfl ty_x (fR_7_0 ty_x) ?_
            refine g_getR rfl fT_7_0 (fR_6_0 fT_7_0) ?_
            refine g_iload rfl rfl ?_
            obtain ⟨i2, h9, E⟩ := ob E
            refine g_aald rfl (eK_a _ fT_7_0.1 fT_7_0.2).1.1 (eK_a _ fT_7_0.1 fT_7_0.2).1.2 (by decide) h9 (rA_a fT_7_0 h9) ?_
            refine g_getI rfl (eT_a fT_7_0 h9) ?_
            refine g_istore (L2 := [(3, .inl (S0 (1 + 12 + 13 * i2) 0)), (0, .inr (some (some 0))), (4, .inl v4), (5, .inl v5)]) rfl rfl ?_
            refine g_goto rfl ?_
            refine g_iinc (L2 := [(5, .inl (v5 + 1)), (3, .inl (S0 (1 + 12 + 13 * i2) 0)), (0, .inr (some (some 0))), (4, .inl v4)]) rfl rfl rfl ?_
            refine g_goto rfl ?_
            exact g_loc (lsub_cons rfl (lsub_cons rfl (lsub_cons rfl (lsub_cons rfl lsub_nil)))) (hk32 (S0 (1 + 12 + 13 * i2) 0) v4 (v5 + 1) S0 _ E)
def fx_reach_32  : Nat → Int32 → Int32 → Int32 → Mem → Option Int32
  | 0 => fun _ _ _ _ => none
  | n + 1 => fx_reach_32b  (fx_reach_32  n)
set_option maxRecDepth 20000 in
set_option maxHeartbeats 4000000 in
theorem tx_reach_32 {scr : Nat × (Nat → Int32)} {d : Nat} (hd : 1 ≤ d)  : ∀ (n : Nat) (v3 : Int32) (v4 : Int32) (v5 : Int32) (S0 : Mem), ∀ (rv : Int32), fx_reach_32  n v3 v4 v5 S0 = some rv → XG scr d 94 32 [(0, .inr (some (some 0))), (3, .inl v3), (4, .inl v4), (5, .inl v5)] [] S0 (some (.inl rv)) S0
  | 0, v3, v4, v5, S0, rv, E => nn E
  | n + 1, v3, v4, v5, S0, rv, E => tx_reach_32b hd  (tx_reach_32 hd  n) v3 v4 v5 S0  rv E
def fx_reach (v1 : Int32) (v2 : Int32) (S0 : Mem) : Option Int32 := (fw_isActor 1 v1 S0).bind fun x1 => if x1 = 0 then (some ((-1))) else ((fw_isActor 1 v2 S0).bind fun x2 => if x2 = 0 then (some ((-1))) else (fx_reach_32 LF v1 v2 0 S0))
set_option maxRecDepth 20000 in
set_option maxHeartbeats 4000000 in
theorem tx_reach {scr : Nat × (Nat → Int32)} {d : Nat} (hd : 1 ≤ d) (v1 : Int32) (v2 : Int32) (S0 : Mem)  (rv : Int32) (E : fx_reach  v1 v2 S0 = some rv) : XG scr d 94 0 [(0, .inr (some (some 0))), (1, .inl v1), (2, .inl v2)] [] S0 (some (.inl rv)) S0 := by
  unfold fx_reach at E
  refine g_aload rfl rfl ?_
  refine g_getR rfl ty_x (fR_7_0 ty_x) ?_
  refine g_iload rfl rfl ?_
  obtain ⟨x1, h1, E⟩ := ob E
  refine g_inv1 (dc := 0) rfl (by omega) fT_7_0 (Nat.le_of_ble_eq_true rfl) (fun d hd => tw_isActor hd 1 v1 S0 fT_7_0 _ h1) ?_
  rcases xif E with ⟨h2, E⟩ | ⟨h2, E⟩
  · refine g_ifeq_t rfl h2 ?_
    refine g_push rfl ?_
    obtain rfl := so1 E
    exact g_iret rfl
  · refine g_ifeq_f rfl h2 ?_
    refine g_aload rfl rfl ?_
    refine g_getR rfl ty_x (fR_7_0 ty_x) ?_
    refine g_iload rfl rfl ?_
    obtain ⟨x2, h3, E⟩ := ob E
    refine g_inv1 (dc := 0) rfl (by omega) fT_7_0 (Nat.le_of_ble_eq_true rfl) (fun d hd => tw_isActor hd 1 v2 S0 fT_7_0 _ h3) ?_
    rcases xif E with ⟨h4, E⟩ | ⟨h4, E⟩
    · refine g_ifne_t rfl h4 ?_
      refine g_push rfl ?_
      obtain rfl := so1 E
      exact g_iret rfl
    · refine g_ifne_f rfl h4 ?_
      refine g_iload rfl rfl ?_
      refine g_istore (L2 := [(3, .inl v1), (0, .inr (some (some 0))), (1, .inl v1), (2, .inl v2)]) rfl rfl ?_
      refine g_iload rfl rfl ?_
      refine g_istore (L2 := [(4, .inl v2), (3, .inl v1), (0, .inr (some (some 0))), (1, .inl v1), (2, .inl v2)]) rfl rfl ?_
      refine g_push rfl ?_
      refine g_istore (L2 := [(5, .inl 0), (4, .inl v2), (3, .inl v1), (0, .inr (some (some 0))), (1, .inl v1), (2, .inl v2)]) rfl rfl ?_
      exact g_loc (lsub_cons rfl (lsub_cons rfl (lsub_cons rfl (lsub_cons rfl lsub_nil)))) (tx_reach_32 hd LF v1 v2 0 S0 _ E)
def fx_row (v1 : Int32) (v2 : Int32) (S0 : Mem) : Option (Int32 × Mem) := (fx_isHandle v1 S0).bind fun x1 => if x1 = 0 then (some ((-1), S0)) else (if v2 ≤ 60 then (if 0 ≤ v2 then ((ix v1 6).bind fun i1 => (some (up2 S0 (679 + 3 * i1) 1 2)).bind fun S1 => (ix v1 6).bind fun i2 => (fn_fillWithZeros (679 + 3 * i2 + 1) v2 S1).bind fun S2 => some (1, S2)) else (some ((-14), S0))) else (some ((-1), S0)))
set_option maxRecDepth 20000 in
set_option maxHeartbeats 4000000 in
theorem tx_row {scr : Nat × (Nat → Int32)} {d : Nat} (hd : 1 ≤ d) (v1 : Int32) (v2 : Int32) (S0 : Mem)  (rv : Int32) (SR : Mem) (E : fx_row  v1 v2 S0 = some (rv, SR)) : XG scr d 95 0 [(0, .inr (some (some 0))), (1, .inl v1), (2, .inl v2)] [] S0 (some (.inl rv)) SR := by
  unfold fx_row at E
  refine g_iload rfl rfl ?_
  obtain ⟨x1, h1, E⟩ := ob E
  refine g_invS1 (dc := 0) rfl (by omega) (Nat.le_of_ble_eq_true rfl) (fun d hd => tx_isHandle hd v1 S0 _ h1) ?_
  rcases xif E with ⟨h2, E⟩ | ⟨h2, E⟩
  · refine g_ifeq_t rfl h2 ?_
    refine g_push rfl ?_
    obtain ⟨rfl, rfl⟩ := so2 E
    exact g_iret rfl
  · refine g_ifeq_f rfl h2 ?_
    refine g_iload rfl rfl ?_
    refine g_push rfl ?_
    rcases xif E with ⟨h3, E⟩ | ⟨h3, E⟩
    · refine g_icle_t rfl h3 ?_
      refine g_iload rfl rfl ?_
      rcases xif E with ⟨h4, E⟩ | ⟨h4, E⟩
      · refine g_ifge_t rfl h4 ?_
        refine g_aload rfl rfl ?_
        refine g_getR rfl ty_x (fR_7_5 ty_x) ?_
        refine g_iload rfl rfl ?_
        obtain ⟨i1, h5, E⟩ := ob E
        refine g_aald rfl (by decide) (show K0 678 = .inr (2, 6) by decide +kernel) (by decide) h5 (rA_h h5) ?_
        refine g_push rfl ?_
        obtain ⟨S1, hS1, E⟩ := ob E
        refine g_putI rfl (eT_h h5) hS1 ?_
        refine g_aload rfl rfl ?_
        refine g_getR rfl ty_x (fR_7_5 ty_x) ?_
        refine g_iload rfl rfl ?_
        obtain ⟨i2, h6, E⟩ := ob E
        refine g_aald rfl (by decide) (show K0 678 = .inr (2, 6) by decide +kernel) (by decide) h6 (rA_h h6) ?_
        refine g_getR rfl (eT_h h6) (fR_1_0 (eT_h h6)) ?_
        refine g_iload rfl rfl ?_
        obtain ⟨S2, h7, E⟩ := ob E
        refine g_inv1 (dc := 0) rfl (by omega) (fT_1_0 (eT_h h6)) (Nat.le_of_ble_eq_true rfl) (fun d hd => tn_fillWithZeros hd (679 + 3 * i2 + 1) v2 S1 (fT_1_0 (eT_h h6)) _ h7) ?_
        refine g_push rfl ?_
        obtain ⟨rfl, rfl⟩ := so2 E
        exact g_iret rfl
      · refine g_ifge_f rfl h4 ?_
        refine g_push rfl ?_
        obtain ⟨rfl, rfl⟩ := so2 E
        exact g_iret rfl
    · refine g_icle_f rfl h3 ?_
      refine g_push rfl ?_
      obtain ⟨rfl, rfl⟩ := so2 E
      exact g_iret rfl
def fx_run (v1 : Int32) (S0 : Mem) : Option (Int32 × Mem) := (fx_isSteps v1 S0).bind fun x1 => if x1 = 0 then (some ((-1), S0)) else (bd (fw_makeSteps 1 v1 S0) fun x2 S1 => some (x2, S1))
set_option maxRecDepth 20000 in
set_option maxHeartbeats 4000000 in
theorem tx_run {scr : Nat × (Nat → Int32)} {d : Nat} (hd : 7 ≤ d) (v1 : Int32) (S0 : Mem)  (rv : Int32) (SR : Mem) (E : fx_run  v1 S0 = some (rv, SR)) : XG scr d 96 0 [(0, .inr (some (some 0))), (1, .inl v1)] [] S0 (some (.inl rv)) SR := by
  unfold fx_run at E
  refine g_iload rfl rfl ?_
  obtain ⟨x1, h1, E⟩ := ob E
  refine g_invS1 (dc := 0) rfl (by omega) (Nat.le_of_ble_eq_true rfl) (fun d hd => tx_isSteps hd v1 S0 _ h1) ?_
  rcases xif E with ⟨h2, E⟩ | ⟨h2, E⟩
  · refine g_ifeq_t rfl h2 ?_
    refine g_push rfl ?_
    obtain ⟨rfl, rfl⟩ := so2 E
    exact g_iret rfl
  · refine g_ifeq_f rfl h2 ?_
    refine g_aload rfl rfl ?_
    refine g_getR rfl ty_x (fR_7_0 ty_x) ?_
    refine g_iload rfl rfl ?_
    obtain ⟨x2, S1, h3, E⟩ := ob2 E
    refine g_inv1 (dc := 6) rfl (by omega) fT_7_0 (Nat.le_of_ble_eq_true rfl) (fun d hd => tw_makeSteps hd 1 v1 S0 fT_7_0 _ _ h3) ?_
    refine g_goto rfl ?_
    obtain ⟨rfl, rfl⟩ := so2 E
    exact g_iret rfl
def fx_script_51b (k51 : Int32 → Mem → Option (Int32 × Mem)) (v2 : Int32) (S0 : Mem) : Option (Int32 × Mem) := if v2 < 0 then (if 0 ≤ v2 then ((some (up2 S0 674 1 0)).bind fun S1 => some (v2, S1)) else ((fw_copyFrom 1 505 S0).bind fun S2 => (some (up2 S2 674 1 0)).bind fun S3 => some (v2, S3))) else (if 120 ≤ v2 then (if 0 ≤ v2 then ((some (up2 S0 674 1 0)).bind fun S4 => some (v2, S4)) else ((fw_copyFrom 1 505 S0).bind fun S5 => (some (up2 S5 674 1 0)).bind fun S6 => some (v2, S6))) else ((ft_isRead 673 S0).bind fun x1 => if x1 = 0 then (bd (fx_doLineButSteps S0) fun x2 S7 => if x2 ≤ 0 then (if 0 ≤ x2 then (k51 (v2 + 1) S7) else (k51 (((-2000)) - v2) S7)) else (bd (fw_makeSteps 1 x2 S7) fun x3 S8 => if 0 ≤ x2 then (k51 (v2 + 1) S8) else (k51 (((-2000)) - v2) S8))) else (if 0 ≤ v2 then ((some (up2 S0 674 1 0)).bind fun S9 => some (v2, S9)) else ((fw_copyFrom 1 505 S0).bind fun S10 => (some (up2 S10 674 1 0)).bind fun S11 => some (v2, S11)))))
set_option maxRecDepth 20000 in
set_option maxHeartbeats 4000000 in
theorem tx_script_51b {scr : Nat × (Nat → Int32)} {d : Nat} (hd : 7 ≤ d) {k51 : Int32 → Mem → Option (Int32 × Mem)} (hk51 : ∀ (v2 : Int32) (S0 : Mem), ∀ (rv : Int32) (SR : Mem), k51 v2 S0 = some (rv, SR) → XG scr d 97 51 [(0, .inr (some (some 0))), (2, .inl v2)] [] S0 (some (.inl rv)) SR) (v2 : Int32) (S0 : Mem)  (rv : Int32) (SR : Mem) (E : fx_script_51b k51 v2 S0 = some (rv, SR)) : XG scr d 97 51 [(0, .inr (some (some 0))), (2, .inl v2)] [] S0 (some (.inl rv)) SR := by
  unfold fx_script_51b at E
  refine g_iload rfl rfl ?_
  rcases xif E with ⟨h1, E⟩ | ⟨h1, E⟩
  · refine g_iflt_t rfl h1 ?_
    refine g_iload rfl rfl ?_
    rcases xif E with ⟨h2, E⟩ | ⟨h2, E⟩
    · refine g_ifge_t rfl h2 ?_
      refine g_aload rfl rfl ?_
      refine g_getR rfl ty_x (fR_7_4 ty_x) ?_
      refine g_getR rfl fT_7_4 (fR_4_0 fT_7_4) ?_
      refine g_push rfl ?_
      obtain ⟨S1, hS1, E⟩ := ob E
      refine g_putI rfl (fT_4_0 fT_7_4) hS1 ?_
      refine g_iload rfl rfl ?_
      obtain ⟨rfl, rfl⟩ := so2 E
      exact g_iret rfl
    · refine g_ifge_f rfl h2 ?_
      refine g_aload rfl rfl ?_
      refine g_getR rfl ty_x (fR_7_0 ty_x) ?_
      refine g_aload rfl rfl ?_
      refine g_getR rfl ty_x (fR_7_3 ty_x) ?_
      obtain ⟨S2, h3, E⟩ := ob E
      refine g_inv1 (dc := 2) rfl (by omega) fT_7_0 (Nat.le_of_ble_eq_true rfl) (fun d hd => tw_copyFrom hd 1 505 S0 fT_7_0 fT_7_3 _ h3) ?_
      refine g_aload rfl rfl ?_
      refine g_getR rfl ty_x (fR_7_4 ty_x) ?_
      refine g_getR rfl fT_7_4 (fR_4_0 fT_7_4) ?_
      refine g_push rfl ?_
      obtain ⟨S3, hS3, E⟩ := ob E
      refine g_putI rfl (fT_4_0 fT_7_4) hS3 ?_
      refine g_iload rfl rfl ?_
      obtain ⟨rfl, rfl⟩ := so2 E
      exact g_iret rfl
  · refine g_iflt_f rfl h1 ?_
    refine g_iload rfl rfl ?_
    refine g_push rfl ?_
    rcases xif E with ⟨h4, E⟩ | ⟨h4, E⟩
    · refine g_icge_t rfl h4 ?_
      refine g_iload rfl rfl ?_
      rcases xif E with ⟨h5, E⟩ | ⟨h5, E⟩
      · refine g_ifge_t rfl h5 ?_
        refine g_aload rfl rfl ?_
        refine g_getR rfl ty_x (fR_7_4 ty_x) ?_
        refine g_getR rfl fT_7_4 (fR_4_0 fT_7_4) ?_
        refine g_push rfl ?_
        obtain ⟨S4, hS4, E⟩ := ob E
        refine g_putI rfl (fT_4_0 fT_7_4) hS4 ?_
        refine g_iload rfl rfl ?_
        obtain ⟨rfl, rfl⟩ := so2 E
        exact g_iret rfl
      · refine g_ifge_f rfl h5 ?_
        refine g_aload rfl rfl ?_
        refine g_getR rfl ty_x (fR_7_0 ty_x) ?_
        refine g_aload rfl rfl ?_
        refine g_getR rfl ty_x (fR_7_3 ty_x) ?_
        obtain ⟨S5, h6, E⟩ := ob E
        refine g_inv1 (dc := 2) rfl (by omega) fT_7_0 (Nat.le_of_ble_eq_true rfl) (fun d hd => tw_copyFrom hd 1 505 S0 fT_7_0 fT_7_3 _ h6) ?_
        refine g_aload rfl rfl ?_
        refine g_getR rfl ty_x (fR_7_4 ty_x) ?_
        refine g_getR rfl fT_7_4 (fR_4_0 fT_7_4) ?_
        refine g_push rfl ?_
        obtain ⟨S6, hS6, E⟩ := ob E
        refine g_putI rfl (fT_4_0 fT_7_4) hS6 ?_
        refine g_iload rfl rfl ?_
        obtain ⟨rfl, rfl⟩ := so2 E
        exact g_iret rfl
    · refine g_icge_f rfl h4 ?_
      refine g_aload rfl rfl ?_
      refine g_getR rfl ty_x (fR_7_4 ty_x) ?_
      obtain ⟨x1, h7, E⟩ := ob E
      refine g_inv0 (dc := 0) rfl (by omega) fT_7_4 (Nat.le_of_ble_eq_true rfl) (fun d hd => tt_isRead hd 673 S0 fT_7_4 _ h7) ?_
      rcases xif E with ⟨h8, E⟩ | ⟨h8, E⟩
      · refine g_ifne_t rfl h8 ?_
        refine g_aload rfl rfl ?_
        obtain ⟨x2, S7, h9, E⟩ := ob2 E
        refine g_inv0 (dc := 4) rfl (by omega) ty_x (Nat.le_of_ble_eq_true rfl) (fun d hd => tx_doLineButSteps hd S0 _ _ h9) ?_
        refine g_istore (L2 := [(3, .inl x2), (0, .inr (some (some 0))), (2, .inl v2)]) rfl rfl ?_
        refine g_iload rfl rfl ?_
        rcases xif E with ⟨h10, E⟩ | ⟨h10, E⟩
        · refine g_ifle_t rfl h10 ?_
          refine g_iload rfl rfl ?_
          rcases xif E with ⟨h11, E⟩ | ⟨h11, E⟩
          · refine g_ifge_t rfl h11 ?_
            refine g_iload rfl rfl ?_
            refine g_push rfl ?_
            refine g_iadd rfl ?_
            refine g_istore (L2 := [(2, .inl (v2 + 1)), (3, .inl x2), (0, .inr (some (some 0)))]) rfl rfl ?_
            refine g_goto rfl ?_
            exact g_loc (lsub_cons rfl (lsub_cons rfl lsub_nil)) (hk51 (v2 + 1) S7 _ _ E)
          · refine g_ifge_f rfl h11 ?_
            refine g_push rfl ?_
            refine g_iload rfl rfl ?_
            refine g_isub rfl ?_
            refine g_goto rfl ?_
            refine g_istore (L2 := [(2, .inl (((-2000)) - v2)), (3, .inl x2), (0, .inr (some (some 0)))]) rfl rfl ?_
            refine g_goto rfl ?_
            exact g_loc (lsub_cons rfl (lsub_cons rfl lsub_nil)) (hk51 (((-2000)) - v2) S7 _ _ E)
        · refine g_ifle_f rfl h10 ?_
          refine g_aload rfl rfl ?_
          refine g_getR rfl ty_x (fR_7_0 ty_x) ?_
          refine g_iload rfl rfl ?_
          obtain ⟨x3, S8, h12, E⟩ := ob2 E
          refine g_inv1 (dc := 6) rfl (by omega) fT_7_0 (Nat.le_of_ble_eq_true rfl) (fun d hd => tw_makeSteps hd 1 x2 S7 fT_7_0 _ _ h12) ?_
          refine g_pop rfl ?_
          refine g_iload rfl rfl ?_
          rcases xif E with ⟨h13, E⟩ | ⟨h13, E⟩
          · refine g_ifge_t rfl h13 ?_
            refine g_iload rfl rfl ?_
            refine g_push rfl ?_
            refine g_iadd rfl ?_
            refine g_istore (L2 := [(2, .inl (v2 + 1)), (3, .inl x2), (0, .inr (some (some 0)))]) rfl rfl ?_
            refine g_goto rfl ?_
            exact g_loc (lsub_cons rfl (lsub_cons rfl lsub_nil)) (hk51 (v2 + 1) S8 _ _ E)
          · refine g_ifge_f rfl h13 ?_
            refine g_push rfl ?_
            refine g_iload rfl rfl ?_
            refine g_isub rfl ?_
            refine g_goto rfl ?_
            refine g_istore (L2 := [(2, .inl (((-2000)) - v2)), (3, .inl x2), (0, .inr (some (some 0)))]) rfl rfl ?_
            refine g_goto rfl ?_
            exact g_loc (lsub_cons rfl (lsub_cons rfl lsub_nil)) (hk51 (((-2000)) - v2) S8 _ _ E)
      · refine g_ifne_f rfl h8 ?_
        refine g_iload rfl rfl ?_
        rcases xif E with ⟨h14, E⟩ | ⟨h14, E⟩
        · refine g_ifge_t rfl h14 ?_
          refine g_aload rfl rfl ?_
          refine g_getR rfl ty_x (fR_7_4 ty_x) ?_
          refine g_getR rfl fT_7_4 (fR_4_0 fT_7_4) ?_
          refine g_push rfl ?_
          obtain ⟨S9, hS9, E⟩ := ob E
          refine g_putI rfl (fT_4_0 fT_7_4) hS9 ?_
          refine g_iload rfl rfl ?_
          obtain ⟨rfl, rfl⟩ := so2 E
          exact g_iret rfl
        · refine g_ifge_f rfl h14 ?_
          refine g_aload rfl rfl ?_
          refine g_getR rfl ty_x (fR_7_0 ty_x) ?_
          refine g_aload rfl rfl ?_
          refine g_getR rfl ty_x (fR_7_3 ty_x) ?_
          obtain ⟨S10, h15, E⟩ := ob E
          refine g_inv1 (dc := 2) rfl (by omega) fT_7_0 (Nat.le_of_ble_eq_true rfl) (fun d hd => tw_copyFrom hd 1 505 S0 fT_7_0 fT_7_3 _ h15) ?_
          refine g_aload rfl rfl ?_
          refine g_getR rfl ty_x (fR_7_4 ty_x) ?_
          refine g_getR rfl fT_7_4 (fR_4_0 fT_7_4) ?_
          refine g_push rfl ?_
          obtain ⟨S11, hS11, E⟩ := ob E
          refine g_putI rfl (fT_4_0 fT_7_4) hS11 ?_
          refine g_iload rfl rfl ?_
          obtain ⟨rfl, rfl⟩ := so2 E
          exact g_iret rfl
def fx_script_51  : Nat → Int32 → Mem → Option (Int32 × Mem)
  | 0 => fun _ _ => none
  | n + 1 => fx_script_51b  (fx_script_51  n)
set_option maxRecDepth 20000 in
set_option maxHeartbeats 4000000 in
theorem tx_script_51 {scr : Nat × (Nat → Int32)} {d : Nat} (hd : 7 ≤ d)  : ∀ (n : Nat) (v2 : Int32) (S0 : Mem), ∀ (rv : Int32) (SR : Mem), fx_script_51  n v2 S0 = some (rv, SR) → XG scr d 97 51 [(0, .inr (some (some 0))), (2, .inl v2)] [] S0 (some (.inl rv)) SR
  | 0, v2, S0, rv, SR, E => nn E
  | n + 1, v2, S0, rv, SR, E => tx_script_51b hd  (tx_script_51 hd  n) v2 S0  rv SR E
def fx_script  (S0 : Mem) : Option (Int32 × Mem) := bd (ft_faultOfForm 673 S0) fun x1 S1 => if x1 = ((-1)) then ((fw_copyFrom 505 1 S1).bind fun S2 => (some (up2 S2 673 3 0)).bind fun S3 => fx_script_51 LF 0 S3) else ((some (up2 S1 674 1 0)).bind fun S4 => some (((-1000)) - x1, S4))
set_option maxRecDepth 20000 in
set_option maxHeartbeats 4000000 in
theorem tx_script {scr : Nat × (Nat → Int32)} {d : Nat} (hd : 7 ≤ d)  (S0 : Mem)  (rv : Int32) (SR : Mem) (E : fx_script   S0 = some (rv, SR)) : XG scr d 97 0 [(0, .inr (some (some 0)))] [] S0 (some (.inl rv)) SR := by
  unfold fx_script at E
  refine g_aload rfl rfl ?_
  refine g_getR rfl ty_x (fR_7_4 ty_x) ?_
  obtain ⟨x1, S1, h1, E⟩ := ob2 E
  refine g_inv0 (dc := 4) rfl (by omega) fT_7_4 (Nat.le_of_ble_eq_true rfl) (fun d hd => tt_faultOfForm hd 673 S0 fT_7_4 _ _ h1) ?_
  refine g_istore (L2 := [(1, .inl x1), (0, .inr (some (some 0)))]) rfl rfl ?_
  refine g_iload rfl rfl ?_
  refine g_push rfl ?_
  rcases xif E with ⟨h2, E⟩ | ⟨h2, E⟩
  · refine g_iceq_t rfl h2 ?_
    refine g_aload rfl rfl ?_
    refine g_getR rfl ty_x (fR_7_3 ty_x) ?_
    refine g_aload rfl rfl ?_
    refine g_getR rfl ty_x (fR_7_0 ty_x) ?_
    obtain ⟨S2, h3, E⟩ := ob E
    refine g_inv1 (dc := 2) rfl (by omega) fT_7_3 (Nat.le_of_ble_eq_true rfl) (fun d hd => tw_copyFrom hd 505 1 S1 fT_7_3 fT_7_0 _ h3) ?_
    refine g_aload rfl rfl ?_
    refine g_getR rfl ty_x (fR_7_4 ty_x) ?_
    refine g_push rfl ?_
    obtain ⟨S3, hS3, E⟩ := ob E
    refine g_putI rfl fT_7_4 hS3 ?_
    refine g_push rfl ?_
    refine g_istore (L2 := [(2, .inl 0), (1, .inl x1), (0, .inr (some (some 0)))]) rfl rfl ?_
    exact g_loc (lsub_cons rfl (lsub_cons rfl lsub_nil)) (tx_script_51 hd LF 0 S3 _ _ E)
  · refine g_iceq_f rfl h2 ?_
    refine g_aload rfl rfl ?_
    refine g_getR rfl ty_x (fR_7_4 ty_x) ?_
    refine g_getR rfl fT_7_4 (fR_4_0 fT_7_4) ?_
    refine g_push rfl ?_
    obtain ⟨S4, hS4, E⟩ := ob E
    refine g_putI rfl (fT_4_0 fT_7_4) hS4 ?_
    refine g_push rfl ?_
    refine g_iload rfl rfl ?_
    refine g_isub rfl ?_
    obtain ⟨rfl, rfl⟩ := so2 E
    exact g_iret rfl
def fx_seed (v1 : Int32) (S0 : Mem) : Option (Int32 × Mem) := (some (up2 S0 1 9 v1)).bind fun S1 => some (S0 1 9, S1)
set_option maxRecDepth 20000 in
set_option maxHeartbeats 4000000 in
theorem tx_seed {scr : Nat × (Nat → Int32)} {d : Nat} (hd : 0 ≤ d) (v1 : Int32) (S0 : Mem)  (rv : Int32) (SR : Mem) (E : fx_seed  v1 S0 = some (rv, SR)) : XG scr d 98 0 [(0, .inr (some (some 0))), (1, .inl v1)] [] S0 (some (.inl rv)) SR := by
  unfold fx_seed at E
  refine g_aload rfl rfl ?_
  refine g_getR rfl ty_x (fR_7_0 ty_x) ?_
  refine g_getI rfl fT_7_0 ?_
  refine g_istore (L2 := [(2, .inl (S0 1 9)), (0, .inr (some (some 0))), (1, .inl v1)]) rfl rfl ?_
  refine g_aload rfl rfl ?_
  refine g_getR rfl ty_x (fR_7_0 ty_x) ?_
  refine g_iload rfl rfl ?_
  obtain ⟨S1, hS1, E⟩ := ob E
  refine g_putI rfl fT_7_0 hS1 ?_
  refine g_iload rfl rfl ?_
  obtain ⟨rfl, rfl⟩ := so2 E
  exact g_iret rfl
def fx_sender (v1 : Int32) (v2 : Int32) (v3 : Int32) (S0 : Mem) : Option Int32 := (fw_isActor 1 v1 S0).bind fun x1 => if x1 = 0 then (some ((-2))) else (if 0 ≤ v2 then (if v3 = 0 then ((ix v1 12).bind fun i1 => if (S0 (1 + 12 + 13 * i1 + 3) 2) ≤ v2 then (some ((-2))) else ((fp_firstAt (1 + 12 + 13 * i1 + 3) v2 S0).bind fun x2 => some x2)) else ((ix v1 12).bind fun i2 => if (S0 (1 + 12 + 13 * i2 + 6) 2) ≤ v2 then (some ((-2))) else ((fp_firstAt (1 + 12 + 13 * i2 + 6) v2 S0).bind fun x3 => some x3))) else (some ((-2))))
set_option maxRecDepth 20000 in
set_option maxHeartbeats 4000000 in
theorem tx_sender {scr : Nat × (Nat → Int32)} {d : Nat} (hd : 1 ≤ d) (v1 : Int32) (v2 : Int32) (v3 : Int32) (S0 : Mem)  (rv : Int32) (E : fx_sender  v1 v2 v3 S0 = some rv) : XG scr d 99 0 [(0, .inr (some (some 0))), (1, .inl v1), (2, .inl v2), (3, .inl v3)] [] S0 (some (.inl rv)) S0 := by
  unfold fx_sender at E
  refine g_aload rfl rfl ?_
  refine g_getR rfl ty_x (fR_7_0 ty_x) ?_
  refine g_iload rfl rfl ?_
  obtain ⟨x1, h1, E⟩ := ob E
  refine g_inv1 (dc := 0) rfl (by omega) fT_7_0 (Nat.le_of_ble_eq_true rfl) (fun d hd => tw_isActor hd 1 v1 S0 fT_7_0 _ h1) ?_
  rcases xif E with ⟨h2, E⟩ | ⟨h2, E⟩
  · refine g_ifeq_t rfl h2 ?_
    refine g_push rfl ?_
    obtain rfl := so1 E
    exact g_iret rfl
  · refine g_ifeq_f rfl h2 ?_
    refine g_iload rfl rfl ?_
    rcases xif E with ⟨h3, E⟩ | ⟨h3, E⟩
    · refine g_ifge_t rfl h3 ?_
      refine g_iload rfl rfl ?_
      rcases xif E with ⟨h4, E⟩ | ⟨h4, E⟩
      · refine g_ifeq_t rfl h4 ?_
        refine g_aload rfl rfl ?_
        refine g_getR rfl ty_x (fR_7_0 ty_x) ?_
        refine g_getR rfl fT_7_0 (fR_6_0 fT_7_0) ?_
        refine g_iload rfl rfl ?_
        obtain ⟨i1, h5, E⟩ := ob E
        refine g_aald rfl (eK_a _ fT_7_0.1 fT_7_0.2).1.1 (eK_a _ fT_7_0.1 fT_7_0.2).1.2 (by decide) h5 (rA_a fT_7_0 h5) ?_
        refine g_getR rfl (eT_a fT_7_0 h5) (fR_0_8 (eT_a fT_7_0 h5)) ?_
        refine g_astore (L2 := [(4, .inr (some (some (1 + 12 + 13 * i1 + 3)))), (0, .inr (some (some 0))), (1, .inl v1), (2, .inl v2), (3, .inl v3)]) rfl rfl ?_
        refine g_iload rfl rfl ?_
        refine g_aload rfl rfl ?_
        refine g_getI rfl (fT_0_8 (eT_a fT_7_0 h5)) ?_
        rcases xif E with ⟨h6, E⟩ | ⟨h6, E⟩
        · refine g_icge_t rfl h6 ?_
          refine g_push rfl ?_
          obtain rfl := so1 E
          exact g_iret rfl
        · refine g_icge_f rfl h6 ?_
          refine g_aload rfl rfl ?_
          refine g_iload rfl rfl ?_
          obtain ⟨x2, h7, E⟩ := ob E
          refine g_inv1 (dc := 0) rfl (by omega) (fT_0_8 (eT_a fT_7_0 h5)) (Nat.le_of_ble_eq_true rfl) (fun d hd => tp_firstAt hd (1 + 12 + 13 * i1 + 3) v2 S0 (fT_0_8 (eT_a fT_7_0 h5)) _ h7) ?_
          refine g_goto rfl ?_
          obtain rfl := so1 E
          exact g_iret rfl
      · refine g_ifeq_f rfl h4 ?_
        refine g_aload rfl rfl ?_
        refine g_getR rfl ty_x (fR_7_0 ty_x) ?_
        refine g_getR rfl fT_7_0 (fR_6_0 fT_7_0) ?_
        refine g_iload rfl rfl ?_
        obtain ⟨i2, h8, E⟩ := ob E
        refine g_aald rfl (eK_a _ fT_7_0.1 fT_7_0.2).1.1 (eK_a _ fT_7_0.1 fT_7_0.2).1.2 (by decide) h8 (rA_a fT_7_0 h8) ?_
        refine g_getR rfl (eT_a fT_7_0 h8) (fR_0_9 (eT_a fT_7_0 h8)) ?_
        refine g_goto rfl ?_
        refine g_astore (L2 := [(4, .inr (some (some (1 + 12 + 13 * i2 + 6)))), (0, .inr (some (some 0))), (1, .inl v1), (2, .inl v2), (3, .inl v3)]) rfl rfl ?_
        refine g_iload rfl rfl ?_
        refine g_aload rfl rfl ?_
        refine g_getI rfl (fT_0_9 (eT_a fT_7_0 h8)) ?_
        rcases xif E with ⟨h9, E⟩ | ⟨h9, E⟩
        · refine g_icge_t rfl h9 ?_
          refine g_push rfl ?_
          obtain rfl := so1 E
          exact g_iret rfl
        · refine g_icge_f rfl h9 ?_
          refine g_aload rfl rfl ?_
          refine g_iload rfl rfl ?_
          obtain ⟨x3, h10, E⟩ := ob E
          refine g_inv1 (dc := 0) rfl (by omega) (fT_0_9 (eT_a fT_7_0 h8)) (Nat.le_of_ble_eq_true rfl) (fun d hd => tp_firstAt hd (1 + 12 + 13 * i2 + 6) v2 S0 (fT_0_9 (eT_a fT_7_0 h8)) _ h10) ?_
          refine g_goto rfl ?_
          obtain rfl := so1 E
          exact g_iret rfl
    · refine g_ifge_f rfl h3 ?_
      refine g_push rfl ?_
      obtain rfl := so1 E
      exact g_iret rfl
def fx_stack (v1 : Int32) (v2 : Int32) (S0 : Mem) : Option Int32 := (fw_isActor 1 v1 S0).bind fun x1 => if x1 = 0 then (some ((-1))) else ((ix v1 12).bind fun i1 => (fx_itemOf (1 + 12 + 13 * i1 + 1) v2 S0).bind fun x2 => some x2)
set_option maxRecDepth 20000 in
set_option maxHeartbeats 4000000 in
theorem tx_stack {scr : Nat × (Nat → Int32)} {d : Nat} (hd : 2 ≤ d) (v1 : Int32) (v2 : Int32) (S0 : Mem)  (rv : Int32) (E : fx_stack  v1 v2 S0 = some rv) : XG scr d 100 0 [(0, .inr (some (some 0))), (1, .inl v1), (2, .inl v2)] [] S0 (some (.inl rv)) S0 := by
  unfold fx_stack at E
  refine g_aload rfl rfl ?_
  refine g_getR rfl ty_x (fR_7_0 ty_x) ?_
  refine g_iload rfl rfl ?_
  obtain ⟨x1, h1, E⟩ := ob E
  refine g_inv1 (dc := 0) rfl (by omega) fT_7_0 (Nat.le_of_ble_eq_true rfl) (fun d hd => tw_isActor hd 1 v1 S0 fT_7_0 _ h1) ?_
  rcases xif E with ⟨h2, E⟩ | ⟨h2, E⟩
  · refine g_ifeq_t rfl h2 ?_
    refine g_push rfl ?_
    obtain rfl := so1 E
    exact g_iret rfl
  · refine g_ifeq_f rfl h2 ?_
    refine g_aload rfl rfl ?_
    refine g_getR rfl ty_x (fR_7_0 ty_x) ?_
    refine g_getR rfl fT_7_0 (fR_6_0 fT_7_0) ?_
    refine g_iload rfl rfl ?_
    obtain ⟨i1, h3, E⟩ := ob E
    refine g_aald rfl (eK_a _ fT_7_0.1 fT_7_0.2).1.1 (eK_a _ fT_7_0.1 fT_7_0.2).1.2 (by decide) h3 (rA_a fT_7_0 h3) ?_
    refine g_getR rfl (eT_a fT_7_0 h3) (fR_0_7 (eT_a fT_7_0 h3)) ?_
    refine g_iload rfl rfl ?_
    obtain ⟨x2, h4, E⟩ := ob E
    refine g_invS2 (dc := 1) rfl (by omega) (Nat.le_of_ble_eq_true rfl) (fun d hd => tx_itemOf hd (1 + 12 + 13 * i1 + 1) v2 S0 (fT_0_7 (eT_a fT_7_0 h3)) _ h4) ?_
    refine g_goto rfl ?_
    obtain rfl := so1 E
    exact g_iret rfl
def fx_stop (v1 : Int32) (S0 : Mem) : Option (Int32 × Mem) := (fw_isActor 1 v1 S0).bind fun x1 => if x1 = 0 then (some ((-1), S0)) else ((fw_isLive 1 v1 S0).bind fun x2 => if x2 = 0 then (some ((-5), S0)) else (bd (fw_halt 1 v1 S0) fun x3 S1 => some (x3, S1)))
set_option maxRecDepth 20000 in
set_option maxHeartbeats 4000000 in
theorem tx_stop {scr : Nat × (Nat → Int32)} {d : Nat} (hd : 3 ≤ d) (v1 : Int32) (S0 : Mem)  (rv : Int32) (SR : Mem) (E : fx_stop  v1 S0 = some (rv, SR)) : XG scr d 101 0 [(0, .inr (some (some 0))), (1, .inl v1)] [] S0 (some (.inl rv)) SR := by
  unfold fx_stop at E
  refine g_aload rfl rfl ?_
  refine g_getR rfl ty_x (fR_7_0 ty_x) ?_
  refine g_iload rfl rfl ?_
  obtain ⟨x1, h1, E⟩ := ob E
  refine g_inv1 (dc := 0) rfl (by omega) fT_7_0 (Nat.le_of_ble_eq_true rfl) (fun d hd => tw_isActor hd 1 v1 S0 fT_7_0 _ h1) ?_
  rcases xif E with ⟨h2, E⟩ | ⟨h2, E⟩
  · refine g_ifne_t rfl h2 ?_
    refine g_push rfl ?_
    obtain ⟨rfl, rfl⟩ := so2 E
    exact g_iret rfl
  · refine g_ifne_f rfl h2 ?_
    refine g_aload rfl rfl ?_
    refine g_getR rfl ty_x (fR_7_0 ty_x) ?_
    refine g_iload rfl rfl ?_
    obtain ⟨x2, h3, E⟩ := ob E
    refine g_inv1 (dc := 0) rfl (by omega) fT_7_0 (Nat.le_of_ble_eq_true rfl) (fun d hd => tw_isLive hd 1 v1 S0 fT_7_0 _ h3) ?_
    rcases xif E with ⟨h4, E⟩ | ⟨h4, E⟩
    · refine g_ifeq_t rfl h4 ?_
      refine g_push rfl ?_
      obtain ⟨rfl, rfl⟩ := so2 E
      exact g_iret rfl
    · refine g_ifeq_f rfl h4 ?_
      refine g_aload rfl rfl ?_
      refine g_getR rfl ty_x (fR_7_0 ty_x) ?_
      refine g_iload rfl rfl ?_
      obtain ⟨x3, S1, h5, E⟩ := ob2 E
      refine g_inv1 (dc := 2) rfl (by omega) fT_7_0 (Nat.le_of_ble_eq_true rfl) (fun d hd => tw_halt hd 1 v1 S0 fT_7_0 _ _ h5) ?_
      refine g_goto rfl ?_
      obtain ⟨rfl, rfl⟩ := so2 E
      exact g_iret rfl
def fx_tell (v1 : Int32) (v2 : Int32) (v3 : Int32) (S0 : Mem) : Option (Int32 × Mem) := (fw_isActor 1 v1 S0).bind fun x1 => if x1 = 0 then (some ((-1), S0)) else (if v2 = ((-1)) then ((fx_isNumber v3 S0).bind fun x2 => if x2 = 0 then (some ((-1), S0)) else (bd (fw_send 1 v1 v2 v3 S0) fun x3 S1 => if x3 = 0 then (some ((-5), S1)) else ((ix v1 12).bind fun i1 => some (S1 (1 + 12 + 13 * i1 + 3) 2, S1)))) else ((fw_isActor 1 v2 S0).bind fun x4 => if x4 = 0 then (some ((-1), S0)) else ((fx_isNumber v3 S0).bind fun x5 => if x5 = 0 then (some ((-1), S0)) else (bd (fw_send 1 v1 v2 v3 S0) fun x6 S2 => if x6 = 0 then (some ((-5), S2)) else ((ix v1 12).bind fun i2 => some (S2 (1 + 12 + 13 * i2 + 3) 2, S2))))))
set_option maxRecDepth 20000 in
set_option maxHeartbeats 4000000 in
theorem tx_tell {scr : Nat × (Nat → Int32)} {d : Nat} (hd : 2 ≤ d) (v1 : Int32) (v2 : Int32) (v3 : Int32) (S0 : Mem)  (rv : Int32) (SR : Mem) (E : fx_tell  v1 v2 v3 S0 = some (rv, SR)) : XG scr d 102 0 [(0, .inr (some (some 0))), (1, .inl v1), (2, .inl v2), (3, .inl v3)] [] S0 (some (.inl rv)) SR := by
  unfold fx_tell at E
  refine g_aload rfl rfl ?_
  refine g_getR rfl ty_x (fR_7_0 ty_x) ?_
  refine g_iload rfl rfl ?_
  obtain ⟨x1, h1, E⟩ := ob E
  refine g_inv1 (dc := 0) rfl (by omega) fT_7_0 (Nat.le_of_ble_eq_true rfl) (fun d hd => tw_isActor hd 1 v1 S0 fT_7_0 _ h1) ?_
  rcases xif E with ⟨h2, E⟩ | ⟨h2, E⟩
  · refine g_ifeq_t rfl h2 ?_
    refine g_push rfl ?_
    obtain ⟨rfl, rfl⟩ := so2 E
    exact g_iret rfl
  · refine g_ifeq_f rfl h2 ?_
    refine g_iload rfl rfl ?_
    refine g_push rfl ?_
    rcases xif E with ⟨h3, E⟩ | ⟨h3, E⟩
    · refine g_iceq_t rfl h3 ?_
      refine g_iload rfl rfl ?_
      obtain ⟨x2, h4, E⟩ := ob E
      refine g_invS1 (dc := 0) rfl (by omega) (Nat.le_of_ble_eq_true rfl) (fun d hd => tx_isNumber hd v3 S0 _ h4) ?_
      rcases xif E with ⟨h5, E⟩ | ⟨h5, E⟩
      · refine g_ifne_t rfl h5 ?_
        refine g_push rfl ?_
        obtain ⟨rfl, rfl⟩ := so2 E
        exact g_iret rfl
      · refine g_ifne_f rfl h5 ?_
        refine g_aload rfl rfl ?_
        refine g_getR rfl ty_x (fR_7_0 ty_x) ?_
        refine g_iload rfl rfl ?_
        refine g_iload rfl rfl ?_
        refine g_iload rfl rfl ?_
        obtain ⟨x3, S1, h6, E⟩ := ob2 E
        refine g_inv3 (dc := 1) rfl (by omega) fT_7_0 (Nat.le_of_ble_eq_true rfl) (fun d hd => tw_send hd 1 v1 v2 v3 S0 fT_7_0 _ _ h6) ?_
        rcases xif E with ⟨h7, E⟩ | ⟨h7, E⟩
        · refine g_ifeq_t rfl h7 ?_
          refine g_push rfl ?_
          obtain ⟨rfl, rfl⟩ := so2 E
          exact g_iret rfl
        · refine g_ifeq_f rfl h7 ?_
          refine g_aload rfl rfl ?_
          refine g_getR rfl ty_x (fR_7_0 ty_x) ?_
          refine g_getR rfl fT_7_0 (fR_6_0 fT_7_0) ?_
          refine g_iload rfl rfl ?_
          obtain ⟨i1, h8, E⟩ := ob E
          refine g_aald rfl (eK_a _ fT_7_0.1 fT_7_0.2).1.1 (eK_a _ fT_7_0.1 fT_7_0.2).1.2 (by decide) h8 (rA_a fT_7_0 h8) ?_
          refine g_getR rfl (eT_a fT_7_0 h8) (fR_0_8 (eT_a fT_7_0 h8)) ?_
          refine g_getI rfl (fT_0_8 (eT_a fT_7_0 h8)) ?_
          refine g_goto rfl ?_
          obtain ⟨rfl, rfl⟩ := so2 E
          exact g_iret rfl
    · refine g_iceq_f rfl h3 ?_
      refine g_aload rfl rfl ?_
      refine g_getR rfl ty_x (fR_7_0 ty_x) ?_
      refine g_iload rfl rfl ?_
      obtain ⟨x4, h9, E⟩ := ob E
      refine g_inv1 (dc := 0) rfl (by omega) fT_7_0 (Nat.le_of_ble_eq_true rfl) (fun d hd => tw_isActor hd 1 v2 S0 fT_7_0 _ h9) ?_
      rcases xif E with ⟨h10, E⟩ | ⟨h10, E⟩
      · refine g_ifeq_t rfl h10 ?_
        refine g_push rfl ?_
        obtain ⟨rfl, rfl⟩ := so2 E
        exact g_iret rfl
      · refine g_ifeq_f rfl h10 ?_
        refine g_iload rfl rfl ?_
        obtain ⟨x5, h11, E⟩ := ob E
        refine g_invS1 (dc := 0) rfl (by omega) (Nat.le_of_ble_eq_true rfl) (fun d hd => tx_isNumber hd v3 S0 _ h11) ?_
        rcases xif E with ⟨h12, E⟩ | ⟨h12, E⟩
        · refine g_ifne_t rfl h12 ?_
          refine g_push rfl ?_
          obtain ⟨rfl, rfl⟩ := so2 E
          exact g_iret rfl
        · refine g_ifne_f rfl h12 ?_
          refine g_aload rfl rfl ?_
          refine g_getR rfl ty_x (fR_7_0 ty_x) ?_
          refine g_iload rfl rfl ?_
          refine g_iload rfl rfl ?_
          refine g_iload rfl rfl ?_
          obtain ⟨x6, S2, h13, E⟩ := ob2 E
          refine g_inv3 (dc := 1) rfl (by omega) fT_7_0 (Nat.le_of_ble_eq_true rfl) (fun d hd => tw_send hd 1 v1 v2 v3 S0 fT_7_0 _ _ h13) ?_
          rcases xif E with ⟨h14, E⟩ | ⟨h14, E⟩
          · refine g_ifeq_t rfl h14 ?_
            refine g_push rfl ?_
            obtain ⟨rfl, rfl⟩ := so2 E
            exact g_iret rfl
          · refine g_ifeq_f rfl h14 ?_
            refine g_aload rfl rfl ?_
            refine g_getR rfl ty_x (fR_7_0 ty_x) ?_
            refine g_getR rfl fT_7_0 (fR_6_0 fT_7_0) ?_
            refine g_iload rfl rfl ?_
            obtain ⟨i2, h15, E⟩ := ob E
            refine g_aald rfl (eK_a _ fT_7_0.1 fT_7_0.2).1.1 (eK_a _ fT_7_0.1 fT_7_0.2).1.2 (by decide) h15 (rA_a fT_7_0 h15) ?_
            refine g_getR rfl (eT_a fT_7_0 h15) (fR_0_8 (eT_a fT_7_0 h15)) ?_
            refine g_getI rfl (fT_0_8 (eT_a fT_7_0 h15)) ?_
            refine g_goto rfl ?_
            obtain ⟨rfl, rfl⟩ := so2 E
            exact g_iret rfl
def fx_tells (v1 : Int32) (v2 : Int32) (S0 : Mem) : Option Int32 := (fx_isHandle v1 S0).bind fun x1 => if x1 = 0 then (some ((-2000000000))) else (if v2 < 0 then (some ((-2000000000))) else (if 3 < v2 then (some ((-2000000000))) else ((ix v1 6).bind fun i1 => if (S0 (679 + 3 * i1) 1) = 0 then (some ((-2000000000))) else ((ix v1 6).bind fun i2 => (ix v1 6).bind fun i3 => if (S0 (679 + 3 * i3) 1) = 1 then ((fw_isActor 1 (S0 (679 + 3 * i2) 2) S0).bind fun x2 => if x2 = 0 then (some ((-2000000012))) else ((ix (S0 (679 + 3 * i2) 2) 12).bind fun i4 => (fw_childBits 1 (S0 (679 + 3 * i2) 2) S0).bind fun x3 => if v2 = 1 then (if x3 = 0 then (some (S0 (1 + 12 + 13 * i4) 5)) else (some ((-2000000012)))) else (if v2 = 2 then (if x3 = 0 then (some ((-2000000012))) else ((fw_liveBits 1 S0).bind fun x4 => (fj_bitCount (x3 &&& x4) S0).bind fun x5 => some x5)) else (if v2 = 3 then (if (S0 (1 + 12 + 13 * i4) 6) = 0 then (some ((-2000000012))) else (if (S0 (1 + 12 + 13 * i4 + 3) 2) = 0 then (some (S0 (1 + 12 + 13 * i4 + 6) 2)) else (some ((-2000000012))))) else (some (S0 (679 + 3 * i2) 2)))))) else (some ((-2000000012)))))))
set_option maxRecDepth 20000 in
set_option maxHeartbeats 4000000 in
theorem tx_tells {scr : Nat × (Nat → Int32)} {d : Nat} (hd : 1 ≤ d) (v1 : Int32) (v2 : Int32) (S0 : Mem)  (rv : Int32) (E : fx_tells  v1 v2 S0 = some rv) : XG scr d 103 0 [(0, .inr (some (some 0))), (1, .inl v1), (2, .inl v2)] [] S0 (some (.inl rv)) S0 := by
  unfold fx_tells at E
  refine g_iload rfl rfl ?_
  obtain ⟨x1, h1, E⟩ := ob E
  refine g_invS1 (dc := 0) rfl (by omega) (Nat.le_of_ble_eq_true rfl) (fun d hd => tx_isHandle hd v1 S0 _ h1) ?_
  rcases xif E with ⟨h2, E⟩ | ⟨h2, E⟩
  · refine g_ifeq_t rfl h2 ?_
    refine g_push rfl ?_
    obtain rfl := so1 E
    exact g_iret rfl
  · refine g_ifeq_f rfl h2 ?_
    refine g_iload rfl rfl ?_
    rcases xif E with ⟨h3, E⟩ | ⟨h3, E⟩
    · refine g_iflt_t rfl h3 ?_
      refine g_push rfl ?_
      obtain rfl := so1 E
      exact g_iret rfl
    · refine g_iflt_f rfl h3 ?_
      refine g_iload rfl rfl ?_
      refine g_push rfl ?_
      rcases xif E with ⟨h4, E⟩ | ⟨h4, E⟩
      · refine g_icgt_t rfl h4 ?_
        refine g_push rfl ?_
        obtain rfl := so1 E
        exact g_iret rfl
      · refine g_icgt_f rfl h4 ?_
        refine g_aload rfl rfl ?_
        refine g_getR rfl ty_x (fR_7_5 ty_x) ?_
        refine g_iload rfl rfl ?_
        obtain ⟨i1, h5, E⟩ := ob E
        refine g_aald rfl (by decide) (show K0 678 = .inr (2, 6) by decide +kernel) (by decide) h5 (rA_h h5) ?_
        refine g_getI rfl (eT_h h5) ?_
        rcases xif E with ⟨h6, E⟩ | ⟨h6, E⟩
        · refine g_ifne_t rfl h6 ?_
          refine g_push rfl ?_
          obtain rfl := so1 E
          exact g_iret rfl
        · refine g_ifne_f rfl h6 ?_
          refine g_aload rfl rfl ?_
          refine g_getR rfl ty_x (fR_7_5 ty_x) ?_
          refine g_iload rfl rfl ?_
          obtain ⟨i2, h7, E⟩ := ob E
          refine g_aald rfl (by decide) (show K0 678 = .inr (2, 6) by decide +kernel) (by decide) h7 (rA_h h7) ?_
          refine g_getI rfl (eT_h h7) ?_
          refine g_istore (L2 := [(3, .inl (S0 (679 + 3 * i2) 2)), (0, .inr (some (some 0))), (1, .inl v1), (2, .inl v2)]) rfl rfl ?_
          refine g_aload rfl rfl ?_
          refine g_getR rfl ty_x (fR_7_5 ty_x) ?_
          refine g_iload rfl rfl ?_
          obtain ⟨i3, h8, E⟩ := ob E
          refine g_aald rfl (by decide) (show K0 678 = .inr (2, 6) by decide +kernel) (by decide) h8 (rA_h h8) ?_
          refine g_getI rfl (eT_h h8) ?_
          refine g_push rfl ?_
          rcases xif E with ⟨h9, E⟩ | ⟨h9, E⟩
          · refine g_icne_t rfl h9 ?_
            refine g_aload rfl rfl ?_
            refine g_getR rfl ty_x (fR_7_0 ty_x) ?_
            refine g_iload rfl rfl ?_
            obtain ⟨x2, h10, E⟩ := ob E
            refine g_inv1 (dc := 0) rfl (by omega) fT_7_0 (Nat.le_of_ble_eq_true rfl) (fun d hd => tw_isActor hd 1 (S0 (679 + 3 * i2) 2) S0 fT_7_0 _ h10) ?_
            rcases xif E with ⟨h11, E⟩ | ⟨h11, E⟩
            · refine g_ifne_t rfl h11 ?_
              refine g_push rfl ?_
              obtain rfl := so1 E
              exact g_iret rfl
            · refine g_ifne_f rfl h11 ?_
              refine g_aload rfl rfl ?_
              refine g_getR rfl ty_x (fR_7_0 ty_x) ?_
              refine g_getR rfl fT_7_0 (fR_6_0 fT_7_0) ?_
              refine g_iload rfl rfl ?_
              obtain ⟨i4, h12, E⟩ := ob E
              refine g_aald rfl (eK_a _ fT_7_0.1 fT_7_0.2).1.1 (eK_a _ fT_7_0.1 fT_7_0.2).1.2 (by decide) h12 (rA_a fT_7_0 h12) ?_
              refine g_astore (L2 := [(4, .inr (some (some (1 + 12 + 13 * i4)))), (3, .inl (S0 (679 + 3 * i2) 2)), (0, .inr (some (some 0))), (1, .inl v1), (2, .inl v2)]) rfl rfl ?_
              refine g_aload rfl rfl ?_
              refine g_getR rfl ty_x (fR_7_0 ty_x) ?_
              refine g_iload rfl rfl ?_
              obtain ⟨x3, h13, E⟩ := ob E
              refine g_inv1 (dc := 0) rfl (by omega) fT_7_0 (Nat.le_of_ble_eq_true rfl) (fun d hd => tw_childBits hd 1 (S0 (679 + 3 * i2) 2) S0 fT_7_0 _ h13) ?_
              refine g_istore (L2 := [(5, .inl x3), (4, .inr (some (some (1 + 12 + 13 * i4)))), (3, .inl (S0 (679 + 3 * i2) 2)), (0, .inr (some (some 0))), (1, .inl v1), (2, .inl v2)]) rfl rfl ?_
              refine g_iload rfl rfl ?_
              rcases xif E with ⟨h14, E⟩ | ⟨h14, E⟩
              · refine g_tsw (u := 116) rfl (by rw [h14]; decide +kernel) ?_
                refine g_iload rfl rfl ?_
                rcases xif E with ⟨h15, E⟩ | ⟨h15, E⟩
                · refine g_ifne_t rfl h15 ?_
                  refine g_aload rfl rfl ?_
                  refine g_getI rfl (eT_a fT_7_0 h12) ?_
                  refine g_goto rfl ?_
                  obtain rfl := so1 E
                  exact g_iret rfl
                · refine g_ifne_f rfl h15 ?_
                  refine g_push rfl ?_
                  obtain rfl := so1 E
                  exact g_iret rfl
              · rcases xif E with ⟨h16, E⟩ | ⟨h16, E⟩
                · refine g_tsw (u := 133) rfl (by rw [h16]; decide +kernel) ?_
                  refine g_iload rfl rfl ?_
                  rcases xif E with ⟨h17, E⟩ | ⟨h17, E⟩
                  · refine g_ifeq_t rfl h17 ?_
                    refine g_push rfl ?_
                    obtain rfl := so1 E
                    exact g_iret rfl
                  · refine g_ifeq_f rfl h17 ?_
                    refine g_iload rfl rfl ?_
                    refine g_aload rfl rfl ?_
                    refine g_getR rfl ty_x (fR_7_0 ty_x) ?_
                    obtain ⟨x4, h18, E⟩ := ob E
                    refine g_inv0 (dc := 0) rfl (by omega) fT_7_0 (Nat.le_of_ble_eq_true rfl) (fun d hd => tw_liveBits hd 1 S0 fT_7_0 _ h18) ?_
                    refine g_iand rfl ?_
                    obtain ⟨x5, h19, E⟩ := ob E
                    refine g_invS1 (dc := 0) rfl (by omega) (Nat.le_of_ble_eq_true rfl) (fun d hd => tj_bitCount hd (x3 &&& x4) S0 _ h19) ?_
                    refine g_goto rfl ?_
                    obtain rfl := so1 E
                    exact g_iret rfl
                · rcases xif E with ⟨h20, E⟩ | ⟨h20, E⟩
                  · refine g_tsw (u := 158) rfl (by rw [h20]; decide +kernel) ?_
                    refine g_aload rfl rfl ?_
                    refine g_getI rfl (eT_a fT_7_0 h12) ?_
                    rcases xif E with ⟨h21, E⟩ | ⟨h21, E⟩
                    · refine g_ifeq_t rfl h21 ?_
                      refine g_push rfl ?_
                      obtain rfl := so1 E
                      exact g_iret rfl
                    · refine g_ifeq_f rfl h21 ?_
                      refine g_aload rfl rfl ?_
                      refine g_getR rfl (eT_a fT_7_0 h12) (fR_0_8 (eT_a fT_7_0 h12)) ?_
                      refine g_getI rfl (fT_0_8 (eT_a fT_7_0 h12)) ?_
                      rcases xif E with ⟨h22, E⟩ | ⟨h22, E⟩
                      · refine g_ifne_t rfl h22 ?_
                        refine g_aload rfl rfl ?_
                        refine g_getR rfl (eT_a fT_7_0 h12) (fR_0_9 (eT_a fT_7_0 h12)) ?_
                        refine g_getI rfl (fT_0_9 (eT_a fT_7_0 h12)) ?_
                        refine g_goto rfl ?_
                        obtain rfl := so1 E
                        exact g_iret rfl
                      · refine g_ifne_f rfl h22 ?_
                        refine g_push rfl ?_
                        obtain rfl := so1 E
                        exact g_iret rfl
                  · refine g_tsw (u := 192) rfl (tsw_d (sw_def (n := 2) rfl _ (by decide +kernel) (fc h14 (fc h16 (fc h20 fn))))) ?_
                    refine g_iload rfl rfl ?_
                    obtain rfl := so1 E
                    exact g_iret rfl
          · refine g_icne_f rfl h9 ?_
            refine g_push rfl ?_
            obtain rfl := so1 E
            exact g_iret rfl
def fx_timer (v1 : Int32) (v2 : Int32) (S0 : Mem) : Option Int32 := if v1 < 0 then (some ((-1))) else (if v2 < 0 then (some ((-1))) else (if v2 ≤ 2 then (if v1 < (S0 3 3) then (if v2 = 0 then ((fc_ownerAt 3 v1 S0).bind fun x1 => some x1) else (if v2 = 1 then ((fc_dueAt 3 v1 S0).bind fun x2 => some x2) else ((fc_numberAt 3 v1 S0).bind fun x3 => some (100 + x3)))) else (some ((-2)))) else (some ((-1)))))
set_option maxRecDepth 20000 in
set_option maxHeartbeats 4000000 in
theorem tx_timer {scr : Nat × (Nat → Int32)} {d : Nat} (hd : 1 ≤ d) (v1 : Int32) (v2 : Int32) (S0 : Mem)  (rv : Int32) (E : fx_timer  v1 v2 S0 = some rv) : XG scr d 104 0 [(0, .inr (some (some 0))), (1, .inl v1), (2, .inl v2)] [] S0 (some (.inl rv)) S0 := by
  unfold fx_timer at E
  refine g_iload rfl rfl ?_
  rcases xif E with ⟨h1, E⟩ | ⟨h1, E⟩
  · refine g_iflt_t rfl h1 ?_
    refine g_push rfl ?_
    obtain rfl := so1 E
    exact g_iret rfl
  · refine g_iflt_f rfl h1 ?_
    refine g_iload rfl rfl ?_
    rcases xif E with ⟨h2, E⟩ | ⟨h2, E⟩
    · refine g_iflt_t rfl h2 ?_
      refine g_push rfl ?_
      obtain rfl := so1 E
      exact g_iret rfl
    · refine g_iflt_f rfl h2 ?_
      refine g_iload rfl rfl ?_
      refine g_push rfl ?_
      rcases xif E with ⟨h3, E⟩ | ⟨h3, E⟩
      · refine g_icle_t rfl h3 ?_
        refine g_aload rfl rfl ?_
        refine g_getR rfl ty_x (fR_7_0 ty_x) ?_
        refine g_getR rfl fT_7_0 (fR_6_1 fT_7_0) ?_
        refine g_astore (L2 := [(3, .inr (some (some 3))), (0, .inr (some (some 0))), (1, .inl v1), (2, .inl v2)]) rfl rfl ?_
        refine g_iload rfl rfl ?_
        refine g_aload rfl rfl ?_
        refine g_getI rfl (fT_6_1 fT_7_0) ?_
        rcases xif E with ⟨h4, E⟩ | ⟨h4, E⟩
        · refine g_iclt_t rfl h4 ?_
          refine g_iload rfl rfl ?_
          rcases xif E with ⟨h5, E⟩ | ⟨h5, E⟩
          · refine g_ifne_t rfl h5 ?_
            refine g_aload rfl rfl ?_
            refine g_iload rfl rfl ?_
            obtain ⟨x1, h6, E⟩ := ob E
            refine g_inv1 (dc := 0) rfl (by omega) (fT_6_1 fT_7_0) (Nat.le_of_ble_eq_true rfl) (fun d hd => tc_ownerAt hd 3 v1 S0 (fT_6_1 fT_7_0) _ h6) ?_
            refine g_goto rfl ?_
            obtain rfl := so1 E
            exact g_iret rfl
          · refine g_ifne_f rfl h5 ?_
            refine g_iload rfl rfl ?_
            refine g_push rfl ?_
            rcases xif E with ⟨h7, E⟩ | ⟨h7, E⟩
            · refine g_icne_t rfl h7 ?_
              refine g_aload rfl rfl ?_
              refine g_iload rfl rfl ?_
              obtain ⟨x2, h8, E⟩ := ob E
              refine g_inv1 (dc := 0) rfl (by omega) (fT_6_1 fT_7_0) (Nat.le_of_ble_eq_true rfl) (fun d hd => tc_dueAt hd 3 v1 S0 (fT_6_1 fT_7_0) _ h8) ?_
              refine g_goto rfl ?_
              obtain rfl := so1 E
              exact g_iret rfl
            · refine g_icne_f rfl h7 ?_
              refine g_push rfl ?_
              refine g_aload rfl rfl ?_
              refine g_iload rfl rfl ?_
              obtain ⟨x3, h9, E⟩ := ob E
              refine g_inv1 (dc := 0) rfl (by omega) (fT_6_1 fT_7_0) (Nat.le_of_ble_eq_true rfl) (fun d hd => tc_numberAt hd 3 v1 S0 (fT_6_1 fT_7_0) _ h9) ?_
              refine g_iadd rfl ?_
              obtain rfl := so1 E
              exact g_iret rfl
        · refine g_iclt_f rfl h4 ?_
          refine g_push rfl ?_
          obtain rfl := so1 E
          exact g_iret rfl
      · refine g_icle_f rfl h3 ?_
        refine g_push rfl ?_
        obtain rfl := so1 E
        exact g_iret rfl
def fx_watcher (v1 : Int32) (v2 : Int32) (S0 : Mem) : Option Int32 := (fw_isActor 1 v1 S0).bind fun x1 => if x1 = 0 then (some ((-1))) else ((ix v1 12).bind fun i1 => (fx_itemOf (1 + 12 + 13 * i1 + 9) v2 S0).bind fun x2 => some x2)
set_option maxRecDepth 20000 in
set_option maxHeartbeats 4000000 in
theorem tx_watcher {scr : Nat × (Nat → Int32)} {d : Nat} (hd : 2 ≤ d) (v1 : Int32) (v2 : Int32) (S0 : Mem)  (rv : Int32) (E : fx_watcher  v1 v2 S0 = some rv) : XG scr d 105 0 [(0, .inr (some (some 0))), (1, .inl v1), (2, .inl v2)] [] S0 (some (.inl rv)) S0 := by
  unfold fx_watcher at E
  refine g_aload rfl rfl ?_
  refine g_getR rfl ty_x (fR_7_0 ty_x) ?_
  refine g_iload rfl rfl ?_
  obtain ⟨x1, h1, E⟩ := ob E
  refine g_inv1 (dc := 0) rfl (by omega) fT_7_0 (Nat.le_of_ble_eq_true rfl) (fun d hd => tw_isActor hd 1 v1 S0 fT_7_0 _ h1) ?_
  rcases xif E with ⟨h2, E⟩ | ⟨h2, E⟩
  · refine g_ifeq_t rfl h2 ?_
    refine g_push rfl ?_
    obtain rfl := so1 E
    exact g_iret rfl
  · refine g_ifeq_f rfl h2 ?_
    refine g_aload rfl rfl ?_
    refine g_getR rfl ty_x (fR_7_0 ty_x) ?_
    refine g_getR rfl fT_7_0 (fR_6_0 fT_7_0) ?_
    refine g_iload rfl rfl ?_
    obtain ⟨i1, h3, E⟩ := ob E
    refine g_aald rfl (eK_a _ fT_7_0.1 fT_7_0.2).1.1 (eK_a _ fT_7_0.1 fT_7_0.2).1.2 (by decide) h3 (rA_a fT_7_0 h3) ?_
    refine g_getR rfl (eT_a fT_7_0 h3) (fR_0_10 (eT_a fT_7_0 h3)) ?_
    refine g_iload rfl rfl ?_
    obtain ⟨x2, h4, E⟩ := ob E
    refine g_invS2 (dc := 1) rfl (by omega) (Nat.le_of_ble_eq_true rfl) (fun d hd => tx_itemOf hd (1 + 12 + 13 * i1 + 9) v2 S0 (fT_0_10 (eT_a fT_7_0 h3)) _ h4) ?_
    refine g_goto rfl ?_
    obtain rfl := so1 E
    exact g_iret rfl
def fx_would_68  (v1 : Int32) (v3 : Int32) (v4 : Int32) (S0 : Mem) : Option (Int32 × Mem) := if v3 = 0 then ((ix v1 12).bind fun i1 => some (S0 (169 + 12 + 13 * i1) 5, S0)) else (if v3 = 2 then (some (v4, S0)) else ((fw_isLive 169 v1 S0).bind fun x1 => if x1 = 0 then (some (0, S0)) else (some (1, S0))))
set_option maxRecDepth 20000 in
set_option maxHeartbeats 4000000 in
theorem tx_would_68 {scr : Nat × (Nat → Int32)} {d : Nat} (hd : 5 ≤ d)  (v1 : Int32) (v3 : Int32) (v4 : Int32) (S0 : Mem)  (rv : Int32) (SR : Mem) (E : fx_would_68 v1 v3 v4 S0 = some (rv, SR)) : XG scr d 106 68 [(0, .inr (some (some 0))), (1, .inl v1), (3, .inl v3), (4, .inl v4)] [] S0 (some (.inl rv)) SR := by
  unfold fx_would_68 at E
  refine g_iload rfl rfl ?_
  rcases xif E with ⟨h1, E⟩ | ⟨h1, E⟩
  · refine g_ifne_t rfl h1 ?_
    refine g_aload rfl rfl ?_
    refine g_getR rfl ty_x (fR_7_1 ty_x) ?_
    refine g_getR rfl fT_7_1 (fR_6_0 fT_7_1) ?_
    refine g_iload rfl rfl ?_
    obtain ⟨i1, h2, E⟩ := ob E
    refine g_aald rfl (eK_a _ fT_7_1.1 fT_7_1.2).1.1 (eK_a _ fT_7_1.1 fT_7_1.2).1.2 (by decide) h2 (rA_a fT_7_1 h2) ?_
    refine g_getI rfl (eT_a fT_7_1 h2) ?_
    obtain ⟨rfl, rfl⟩ := so2 E
    exact g_iret rfl
  · refine g_ifne_f rfl h1 ?_
    refine g_iload rfl rfl ?_
    refine g_push rfl ?_
    rcases xif E with ⟨h3, E⟩ | ⟨h3, E⟩
    · refine g_icne_t rfl h3 ?_
      refine g_iload rfl rfl ?_
      refine g_goto rfl ?_
      obtain ⟨rfl, rfl⟩ := so2 E
      exact g_iret rfl
    · refine g_icne_f rfl h3 ?_
      refine g_aload rfl rfl ?_
      refine g_getR rfl ty_x (fR_7_1 ty_x) ?_
      refine g_iload rfl rfl ?_
      obtain ⟨x1, h4, E⟩ := ob E
      refine g_inv1 (dc := 0) rfl (by omega) fT_7_1 (Nat.le_of_ble_eq_true rfl) (fun d hd => tw_isLive hd 169 v1 S0 fT_7_1 _ h4) ?_
      rcases xif E with ⟨h5, E⟩ | ⟨h5, E⟩
      · refine g_ifeq_t rfl h5 ?_
        refine g_push rfl ?_
        obtain ⟨rfl, rfl⟩ := so2 E
        exact g_iret rfl
      · refine g_ifeq_f rfl h5 ?_
        refine g_push rfl ?_
        refine g_goto rfl ?_
        obtain ⟨rfl, rfl⟩ := so2 E
        exact g_iret rfl
def fx_would (v1 : Int32) (v2 : Int32) (v3 : Int32) (S0 : Mem) : Option (Int32 × Mem) := (fw_isLive 1 v1 S0).bind fun x1 => if x1 = 0 then (some ((-2000000000), S0)) else ((fx_isNumber v2 S0).bind fun x2 => if x2 = 0 then (some ((-2000000000), S0)) else (if v3 < 0 then (some ((-2000000000), S0)) else (if v3 ≤ 2 then ((fw_copyFrom 169 1 S0).bind fun S1 => bd (fw_deal 169 v1 ((-1)) v2 S1) fun x3 S2 => if x3 = 0 then (fx_would_68 v1 v3 x3 S2) else ((fw_fail 169 v1 x3 S2).bind fun S3 => fx_would_68 v1 v3 x3 S3)) else (some ((-2000000000), S0)))))
set_option maxRecDepth 20000 in
set_option maxHeartbeats 4000000 in
theorem tx_would {scr : Nat × (Nat → Int32)} {d : Nat} (hd : 5 ≤ d) (v1 : Int32) (v2 : Int32) (v3 : Int32) (S0 : Mem)  (rv : Int32) (SR : Mem) (E : fx_would  v1 v2 v3 S0 = some (rv, SR)) : XG scr d 106 0 [(0, .inr (some (some 0))), (1, .inl v1), (2, .inl v2), (3, .inl v3)] [] S0 (some (.inl rv)) SR := by
  unfold fx_would at E
  refine g_aload rfl rfl ?_
  refine g_getR rfl ty_x (fR_7_0 ty_x) ?_
  refine g_iload rfl rfl ?_
  obtain ⟨x1, h1, E⟩ := ob E
  refine g_inv1 (dc := 0) rfl (by omega) fT_7_0 (Nat.le_of_ble_eq_true rfl) (fun d hd => tw_isLive hd 1 v1 S0 fT_7_0 _ h1) ?_
  rcases xif E with ⟨h2, E⟩ | ⟨h2, E⟩
  · refine g_ifeq_t rfl h2 ?_
    refine g_push rfl ?_
    obtain ⟨rfl, rfl⟩ := so2 E
    exact g_iret rfl
  · refine g_ifeq_f rfl h2 ?_
    refine g_iload rfl rfl ?_
    obtain ⟨x2, h3, E⟩ := ob E
    refine g_invS1 (dc := 0) rfl (by omega) (Nat.le_of_ble_eq_true rfl) (fun d hd => tx_isNumber hd v2 S0 _ h3) ?_
    rcases xif E with ⟨h4, E⟩ | ⟨h4, E⟩
    · refine g_ifeq_t rfl h4 ?_
      refine g_push rfl ?_
      obtain ⟨rfl, rfl⟩ := so2 E
      exact g_iret rfl
    · refine g_ifeq_f rfl h4 ?_
      refine g_iload rfl rfl ?_
      rcases xif E with ⟨h5, E⟩ | ⟨h5, E⟩
      · refine g_iflt_t rfl h5 ?_
        refine g_push rfl ?_
        obtain ⟨rfl, rfl⟩ := so2 E
        exact g_iret rfl
      · refine g_iflt_f rfl h5 ?_
        refine g_iload rfl rfl ?_
        refine g_push rfl ?_
        rcases xif E with ⟨h6, E⟩ | ⟨h6, E⟩
        · refine g_icle_t rfl h6 ?_
          refine g_aload rfl rfl ?_
          refine g_getR rfl ty_x (fR_7_1 ty_x) ?_
          refine g_aload rfl rfl ?_
          refine g_getR rfl ty_x (fR_7_0 ty_x) ?_
          obtain ⟨S1, h7, E⟩ := ob E
          refine g_inv1 (dc := 2) rfl (by omega) fT_7_1 (Nat.le_of_ble_eq_true rfl) (fun d hd => tw_copyFrom hd 169 1 S0 fT_7_1 fT_7_0 _ h7) ?_
          refine g_aload rfl rfl ?_
          refine g_getR rfl ty_x (fR_7_1 ty_x) ?_
          refine g_iload rfl rfl ?_
          refine g_push rfl ?_
          refine g_iload rfl rfl ?_
          obtain ⟨x3, S2, h8, E⟩ := ob2 E
          refine g_inv3 (dc := 4) rfl (by omega) fT_7_1 (Nat.le_of_ble_eq_true rfl) (fun d hd => tw_deal hd 169 v1 ((-1)) v2 S1 fT_7_1 _ _ h8) ?_
          refine g_istore (L2 := [(4, .inl x3), (0, .inr (some (some 0))), (1, .inl v1), (2, .inl v2), (3, .inl v3)]) rfl rfl ?_
          refine g_iload rfl rfl ?_
          rcases xif E with ⟨h9, E⟩ | ⟨h9, E⟩
          · refine g_ifeq_t rfl h9 ?_
            exact g_loc (lsub_cons rfl (lsub_cons rfl (lsub_cons rfl (lsub_cons rfl lsub_nil)))) (tx_would_68 hd v1 v3 x3 S2 _ _ E)
          · refine g_ifeq_f rfl h9 ?_
            refine g_aload rfl rfl ?_
            refine g_getR rfl ty_x (fR_7_1 ty_x) ?_
            refine g_iload rfl rfl ?_
            refine g_iload rfl rfl ?_
            obtain ⟨S3, h10, E⟩ := ob E
            refine g_inv2 (dc := 4) rfl (by omega) fT_7_1 (Nat.le_of_ble_eq_true rfl) (fun d hd => tw_fail hd 169 v1 x3 S2 fT_7_1 _ h10) ?_
            exact g_loc (lsub_cons rfl (lsub_cons rfl (lsub_cons rfl (lsub_cons rfl lsub_nil)))) (tx_would_68 hd v1 v3 x3 S3 _ _ E)
        · refine g_icle_f rfl h6 ?_
          refine g_push rfl ?_
          obtain ⟨rfl, rfl⟩ := so2 E
          exact g_iret rfl
def fm_in (v0 : Int32) (v1 : Int32) (v2 : Int32) (S0 : Mem) : Option Int32 := if v0 < v1 then (some 0) else (if v2 < v0 then (some 0) else (some 1))
set_option maxRecDepth 20000 in
set_option maxHeartbeats 4000000 in
theorem tm_in {scr : Nat × (Nat → Int32)} {d : Nat} (hd : 0 ≤ d) (v0 : Int32) (v1 : Int32) (v2 : Int32) (S0 : Mem)  (rv : Int32) (E : fm_in  v0 v1 v2 S0 = some rv) : XG scr d 134 0 [(0, .inl v0), (1, .inl v1), (2, .inl v2)] [] S0 (some (.inl rv)) S0 := by
  unfold fm_in at E
  refine g_iload rfl rfl ?_
  refine g_iload rfl rfl ?_
  rcases xif E with ⟨h1, E⟩ | ⟨h1, E⟩
  · refine g_iclt_t rfl h1 ?_
    refine g_push rfl ?_
    obtain rfl := so1 E
    exact g_zret rfl b00
  · refine g_iclt_f rfl h1 ?_
    refine g_iload rfl rfl ?_
    refine g_iload rfl rfl ?_
    rcases xif E with ⟨h2, E⟩ | ⟨h2, E⟩
    · refine g_icgt_t rfl h2 ?_
      refine g_push rfl ?_
      obtain rfl := so1 E
      exact g_zret rfl b00
    · refine g_icgt_f rfl h2 ?_
      refine g_push rfl ?_
      refine g_goto rfl ?_
      obtain rfl := so1 E
      exact g_zret rfl b01
def fm_isActor (v1 : Int32) (S0 : Mem) : Option Int32 := (ald S0 698 924).bind fun x1 => (fm_in v1 0 (x1 - 1) S0).bind fun x2 => (bol x2).bind fun z1 => some z1
set_option maxRecDepth 20000 in
set_option maxHeartbeats 4000000 in
theorem tm_isActor {scr : Nat × (Nat → Int32)} {d : Nat} (hd : 1 ≤ d) (v1 : Int32) (S0 : Mem)  (rv : Int32) (E : fm_isActor  v1 S0 = some rv) : XG scr d 136 0 [(0, .inr (some (some 697))), (1, .inl v1)] [] S0 (some (.inl rv)) S0 := by
  unfold fm_isActor at E
  refine g_iload rfl rfl ?_
  refine g_push rfl ?_
  refine g_aload rfl rfl ?_
  refine g_getR rfl ty_m (fR_8_0 ty_m) ?_
  refine g_push rfl ?_
  obtain ⟨x1, h1, E⟩ := ob E
  refine g_iald rfl fT_8_0 h1 ?_
  refine g_push rfl ?_
  refine g_isub rfl ?_
  obtain ⟨x2, h2, E⟩ := ob E
  refine g_invS3 (dc := 0) rfl (by omega) (Nat.le_of_ble_eq_true rfl) (fun d hd => tm_in hd v1 0 (x1 - 1) S0 _ h2) ?_
  obtain ⟨z1, h3, E⟩ := ob E
  obtain rfl := so1 E
  have h32 := (bol_of h3).2
  rw [h32]
  exact g_zret rfl (bol_of h3).1
def fm_isRule (v0 : Int32) (S0 : Mem) : Option Int32 := (fm_in v0 0 2999 S0).bind fun x1 => if x1 = 0 then (some 0) else ((fm_in (irm v0 100) 1 50 S0).bind fun x2 => if x2 = 0 then (some 0) else (some 1))
set_option maxRecDepth 20000 in
set_option maxHeartbeats 4000000 in
theorem tm_isRule {scr : Nat × (Nat → Int32)} {d : Nat} (hd : 1 ≤ d) (v0 : Int32) (S0 : Mem)  (rv : Int32) (E : fm_isRule  v0 S0 = some rv) : XG scr d 145 0 [(0, .inl v0)] [] S0 (some (.inl rv)) S0 := by
  unfold fm_isRule at E
  refine g_iload rfl rfl ?_
  refine g_push rfl ?_
  refine g_push rfl ?_
  obtain ⟨x1, h1, E⟩ := ob E
  refine g_invS3 (dc := 0) rfl (by omega) (Nat.le_of_ble_eq_true rfl) (fun d hd => tm_in hd v0 0 2999 S0 _ h1) ?_
  rcases xif E with ⟨h2, E⟩ | ⟨h2, E⟩
  · refine g_ifeq_t rfl h2 ?_
    refine g_push rfl ?_
    obtain rfl := so1 E
    exact g_zret rfl b00
  · refine g_ifeq_f rfl h2 ?_
    refine g_iload rfl rfl ?_
    refine g_push rfl ?_
    refine g_irem rfl (by decide) ?_
    refine g_push rfl ?_
    refine g_push rfl ?_
    obtain ⟨x2, h3, E⟩ := ob E
    refine g_invS3 (dc := 0) rfl (by omega) (Nat.le_of_ble_eq_true rfl) (fun d hd => tm_in hd (irm v0 100) 1 50 S0 _ h3) ?_
    rcases xif E with ⟨h4, E⟩ | ⟨h4, E⟩
    · refine g_ifeq_t rfl h4 ?_
      refine g_push rfl ?_
      obtain rfl := so1 E
      exact g_zret rfl b00
    · refine g_ifeq_f rfl h4 ?_
      refine g_push rfl ?_
      refine g_goto rfl ?_
      obtain rfl := so1 E
      exact g_zret rfl b01
def fm_at (v1 : Int32) (v2 : Int32) (S0 : Mem) : Option Int32 := (ald S0 698 ((v1 * 77) + v2)).bind fun x1 => some x1
set_option maxRecDepth 20000 in
set_option maxHeartbeats 4000000 in
theorem tm_at {scr : Nat × (Nat → Int32)} {d : Nat} (hd : 0 ≤ d) (v1 : Int32) (v2 : Int32) (S0 : Mem)  (rv : Int32) (E : fm_at  v1 v2 S0 = some rv) : XG scr d 108 0 [(0, .inr (some (some 697))), (1, .inl v1), (2, .inl v2)] [] S0 (some (.inl rv)) S0 := by
  unfold fm_at at E
  refine g_aload rfl rfl ?_
  refine g_getR rfl ty_m (fR_8_0 ty_m) ?_
  refine g_iload rfl rfl ?_
  refine g_push rfl ?_
  refine g_imul rfl ?_
  refine g_iload rfl rfl ?_
  refine g_iadd rfl ?_
  obtain ⟨x1, h1, E⟩ := ob E
  refine g_iald rfl fT_8_0 h1 ?_
  obtain rfl := so1 E
  exact g_iret rfl
def fm_isLive (v1 : Int32) (S0 : Mem) : Option Int32 := (fm_at v1 5 S0).bind fun x1 => if x1 = 1 then (some 1) else (some 0)
set_option maxRecDepth 20000 in
set_option maxHeartbeats 4000000 in
theorem tm_isLive {scr : Nat × (Nat → Int32)} {d : Nat} (hd : 1 ≤ d) (v1 : Int32) (S0 : Mem)  (rv : Int32) (E : fm_isLive  v1 S0 = some rv) : XG scr d 140 0 [(0, .inr (some (some 697))), (1, .inl v1)] [] S0 (some (.inl rv)) S0 := by
  unfold fm_isLive at E
  refine g_aload rfl rfl ?_
  refine g_iload rfl rfl ?_
  refine g_push rfl ?_
  obtain ⟨x1, h1, E⟩ := ob E
  refine g_inv2 (dc := 0) rfl (by omega) ty_m (Nat.le_of_ble_eq_true rfl) (fun d hd => tm_at hd v1 5 S0 _ h1) ?_
  refine g_push rfl ?_
  rcases xif E with ⟨h2, E⟩ | ⟨h2, E⟩
  · refine g_icne_t rfl h2 ?_
    refine g_push rfl ?_
    refine g_goto rfl ?_
    obtain rfl := so1 E
    exact g_zret rfl b01
  · refine g_icne_f rfl h2 ?_
    refine g_push rfl ?_
    obtain rfl := so1 E
    exact g_zret rfl b00
def fm_canBe_27  (v1 : Int32) (v2 : Int32) (v3 : Int32) (S0 : Mem) : Option Int32 := (fm_in v2 0 9 S0).bind fun x1 => if x1 = 0 then (some ((-1))) else ((fm_isRule v3 S0).bind fun x2 => if x2 = 0 then (some ((-1))) else (if v1 < 0 then ((ald S0 698 924).bind fun x3 => if x3 = 12 then (some ((-3))) else (some 0)) else ((fm_isLive v1 S0).bind fun x4 => if x4 = 0 then (some ((-5))) else ((ald S0 698 924).bind fun x5 => if x5 = 12 then (some ((-3))) else (some 0)))))
set_option maxRecDepth 20000 in
set_option maxHeartbeats 4000000 in
theorem tm_canBe_27 {scr : Nat × (Nat → Int32)} {d : Nat} (hd : 2 ≤ d)  (v1 : Int32) (v2 : Int32) (v3 : Int32) (S0 : Mem)  (rv : Int32) (E : fm_canBe_27 v1 v2 v3 S0 = some rv) : XG scr d 112 27 [(0, .inr (some (some 697))), (1, .inl v1), (2, .inl v2), (3, .inl v3)] [] S0 (some (.inl rv)) S0 := by
  unfold fm_canBe_27 at E
  refine g_iload rfl rfl ?_
  refine g_push rfl ?_
  refine g_push rfl ?_
  obtain ⟨x1, h1, E⟩ := ob E
  refine g_invS3 (dc := 0) rfl (by omega) (Nat.le_of_ble_eq_true rfl) (fun d hd => tm_in hd v2 0 9 S0 _ h1) ?_
  rcases xif E with ⟨h2, E⟩ | ⟨h2, E⟩
  · refine g_ifeq_t rfl h2 ?_
    refine g_push rfl ?_
    obtain rfl := so1 E
    exact g_iret rfl
  · refine g_ifeq_f rfl h2 ?_
    refine g_iload rfl rfl ?_
    obtain ⟨x2, h3, E⟩ := ob E
    refine g_invS1 (dc := 1) rfl (by omega) (Nat.le_of_ble_eq_true rfl) (fun d hd => tm_isRule hd v3 S0 _ h3) ?_
    rcases xif E with ⟨h4, E⟩ | ⟨h4, E⟩
    · refine g_ifne_t rfl h4 ?_
      refine g_push rfl ?_
      obtain rfl := so1 E
      exact g_iret rfl
    · refine g_ifne_f rfl h4 ?_
      refine g_iload rfl rfl ?_
      rcases xif E with ⟨h5, E⟩ | ⟨h5, E⟩
      · refine g_iflt_t rfl h5 ?_
        refine g_aload rfl rfl ?_
        refine g_getR rfl ty_m (fR_8_0 ty_m) ?_
        refine g_push rfl ?_
        obtain ⟨x3, h6, E⟩ := ob E
        refine g_iald rfl fT_8_0 h6 ?_
        refine g_push rfl ?_
        rcases xif E with ⟨h7, E⟩ | ⟨h7, E⟩
        · refine g_icne_t rfl h7 ?_
          refine g_push rfl ?_
          refine g_goto rfl ?_
          obtain rfl := so1 E
          exact g_iret rfl
        · refine g_icne_f rfl h7 ?_
          refine g_push rfl ?_
          obtain rfl := so1 E
          exact g_iret rfl
      · refine g_iflt_f rfl h5 ?_
        refine g_aload rfl rfl ?_
        refine g_iload rfl rfl ?_
        obtain ⟨x4, h8, E⟩ := ob E
        refine g_inv1 (dc := 1) rfl (by omega) ty_m (Nat.le_of_ble_eq_true rfl) (fun d hd => tm_isLive hd v1 S0 _ h8) ?_
        rcases xif E with ⟨h9, E⟩ | ⟨h9, E⟩
        · refine g_ifne_t rfl h9 ?_
          refine g_push rfl ?_
          refine g_goto rfl ?_
          obtain rfl := so1 E
          exact g_iret rfl
        · refine g_ifne_f rfl h9 ?_
          refine g_aload rfl rfl ?_
          refine g_getR rfl ty_m (fR_8_0 ty_m) ?_
          refine g_push rfl ?_
          obtain ⟨x5, h10, E⟩ := ob E
          refine g_iald rfl fT_8_0 h10 ?_
          refine g_push rfl ?_
          rcases xif E with ⟨h11, E⟩ | ⟨h11, E⟩
          · refine g_icne_t rfl h11 ?_
            refine g_push rfl ?_
            refine g_goto rfl ?_
            obtain rfl := so1 E
            exact g_iret rfl
          · refine g_icne_f rfl h11 ?_
            refine g_push rfl ?_
            obtain rfl := so1 E
            exact g_iret rfl
def fm_canBe (v1 : Int32) (v2 : Int32) (v3 : Int32) (S0 : Mem) : Option Int32 := if v1 = ((-1)) then ((ald S0 698 924).bind fun x1 => if x1 = 0 then (fm_canBe_27 v1 v2 v3 S0) else (some ((-1)))) else ((fm_isActor v1 S0).bind fun x2 => if x2 = 0 then (some ((-1))) else (fm_canBe_27 v1 v2 v3 S0))
set_option maxRecDepth 20000 in
set_option maxHeartbeats 4000000 in
theorem tm_canBe {scr : Nat × (Nat → Int32)} {d : Nat} (hd : 2 ≤ d) (v1 : Int32) (v2 : Int32) (v3 : Int32) (S0 : Mem)  (rv : Int32) (E : fm_canBe  v1 v2 v3 S0 = some rv) : XG scr d 112 0 [(0, .inr (some (some 697))), (1, .inl v1), (2, .inl v2), (3, .inl v3)] [] S0 (some (.inl rv)) S0 := by
  unfold fm_canBe at E
  refine g_iload rfl rfl ?_
  refine g_push rfl ?_
  rcases xif E with ⟨h1, E⟩ | ⟨h1, E⟩
  · refine g_icne_t rfl h1 ?_
    refine g_aload rfl rfl ?_
    refine g_getR rfl ty_m (fR_8_0 ty_m) ?_
    refine g_push rfl ?_
    obtain ⟨x1, h2, E⟩ := ob E
    refine g_iald rfl fT_8_0 h2 ?_
    rcases xif E with ⟨h3, E⟩ | ⟨h3, E⟩
    · refine g_ifne_t rfl h3 ?_
      refine g_goto rfl ?_
      exact g_loc (lsub_cons rfl (lsub_cons rfl (lsub_cons rfl (lsub_cons rfl lsub_nil)))) (tm_canBe_27 hd v1 v2 v3 S0 _ E)
    · refine g_ifne_f rfl h3 ?_
      refine g_push rfl ?_
      obtain rfl := so1 E
      exact g_iret rfl
  · refine g_icne_f rfl h1 ?_
    refine g_aload rfl rfl ?_
    refine g_iload rfl rfl ?_
    obtain ⟨x2, h4, E⟩ := ob E
    refine g_inv1 (dc := 1) rfl (by omega) ty_m (Nat.le_of_ble_eq_true rfl) (fun d hd => tm_isActor hd v1 S0 _ h4) ?_
    rcases xif E with ⟨h5, E⟩ | ⟨h5, E⟩
    · refine g_ifeq_t rfl h5 ?_
      refine g_push rfl ?_
      obtain rfl := so1 E
      exact g_iret rfl
    · refine g_ifeq_f rfl h5 ?_
      exact g_loc (lsub_cons rfl (lsub_cons rfl (lsub_cons rfl (lsub_cons rfl lsub_nil)))) (tm_canBe_27 hd v1 v2 v3 S0 _ E)
def fm_sets (v1 : Int32) (v2 : Int32) (v3 : Int32) (S0 : Mem) : Option Mem := (ast S0 698 ((v1 * 77) + v2) v3).bind fun S1 => some S1
set_option maxRecDepth 20000 in
set_option maxHeartbeats 4000000 in
theorem tm_sets {scr : Nat × (Nat → Int32)} {d : Nat} (hd : 0 ≤ d) (v1 : Int32) (v2 : Int32) (v3 : Int32) (S0 : Mem)  (SR : Mem) (E : fm_sets  v1 v2 v3 S0 = some SR) : XG scr d 172 0 [(0, .inr (some (some 697))), (1, .inl v1), (2, .inl v2), (3, .inl v3)] [] S0 none SR := by
  unfold fm_sets at E
  refine g_aload rfl rfl ?_
  refine g_getR rfl ty_m (fR_8_0 ty_m) ?_
  refine g_iload rfl rfl ?_
  refine g_push rfl ?_
  refine g_imul rfl ?_
  refine g_iload rfl rfl ?_
  refine g_iadd rfl ?_
  refine g_iload rfl rfl ?_
  obtain ⟨S1, h1, E⟩ := ob E
  refine g_iast rfl fT_8_0 h1 ?_
  obtain rfl := so1 E
  exact g_ret rfl
def fm_actor_35b (k35 : Int32 → Int32 → Int32 → Int32 → Int32 → Mem → Option (Int32 × Mem)) (v1 : Int32) (v2 : Int32) (v3 : Int32) (v5 : Int32) (v6 : Int32) (S0 : Mem) : Option (Int32 × Mem) := if 77 ≤ v6 then ((fm_sets v5 0 v1 S0).bind fun S1 => (fm_sets v5 1 v2 S1).bind fun S2 => (fm_sets v5 2 (v3 / 1000) S2).bind fun S3 => (fm_sets v5 3 (irm (v3 / 100) 10) S3).bind fun S4 => (fm_sets v5 4 (irm v3 100) S4).bind fun S5 => (fm_sets v5 5 1 S5).bind fun S6 => (fm_sets v5 7 1 S6).bind fun S7 => (fm_sets v5 8 v2 S7).bind fun S8 => some (v5, S8)) else ((fm_sets v5 v6 0 S0).bind fun S9 => k35 v1 v2 v3 v5 (v6 + 1) S9)
set_option maxRecDepth 20000 in
set_option maxHeartbeats 4000000 in
theorem tm_actor_35b {scr : Nat × (Nat → Int32)} {d : Nat} (hd : 3 ≤ d) {k35 : Int32 → Int32 → Int32 → Int32 → Int32 → Mem → Option (Int32 × Mem)} (hk35 : ∀ (v1 : Int32) (v2 : Int32) (v3 : Int32) (v5 : Int32) (v6 : Int32) (S0 : Mem), ∀ (rv : Int32) (SR : Mem), k35 v1 v2 v3 v5 v6 S0 = some (rv, SR) → XG scr d 107 35 [(0, .inr (some (some 697))), (1, .inl v1), (2, .inl v2), (3, .inl v3), (5, .inl v5), (6, .inl v6)] [] S0 (some (.inl rv)) SR) (v1 : Int32) (v2 : Int32) (v3 : Int32) (v5 : Int32) (v6 : Int32) (S0 : Mem)  (rv : Int32) (SR : Mem) (E : fm_actor_35b k35 v1 v2 v3 v5 v6 S0 = some (rv, SR)) : XG scr d 107 35 [(0, .inr (some (some 697))), (1, .inl v1), (2, .inl v2), (3, .inl v3), (5, .inl v5), (6, .inl v6)] [] S0 (some (.inl rv)) SR := by
  unfold fm_actor_35b at E
  refine g_iload rfl rfl ?_
  refine g_push rfl ?_
  rcases xif E with ⟨h1, E⟩ | ⟨h1, E⟩
  · refine g_icge_t rfl h1 ?_
    refine g_aload rfl rfl ?_
    refine g_iload rfl rfl ?_
    refine g_push rfl ?_
    refine g_iload rfl rfl ?_
    obtain ⟨S1, h2, E⟩ := ob E
    refine g_inv3 (dc := 0) rfl (by omega) ty_m (Nat.le_of_ble_eq_true rfl) (fun d hd => tm_sets hd v5 0 v1 S0 _ h2) ?_
    refine g_aload rfl rfl ?_
    refine g_iload rfl rfl ?_
    refine g_push rfl ?_
    refine g_iload rfl rfl ?_
    obtain ⟨S2, h3, E⟩ := ob E
    refine g_inv3 (dc := 0) rfl (by omega) ty_m (Nat.le_of_ble_eq_true rfl) (fun d hd => tm_sets hd v5 1 v2 S1 _ h3) ?_
    refine g_aload rfl rfl ?_
    refine g_iload rfl rfl ?_
    refine g_push rfl ?_
    refine g_iload rfl rfl ?_
    refine g_push rfl ?_
    refine g_idiv rfl (by decide) ?_
    obtain ⟨S3, h4, E⟩ := ob E
    refine g_inv3 (dc := 0) rfl (by omega) ty_m (Nat.le_of_ble_eq_true rfl) (fun d hd => tm_sets hd v5 2 (v3 / 1000) S2 _ h4) ?_
    refine g_aload rfl rfl ?_
    refine g_iload rfl rfl ?_
    refine g_push rfl ?_
    refine g_iload rfl rfl ?_
    refine g_push rfl ?_
    refine g_idiv rfl (by decide) ?_
    refine g_push rfl ?_
    refine g_irem rfl (by decide) ?_
    obtain ⟨S4, h5, E⟩ := ob E
    refine g_inv3 (dc := 0) rfl (by omega) ty_m (Nat.le_of_ble_eq_true rfl) (fun d hd => tm_sets hd v5 3 (irm (v3 / 100) 10) S3 _ h5) ?_
    refine g_aload rfl rfl ?_
    refine g_iload rfl rfl ?_
    refine g_push rfl ?_
    refine g_iload rfl rfl ?_
    refine g_push rfl ?_
    refine g_irem rfl (by decide) ?_
    obtain ⟨S5, h6, E⟩ := ob E
    refine g_inv3 (dc := 0) rfl (by omega) ty_m (Nat.le_of_ble_eq_true rfl) (fun d hd => tm_sets hd v5 4 (irm v3 100) S4 _ h6) ?_
    refine g_aload rfl rfl ?_
    refine g_iload rfl rfl ?_
    refine g_push rfl ?_
    refine g_push rfl ?_
    obtain ⟨S6, h7, E⟩ := ob E
    refine g_inv3 (dc := 0) rfl (by omega) ty_m (Nat.le_of_ble_eq_true rfl) (fun d hd => tm_sets hd v5 5 1 S5 _ h7) ?_
    refine g_aload rfl rfl ?_
    refine g_iload rfl rfl ?_
    refine g_push rfl ?_
    refine g_push rfl ?_
    obtain ⟨S7, h8, E⟩ := ob E
    refine g_inv3 (dc := 0) rfl (by omega) ty_m (Nat.le_of_ble_eq_true rfl) (fun d hd => tm_sets hd v5 7 1 S6 _ h8) ?_
    refine g_aload rfl rfl ?_
    refine g_iload rfl rfl ?_
    refine g_push rfl ?_
    refine g_iload rfl rfl ?_
    obtain ⟨S8, h9, E⟩ := ob E
    refine g_inv3 (dc := 0) rfl (by omega) ty_m (Nat.le_of_ble_eq_true rfl) (fun d hd => tm_sets hd v5 8 v2 S7 _ h9) ?_
    refine g_iload rfl rfl ?_
    obtain ⟨rfl, rfl⟩ := so2 E
    exact g_iret rfl
  · refine g_icge_f rfl h1 ?_
    refine g_aload rfl rfl ?_
    refine g_iload rfl rfl ?_
    refine g_iload rfl rfl ?_
    refine g_push rfl ?_
    obtain ⟨S9, h10, E⟩ := ob E
    refine g_inv3 (dc := 0) rfl (by omega) ty_m (Nat.le_of_ble_eq_true rfl) (fun d hd => tm_sets hd v5 v6 0 S0 _ h10) ?_
    refine g_iinc (L2 := [(6, .inl (v6 + 1)), (0, .inr (some (some 697))), (1, .inl v1), (2, .inl v2), (3, .inl v3), (5, .inl v5)]) rfl rfl rfl ?_
    refine g_goto rfl ?_
    exact g_loc (lsub_cons rfl (lsub_cons rfl (lsub_cons rfl (lsub_cons rfl (lsub_cons rfl (lsub_cons rfl lsub_nil)))))) (hk35 v1 v2 v3 v5 (v6 + 1) S9 _ _ E)
def fm_actor_35  : Nat → Int32 → Int32 → Int32 → Int32 → Int32 → Mem → Option (Int32 × Mem)
  | 0 => fun _ _ _ _ _ _ => none
  | n + 1 => fm_actor_35b  (fm_actor_35  n)
set_option maxRecDepth 20000 in
set_option maxHeartbeats 4000000 in
theorem tm_actor_35 {scr : Nat × (Nat → Int32)} {d : Nat} (hd : 3 ≤ d)  : ∀ (n : Nat) (v1 : Int32) (v2 : Int32) (v3 : Int32) (v5 : Int32) (v6 : Int32) (S0 : Mem), ∀ (rv : Int32) (SR : Mem), fm_actor_35  n v1 v2 v3 v5 v6 S0 = some (rv, SR) → XG scr d 107 35 [(0, .inr (some (some 697))), (1, .inl v1), (2, .inl v2), (3, .inl v3), (5, .inl v5), (6, .inl v6)] [] S0 (some (.inl rv)) SR
  | 0, v1, v2, v3, v5, v6, S0, rv, SR, E => nn E
  | n + 1, v1, v2, v3, v5, v6, S0, rv, SR, E => tm_actor_35b hd  (tm_actor_35 hd  n) v1 v2 v3 v5 v6 S0  rv SR E
def fm_actor (v1 : Int32) (v2 : Int32) (v3 : Int32) (S0 : Mem) : Option (Int32 × Mem) := (fm_canBe v1 v2 v3 S0).bind fun x1 => if x1 = 0 then ((ald S0 698 924).bind fun x2 => (ast S0 698 924 (x2 + 1)).bind fun S1 => fm_actor_35 LF v1 v2 v3 x2 0 S1) else (some (x1, S0))
set_option maxRecDepth 20000 in
set_option maxHeartbeats 4000000 in
theorem tm_actor {scr : Nat × (Nat → Int32)} {d : Nat} (hd : 3 ≤ d) (v1 : Int32) (v2 : Int32) (v3 : Int32) (S0 : Mem)  (rv : Int32) (SR : Mem) (E : fm_actor  v1 v2 v3 S0 = some (rv, SR)) : XG scr d 107 0 [(0, .inr (some (some 697))), (1, .inl v1), (2, .inl v2), (3, .inl v3)] [] S0 (some (.inl rv)) SR := by
  unfold fm_actor at E
  refine g_aload rfl rfl ?_
  refine g_iload rfl rfl ?_
  refine g_iload rfl rfl ?_
  refine g_iload rfl rfl ?_
  obtain ⟨x1, h1, E⟩ := ob E
  refine g_inv3 (dc := 2) rfl (by omega) ty_m (Nat.le_of_ble_eq_true rfl) (fun d hd => tm_canBe hd v1 v2 v3 S0 _ h1) ?_
  refine g_istore (L2 := [(4, .inl x1), (0, .inr (some (some 697))), (1, .inl v1), (2, .inl v2), (3, .inl v3)]) rfl rfl ?_
  refine g_iload rfl rfl ?_
  rcases xif E with ⟨h2, E⟩ | ⟨h2, E⟩
  · refine g_ifeq_t rfl h2 ?_
    refine g_aload rfl rfl ?_
    refine g_getR rfl ty_m (fR_8_0 ty_m) ?_
    refine g_push rfl ?_
    refine g_dup2 rfl ?_
    obtain ⟨x2, h3, E⟩ := ob E
    refine g_iald rfl fT_8_0 h3 ?_
    refine g_dup_x2 rfl ?_
    refine g_push rfl ?_
    refine g_iadd rfl ?_
    obtain ⟨S1, h4, E⟩ := ob E
    refine g_iast rfl fT_8_0 h4 ?_
    refine g_istore (L2 := [(5, .inl x2), (4, .inl x1), (0, .inr (some (some 697))), (1, .inl v1), (2, .inl v2), (3, .inl v3)]) rfl rfl ?_
    refine g_push rfl ?_
    refine g_istore (L2 := [(6, .inl 0), (5, .inl x2), (4, .inl x1), (0, .inr (some (some 697))), (1, .inl v1), (2, .inl v2), (3, .inl v3)]) rfl rfl ?_
    exact g_loc (lsub_cons rfl (lsub_cons rfl (lsub_cons rfl (lsub_cons rfl (lsub_cons rfl (lsub_cons rfl lsub_nil)))))) (tm_actor_35 hd LF v1 v2 v3 x2 0 S1 _ _ E)
  · refine g_ifeq_f rfl h2 ?_
    refine g_iload rfl rfl ?_
    obtain ⟨rfl, rfl⟩ := so2 E
    exact g_iret rfl
def fm_take_2b (k2 : Nat → Nat → Int32 → Mem → Option Mem) (v0 : Nat) (v1 : Nat) (v2 : Int32) (S0 : Mem) : Option Mem := if 1018 ≤ v2 then (some S0) else ((ald S0 v0 v2).bind fun x1 => (ast S0 v1 v2 x1).bind fun S1 => k2 v0 v1 (v2 + 1) S1)
set_option maxRecDepth 20000 in
set_option maxHeartbeats 4000000 in
theorem tm_take_2b {scr : Nat × (Nat → Int32)} {d : Nat} (hd : 0 ≤ d) {k2 : Nat → Nat → Int32 → Mem → Option Mem} (hk2 : ∀ (v0 : Nat) (v1 : Nat) (v2 : Int32) (S0 : Mem), Ar v0 → Ar v1 → ∀ (SR : Mem), k2 v0 v1 v2 S0 = some SR → XG scr d 179 2 [(0, .inr (some (some v0))), (1, .inr (some (some v1))), (2, .inl v2)] [] S0 none SR) (v0 : Nat) (v1 : Nat) (v2 : Int32) (S0 : Mem) (tv0 : Ar v0) (tv1 : Ar v1) (SR : Mem) (E : fm_take_2b k2 v0 v1 v2 S0 = some SR) : XG scr d 179 2 [(0, .inr (some (some v0))), (1, .inr (some (some v1))), (2, .inl v2)] [] S0 none SR := by
  unfold fm_take_2b at E
  refine g_iload rfl rfl ?_
  refine g_push rfl ?_
  rcases xif E with ⟨h1, E⟩ | ⟨h1, E⟩
  · refine g_icge_t rfl h1 ?_
    obtain rfl := so1 E
    exact g_ret rfl
  · refine g_icge_f rfl h1 ?_
    refine g_aload rfl rfl ?_
    refine g_iload rfl rfl ?_
    refine g_aload rfl rfl ?_
    refine g_iload rfl rfl ?_
    obtain ⟨x1, h2, E⟩ := ob E
    refine g_iald rfl tv0 h2 ?_
    obtain ⟨S1, h3, E⟩ := ob E
    refine g_iast rfl tv1 h3 ?_
    refine g_iinc (L2 := [(2, .inl (v2 + 1)), (0, .inr (some (some v0))), (1, .inr (some (some v1)))]) rfl rfl rfl ?_
    refine g_goto rfl ?_
    exact g_loc (lsub_cons rfl (lsub_cons rfl (lsub_cons rfl lsub_nil))) (hk2 v0 v1 (v2 + 1) S1 tv0 tv1 _ E)
def fm_take_2  : Nat → Nat → Nat → Int32 → Mem → Option Mem
  | 0 => fun _ _ _ _ => none
  | n + 1 => fm_take_2b  (fm_take_2  n)
set_option maxRecDepth 20000 in
set_option maxHeartbeats 4000000 in
theorem tm_take_2 {scr : Nat × (Nat → Int32)} {d : Nat} (hd : 0 ≤ d)  : ∀ (n : Nat) (v0 : Nat) (v1 : Nat) (v2 : Int32) (S0 : Mem), Ar v0 → Ar v1 → ∀ (SR : Mem), fm_take_2  n v0 v1 v2 S0 = some SR → XG scr d 179 2 [(0, .inr (some (some v0))), (1, .inr (some (some v1))), (2, .inl v2)] [] S0 none SR
  | 0, v0, v1, v2, S0, tv0, tv1, SR, E => nn E
  | n + 1, v0, v1, v2, S0, tv0, tv1, SR, E => tm_take_2b hd  (tm_take_2 hd  n) v0 v1 v2 S0 tv0 tv1 SR E
def fm_take (v0 : Nat) (v1 : Nat) (S0 : Mem) : Option Mem := fm_take_2 LF v0 v1 0 S0
set_option maxRecDepth 20000 in
set_option maxHeartbeats 4000000 in
theorem tm_take {scr : Nat × (Nat → Int32)} {d : Nat} (hd : 0 ≤ d) (v0 : Nat) (v1 : Nat) (S0 : Mem) (tv0 : Ar v0) (tv1 : Ar v1) (SR : Mem) (E : fm_take  v0 v1 S0 = some SR) : XG scr d 179 0 [(0, .inr (some (some v0))), (1, .inr (some (some v1)))] [] S0 none SR := by
  unfold fm_take at E
  refine g_push rfl ?_
  refine g_istore (L2 := [(2, .inl 0), (0, .inr (some (some v0))), (1, .inr (some (some v1)))]) rfl rfl ?_
  exact g_loc (lsub_cons rfl (lsub_cons rfl (lsub_cons rfl lsub_nil))) (tm_take_2 hd LF v0 v1 0 S0 tv0 tv1 _ E)
def fm_back_23b (k23 : Int32 → Mem → Option (Int32 × Mem)) (v1 : Int32) (S0 : Mem) : Option (Int32 × Mem) := if 6 ≤ v1 then ((ald S0 698 924).bind fun x1 => some (x1, S0)) else ((ald S0 704 v1).bind fun x2 => if x2 = 1 then ((ald S0 705 v1).bind fun x3 => (ald S0 698 924).bind fun x4 => if x3 < x4 then ((ald S0 704 v1).bind fun x5 => (ast S0 704 v1 x5).bind fun S1 => k23 (v1 + 1) S1) else ((ast S0 704 v1 0).bind fun S2 => k23 (v1 + 1) S2)) else ((ald S0 704 v1).bind fun x6 => (ast S0 704 v1 x6).bind fun S3 => k23 (v1 + 1) S3))
set_option maxRecDepth 20000 in
set_option maxHeartbeats 4000000 in
theorem tm_back_23b {scr : Nat × (Nat → Int32)} {d : Nat} (hd : 1 ≤ d) {k23 : Int32 → Mem → Option (Int32 × Mem)} (hk23 : ∀ (v1 : Int32) (S0 : Mem), ∀ (rv : Int32) (SR : Mem), k23 v1 S0 = some (rv, SR) → XG scr d 109 23 [(0, .inr (some (some 697))), (1, .inl v1)] [] S0 (some (.inl rv)) SR) (v1 : Int32) (S0 : Mem)  (rv : Int32) (SR : Mem) (E : fm_back_23b k23 v1 S0 = some (rv, SR)) : XG scr d 109 23 [(0, .inr (some (some 697))), (1, .inl v1)] [] S0 (some (.inl rv)) SR := by
  unfold fm_back_23b at E
  refine g_iload rfl rfl ?_
  refine g_push rfl ?_
  rcases xif E with ⟨h1, E⟩ | ⟨h1, E⟩
  · refine g_icge_t rfl h1 ?_
    refine g_aload rfl rfl ?_
    refine g_getR rfl ty_m (fR_8_0 ty_m) ?_
    refine g_push rfl ?_
    obtain ⟨x1, h2, E⟩ := ob E
    refine g_iald rfl fT_8_0 h2 ?_
    obtain ⟨rfl, rfl⟩ := so2 E
    exact g_iret rfl
  · refine g_icge_f rfl h1 ?_
    refine g_aload rfl rfl ?_
    refine g_getR rfl ty_m (fR_8_12 ty_m) ?_
    refine g_iload rfl rfl ?_
    refine g_aload rfl rfl ?_
    refine g_getR rfl ty_m (fR_8_12 ty_m) ?_
    refine g_iload rfl rfl ?_
    obtain ⟨x2, h3, E⟩ := ob E
    refine g_iald rfl fT_8_12 h3 ?_
    refine g_push rfl ?_
    rcases xif E with ⟨h4, E⟩ | ⟨h4, E⟩
    · refine g_icne_t rfl h4 ?_
      refine g_aload rfl rfl ?_
      refine g_getR rfl ty_m (fR_8_13 ty_m) ?_
      refine g_iload rfl rfl ?_
      obtain ⟨x3, h5, E⟩ := ob E
      refine g_iald rfl fT_8_13 h5 ?_
      refine g_aload rfl rfl ?_
      refine g_getR rfl ty_m (fR_8_0 ty_m) ?_
      refine g_push rfl ?_
      obtain ⟨x4, h6, E⟩ := ob E
      refine g_iald rfl fT_8_0 h6 ?_
      rcases xif E with ⟨h7, E⟩ | ⟨h7, E⟩
      · refine g_iclt_t rfl h7 ?_
        refine g_aload rfl rfl ?_
        refine g_getR rfl ty_m (fR_8_12 ty_m) ?_
        refine g_iload rfl rfl ?_
        obtain ⟨x5, h8, E⟩ := ob E
        refine g_iald rfl fT_8_12 h8 ?_
        obtain ⟨S1, h9, E⟩ := ob E
        refine g_iast rfl fT_8_12 h9 ?_
        refine g_iinc (L2 := [(1, .inl (v1 + 1)), (0, .inr (some (some 697)))]) rfl rfl rfl ?_
        refine g_goto rfl ?_
        exact g_loc (lsub_cons rfl (lsub_cons rfl lsub_nil)) (hk23 (v1 + 1) S1 _ _ E)
      · refine g_iclt_f rfl h7 ?_
        refine g_push rfl ?_
        refine g_goto rfl ?_
        obtain ⟨S2, h10, E⟩ := ob E
        refine g_iast rfl fT_8_12 h10 ?_
        refine g_iinc (L2 := [(1, .inl (v1 + 1)), (0, .inr (some (some 697)))]) rfl rfl rfl ?_
        refine g_goto rfl ?_
        exact g_loc (lsub_cons rfl (lsub_cons rfl lsub_nil)) (hk23 (v1 + 1) S2 _ _ E)
    · refine g_icne_f rfl h4 ?_
      refine g_aload rfl rfl ?_
      refine g_getR rfl ty_m (fR_8_12 ty_m) ?_
      refine g_iload rfl rfl ?_
      obtain ⟨x6, h11, E⟩ := ob E
      refine g_iald rfl fT_8_12 h11 ?_
      obtain ⟨S3, h12, E⟩ := ob E
      refine g_iast rfl fT_8_12 h12 ?_
      refine g_iinc (L2 := [(1, .inl (v1 + 1)), (0, .inr (some (some 697)))]) rfl rfl rfl ?_
      refine g_goto rfl ?_
      exact g_loc (lsub_cons rfl (lsub_cons rfl lsub_nil)) (hk23 (v1 + 1) S3 _ _ E)
def fm_back_23  : Nat → Int32 → Mem → Option (Int32 × Mem)
  | 0 => fun _ _ => none
  | n + 1 => fm_back_23b  (fm_back_23  n)
set_option maxRecDepth 20000 in
set_option maxHeartbeats 4000000 in
theorem tm_back_23 {scr : Nat × (Nat → Int32)} {d : Nat} (hd : 1 ≤ d)  : ∀ (n : Nat) (v1 : Int32) (S0 : Mem), ∀ (rv : Int32) (SR : Mem), fm_back_23  n v1 S0 = some (rv, SR) → XG scr d 109 23 [(0, .inr (some (some 697))), (1, .inl v1)] [] S0 (some (.inl rv)) SR
  | 0, v1, S0, rv, SR, E => nn E
  | n + 1, v1, S0, rv, SR, E => tm_back_23b hd  (tm_back_23 hd  n) v1 S0  rv SR E
def fm_back  (S0 : Mem) : Option (Int32 × Mem) := if (S0 697 4) = 0 then (some ((-5), S0)) else ((fm_take 701 698 S0).bind fun S1 => fm_back_23 LF 0 S1)
set_option maxRecDepth 20000 in
set_option maxHeartbeats 4000000 in
theorem tm_back {scr : Nat × (Nat → Int32)} {d : Nat} (hd : 1 ≤ d)  (S0 : Mem)  (rv : Int32) (SR : Mem) (E : fm_back   S0 = some (rv, SR)) : XG scr d 109 0 [(0, .inr (some (some 697)))] [] S0 (some (.inl rv)) SR := by
  unfold fm_back at E
  refine g_aload rfl rfl ?_
  refine g_getI rfl ty_m ?_
  rcases xif E with ⟨h1, E⟩ | ⟨h1, E⟩
  · refine g_ifne_t rfl h1 ?_
    refine g_push rfl ?_
    obtain ⟨rfl, rfl⟩ := so2 E
    exact g_iret rfl
  · refine g_ifne_f rfl h1 ?_
    refine g_aload rfl rfl ?_
    refine g_getR rfl ty_m (fR_8_3 ty_m) ?_
    refine g_aload rfl rfl ?_
    refine g_getR rfl ty_m (fR_8_0 ty_m) ?_
    obtain ⟨S1, h2, E⟩ := ob E
    refine g_invS2 (dc := 0) rfl (by omega) (Nat.le_of_ble_eq_true rfl) (fun d hd => tm_take hd 701 698 S0 fT_8_3 fT_8_0 _ h2) ?_
    refine g_push rfl ?_
    refine g_istore (L2 := [(1, .inl 0), (0, .inr (some (some 697)))]) rfl rfl ?_
    exact g_loc (lsub_cons rfl (lsub_cons rfl lsub_nil)) (tm_back_23 hd LF 0 S1 _ _ E)
def fm_bits_4b (k4 : Int32 → Int32 → Mem → Option Int32) (v1 : Int32) (v2 : Int32) (S0 : Mem) : Option Int32 := if v2 = 0 then (some v1) else (k4 (v1 + 1) (v2 &&& (v2 - 1)) S0)
set_option maxRecDepth 20000 in
set_option maxHeartbeats 4000000 in
theorem tm_bits_4b {scr : Nat × (Nat → Int32)} {d : Nat} (hd : 0 ≤ d) {k4 : Int32 → Int32 → Mem → Option Int32} (hk4 : ∀ (v1 : Int32) (v2 : Int32) (S0 : Mem), ∀ (rv : Int32), k4 v1 v2 S0 = some rv → XG scr d 110 4 [(1, .inl v1), (2, .inl v2)] [] S0 (some (.inl rv)) S0) (v1 : Int32) (v2 : Int32) (S0 : Mem)  (rv : Int32) (E : fm_bits_4b k4 v1 v2 S0 = some rv) : XG scr d 110 4 [(1, .inl v1), (2, .inl v2)] [] S0 (some (.inl rv)) S0 := by
  unfold fm_bits_4b at E
  refine g_iload rfl rfl ?_
  rcases xif E with ⟨h1, E⟩ | ⟨h1, E⟩
  · refine g_ifeq_t rfl h1 ?_
    refine g_iload rfl rfl ?_
    obtain rfl := so1 E
    exact g_iret rfl
  · refine g_ifeq_f rfl h1 ?_
    refine g_iinc (L2 := [(1, .inl (v1 + 1)), (2, .inl v2)]) rfl rfl rfl ?_
    refine g_iload rfl rfl ?_
    refine g_iload rfl rfl ?_
    refine g_push rfl ?_
    refine g_isub rfl ?_
    refine g_iand rfl ?_
    refine g_istore (L2 := [(2, .inl (v2 &&& (v2 - 1))), (1, .inl (v1 + 1))]) rfl rfl ?_
    refine g_goto rfl ?_
    exact g_loc (lsub_cons rfl (lsub_cons rfl lsub_nil)) (hk4 (v1 + 1) (v2 &&& (v2 - 1)) S0 _ E)
def fm_bits_4  : Nat → Int32 → Int32 → Mem → Option Int32
  | 0 => fun _ _ _ => none
  | n + 1 => fm_bits_4b  (fm_bits_4  n)
set_option maxRecDepth 20000 in
set_option maxHeartbeats 4000000 in
theorem tm_bits_4 {scr : Nat × (Nat → Int32)} {d : Nat} (hd : 0 ≤ d)  : ∀ (n : Nat) (v1 : Int32) (v2 : Int32) (S0 : Mem), ∀ (rv : Int32), fm_bits_4  n v1 v2 S0 = some rv → XG scr d 110 4 [(1, .inl v1), (2, .inl v2)] [] S0 (some (.inl rv)) S0
  | 0, v1, v2, S0, rv, E => nn E
  | n + 1, v1, v2, S0, rv, E => tm_bits_4b hd  (tm_bits_4 hd  n) v1 v2 S0  rv E
def fm_bits (v0 : Int32) (S0 : Mem) : Option Int32 := fm_bits_4 LF 0 v0 S0
set_option maxRecDepth 20000 in
set_option maxHeartbeats 4000000 in
theorem tm_bits {scr : Nat × (Nat → Int32)} {d : Nat} (hd : 0 ≤ d) (v0 : Int32) (S0 : Mem)  (rv : Int32) (E : fm_bits  v0 S0 = some rv) : XG scr d 110 0 [(0, .inl v0)] [] S0 (some (.inl rv)) S0 := by
  unfold fm_bits at E
  refine g_push rfl ?_
  refine g_istore (L2 := [(1, .inl 0), (0, .inl v0)]) rfl rfl ?_
  refine g_iload rfl rfl ?_
  refine g_istore (L2 := [(2, .inl v0), (1, .inl 0), (0, .inl v0)]) rfl rfl ?_
  exact g_loc (lsub_cons rfl (lsub_cons rfl lsub_nil)) (tm_bits_4 hd LF 0 v0 S0 _ E)
def fm_liveOnes_4b (k4 : Int32 → Int32 → Mem → Option Int32) (v1 : Int32) (v2 : Int32) (S0 : Mem) : Option Int32 := (ald S0 698 924).bind fun x1 => if x1 ≤ v2 then (some v1) else ((fm_isLive v2 S0).bind fun x2 => if x2 = 0 then (k4 (v1 ||| 0) (v2 + 1) S0) else (k4 (v1 ||| (1 <<< (v2 &&& 31))) (v2 + 1) S0))
set_option maxRecDepth 20000 in
set_option maxHeartbeats 4000000 in
theorem tm_liveOnes_4b {scr : Nat × (Nat → Int32)} {d : Nat} (hd : 2 ≤ d) {k4 : Int32 → Int32 → Mem → Option Int32} (hk4 : ∀ (v1 : Int32) (v2 : Int32) (S0 : Mem), ∀ (rv : Int32), k4 v1 v2 S0 = some rv → XG scr d 147 4 [(0, .inr (some (some 697))), (1, .inl v1), (2, .inl v2)] [] S0 (some (.inl rv)) S0) (v1 : Int32) (v2 : Int32) (S0 : Mem)  (rv : Int32) (E : fm_liveOnes_4b k4 v1 v2 S0 = some rv) : XG scr d 147 4 [(0, .inr (some (some 697))), (1, .inl v1), (2, .inl v2)] [] S0 (some (.inl rv)) S0 := by
  unfold fm_liveOnes_4b at E
  refine g_iload rfl rfl ?_
  refine g_aload rfl rfl ?_
  refine g_getR rfl ty_m (fR_8_0 ty_m) ?_
  refine g_push rfl ?_
  obtain ⟨x1, h1, E⟩ := ob E
  refine g_iald rfl fT_8_0 h1 ?_
  rcases xif E with ⟨h2, E⟩ | ⟨h2, E⟩
  · refine g_icge_t rfl h2 ?_
    refine g_iload rfl rfl ?_
    obtain rfl := so1 E
    exact g_iret rfl
  · refine g_icge_f rfl h2 ?_
    refine g_iload rfl rfl ?_
    refine g_aload rfl rfl ?_
    refine g_iload rfl rfl ?_
    obtain ⟨x2, h3, E⟩ := ob E
    refine g_inv1 (dc := 1) rfl (by omega) ty_m (Nat.le_of_ble_eq_true rfl) (fun d hd => tm_isLive hd v2 S0 _ h3) ?_
    rcases xif E with ⟨h4, E⟩ | ⟨h4, E⟩
    · refine g_ifeq_t rfl h4 ?_
      refine g_push rfl ?_
      refine g_ior rfl ?_
      refine g_istore (L2 := [(1, .inl (v1 ||| 0)), (0, .inr (some (some 697))), (2, .inl v2)]) rfl rfl ?_
      refine g_iinc (L2 := [(2, .inl (v2 + 1)), (1, .inl (v1 ||| 0)), (0, .inr (some (some 697)))]) rfl rfl rfl ?_
      refine g_goto rfl ?_
      exact g_loc (lsub_cons rfl (lsub_cons rfl (lsub_cons rfl lsub_nil))) (hk4 (v1 ||| 0) (v2 + 1) S0 _ E)
    · refine g_ifeq_f rfl h4 ?_
      refine g_push rfl ?_
      refine g_iload rfl rfl ?_
      refine g_ishl rfl ?_
      refine g_goto rfl ?_
      refine g_ior rfl ?_
      refine g_istore (L2 := [(1, .inl (v1 ||| (1 <<< (v2 &&& 31)))), (0, .inr (some (some 697))), (2, .inl v2)]) rfl rfl ?_
      refine g_iinc (L2 := [(2, .inl (v2 + 1)), (1, .inl (v1 ||| (1 <<< (v2 &&& 31)))), (0, .inr (some (some 697)))]) rfl rfl rfl ?_
      refine g_goto rfl ?_
      exact g_loc (lsub_cons rfl (lsub_cons rfl (lsub_cons rfl lsub_nil))) (hk4 (v1 ||| (1 <<< (v2 &&& 31))) (v2 + 1) S0 _ E)
def fm_liveOnes_4  : Nat → Int32 → Int32 → Mem → Option Int32
  | 0 => fun _ _ _ => none
  | n + 1 => fm_liveOnes_4b  (fm_liveOnes_4  n)
set_option maxRecDepth 20000 in
set_option maxHeartbeats 4000000 in
theorem tm_liveOnes_4 {scr : Nat × (Nat → Int32)} {d : Nat} (hd : 2 ≤ d)  : ∀ (n : Nat) (v1 : Int32) (v2 : Int32) (S0 : Mem), ∀ (rv : Int32), fm_liveOnes_4  n v1 v2 S0 = some rv → XG scr d 147 4 [(0, .inr (some (some 697))), (1, .inl v1), (2, .inl v2)] [] S0 (some (.inl rv)) S0
  | 0, v1, v2, S0, rv, E => nn E
  | n + 1, v1, v2, S0, rv, E => tm_liveOnes_4b hd  (tm_liveOnes_4 hd  n) v1 v2 S0  rv E
def fm_liveOnes  (S0 : Mem) : Option Int32 := fm_liveOnes_4 LF 0 0 S0
set_option maxRecDepth 20000 in
set_option maxHeartbeats 4000000 in
theorem tm_liveOnes {scr : Nat × (Nat → Int32)} {d : Nat} (hd : 2 ≤ d)  (S0 : Mem)  (rv : Int32) (E : fm_liveOnes   S0 = some rv) : XG scr d 147 0 [(0, .inr (some (some 697)))] [] S0 (some (.inl rv)) S0 := by
  unfold fm_liveOnes at E
  refine g_push rfl ?_
  refine g_istore (L2 := [(1, .inl 0), (0, .inr (some (some 697)))]) rfl rfl ?_
  refine g_push rfl ?_
  refine g_istore (L2 := [(2, .inl 0), (1, .inl 0), (0, .inr (some (some 697)))]) rfl rfl ?_
  exact g_loc (lsub_cons rfl (lsub_cons rfl (lsub_cons rfl lsub_nil))) (tm_liveOnes_4 hd LF 0 0 S0 _ E)
def fm_noted_14b (k14 : Int32 → Int32 → Int32 → Int32 → Int32 → Mem → Option (Int32 × Mem)) (v1 : Int32) (v2 : Int32) (v3 : Int32) (v4 : Int32) (v5 : Int32) (S0 : Mem) : Option (Int32 × Mem) := if v4 ≤ v5 then (if v2 = 0 then (some (v3, S0)) else ((fm_sets v1 64 v3 S0).bind fun S1 => some (v3, S1))) else ((fm_at v1 (65 + v5) S0).bind fun x1 => (ald S0 698 925).bind fun x2 => (fm_at v1 4 S0).bind fun x3 => if x1 < (x2 - x3) then (k14 v1 v2 v3 v4 (v5 + 1) S0) else (if v2 = 0 then (k14 v1 v2 (v3 + 1) v4 (v5 + 1) S0) else ((fm_sets v1 (65 + v3) x1 S0).bind fun S2 => k14 v1 v2 (v3 + 1) v4 (v5 + 1) S2)))
set_option maxRecDepth 20000 in
set_option maxHeartbeats 4000000 in
theorem tm_noted_14b {scr : Nat × (Nat → Int32)} {d : Nat} (hd : 1 ≤ d) {k14 : Int32 → Int32 → Int32 → Int32 → Int32 → Mem → Option (Int32 × Mem)} (hk14 : ∀ (v1 : Int32) (v2 : Int32) (v3 : Int32) (v4 : Int32) (v5 : Int32) (S0 : Mem), ∀ (rv : Int32) (SR : Mem), k14 v1 v2 v3 v4 v5 S0 = some (rv, SR) → XG scr d 154 14 [(0, .inr (some (some 697))), (1, .inl v1), (2, .inl v2), (3, .inl v3), (4, .inl v4), (5, .inl v5)] [] S0 (some (.inl rv)) SR) (v1 : Int32) (v2 : Int32) (v3 : Int32) (v4 : Int32) (v5 : Int32) (S0 : Mem)  (rv : Int32) (SR : Mem) (E : fm_noted_14b k14 v1 v2 v3 v4 v5 S0 = some (rv, SR)) : XG scr d 154 14 [(0, .inr (some (some 697))), (1, .inl v1), (2, .inl v2), (3, .inl v3), (4, .inl v4), (5, .inl v5)] [] S0 (some (.inl rv)) SR := by
  unfold fm_noted_14b at E
  refine g_iload rfl rfl ?_
  refine g_iload rfl rfl ?_
  rcases xif E with ⟨h1, E⟩ | ⟨h1, E⟩
  · refine g_icge_t rfl h1 ?_
    refine g_iload rfl rfl ?_
    rcases xif E with ⟨h2, E⟩ | ⟨h2, E⟩
    · refine g_ifeq_t rfl h2 ?_
      refine g_iload rfl rfl ?_
      obtain ⟨rfl, rfl⟩ := so2 E
      exact g_iret rfl
    · refine g_ifeq_f rfl h2 ?_
      refine g_aload rfl rfl ?_
      refine g_iload rfl rfl ?_
      refine g_push rfl ?_
      refine g_iload rfl rfl ?_
      obtain ⟨S1, h3, E⟩ := ob E
      refine g_inv3 (dc := 0) rfl (by omega) ty_m (Nat.le_of_ble_eq_true rfl) (fun d hd => tm_sets hd v1 64 v3 S0 _ h3) ?_
      refine g_iload rfl rfl ?_
      obtain ⟨rfl, rfl⟩ := so2 E
      exact g_iret rfl
  · refine g_icge_f rfl h1 ?_
    refine g_aload rfl rfl ?_
    refine g_iload rfl rfl ?_
    refine g_push rfl ?_
    refine g_iload rfl rfl ?_
    refine g_iadd rfl ?_
    obtain ⟨x1, h4, E⟩ := ob E
    refine g_inv2 (dc := 0) rfl (by omega) ty_m (Nat.le_of_ble_eq_true rfl) (fun d hd => tm_at hd v1 (65 + v5) S0 _ h4) ?_
    refine g_istore (L2 := [(6, .inl x1), (0, .inr (some (some 697))), (1, .inl v1), (2, .inl v2), (3, .inl v3), (4, .inl v4), (5, .inl v5)]) rfl rfl ?_
    refine g_iload rfl rfl ?_
    refine g_aload rfl rfl ?_
    refine g_getR rfl ty_m (fR_8_0 ty_m) ?_
    refine g_push rfl ?_
    obtain ⟨x2, h5, E⟩ := ob E
    refine g_iald rfl fT_8_0 h5 ?_
    refine g_aload rfl rfl ?_
    refine g_iload rfl rfl ?_
    refine g_push rfl ?_
    obtain ⟨x3, h6, E⟩ := ob E
    refine g_inv2 (dc := 0) rfl (by omega) ty_m (Nat.le_of_ble_eq_true rfl) (fun d hd => tm_at hd v1 4 S0 _ h6) ?_
    refine g_isub rfl ?_
    rcases xif E with ⟨h7, E⟩ | ⟨h7, E⟩
    · refine g_iclt_t rfl h7 ?_
      refine g_iinc (L2 := [(5, .inl (v5 + 1)), (6, .inl x1), (0, .inr (some (some 697))), (1, .inl v1), (2, .inl v2), (3, .inl v3), (4, .inl v4)]) rfl rfl rfl ?_
      refine g_goto rfl ?_
      exact g_loc (lsub_cons rfl (lsub_cons rfl (lsub_cons rfl (lsub_cons rfl (lsub_cons rfl (lsub_cons rfl lsub_nil)))))) (hk14 v1 v2 v3 v4 (v5 + 1) S0 _ _ E)
    · refine g_iclt_f rfl h7 ?_
      refine g_iload rfl rfl ?_
      rcases xif E with ⟨h8, E⟩ | ⟨h8, E⟩
      · refine g_ifeq_t rfl h8 ?_
        refine g_iinc (L2 := [(3, .inl (v3 + 1)), (6, .inl x1), (0, .inr (some (some 697))), (1, .inl v1), (2, .inl v2), (4, .inl v4), (5, .inl v5)]) rfl rfl rfl ?_
        refine g_iinc (L2 := [(5, .inl (v5 + 1)), (3, .inl (v3 + 1)), (6, .inl x1), (0, .inr (some (some 697))), (1, .inl v1), (2, .inl v2), (4, .inl v4)]) rfl rfl rfl ?_
        refine g_goto rfl ?_
        exact g_loc (lsub_cons rfl (lsub_cons rfl (lsub_cons rfl (lsub_cons rfl (lsub_cons rfl (lsub_cons rfl lsub_nil)))))) (hk14 v1 v2 (v3 + 1) v4 (v5 + 1) S0 _ _ E)
      · refine g_ifeq_f rfl h8 ?_
        refine g_aload rfl rfl ?_
        refine g_iload rfl rfl ?_
        refine g_push rfl ?_
        refine g_iload rfl rfl ?_
        refine g_iadd rfl ?_
        refine g_iload rfl rfl ?_
        obtain ⟨S2, h9, E⟩ := ob E
        refine g_inv3 (dc := 0) rfl (by omega) ty_m (Nat.le_of_ble_eq_true rfl) (fun d hd => tm_sets hd v1 (65 + v3) x1 S0 _ h9) ?_
        refine g_iinc (L2 := [(3, .inl (v3 + 1)), (6, .inl x1), (0, .inr (some (some 697))), (1, .inl v1), (2, .inl v2), (4, .inl v4), (5, .inl v5)]) rfl rfl rfl ?_
        refine g_iinc (L2 := [(5, .inl (v5 + 1)), (3, .inl (v3 + 1)), (6, .inl x1), (0, .inr (some (some 697))), (1, .inl v1), (2, .inl v2), (4, .inl v4)]) rfl rfl rfl ?_
        refine g_goto rfl ?_
        exact g_loc (lsub_cons rfl (lsub_cons rfl (lsub_cons rfl (lsub_cons rfl (lsub_cons rfl (lsub_cons rfl lsub_nil)))))) (hk14 v1 v2 (v3 + 1) v4 (v5 + 1) S2 _ _ E)
def fm_noted_14  : Nat → Int32 → Int32 → Int32 → Int32 → Int32 → Mem → Option (Int32 × Mem)
  | 0 => fun _ _ _ _ _ _ => none
  | n + 1 => fm_noted_14b  (fm_noted_14  n)
set_option maxRecDepth 20000 in
set_option maxHeartbeats 4000000 in
theorem tm_noted_14 {scr : Nat × (Nat → Int32)} {d : Nat} (hd : 1 ≤ d)  : ∀ (n : Nat) (v1 : Int32) (v2 : Int32) (v3 : Int32) (v4 : Int32) (v5 : Int32) (S0 : Mem), ∀ (rv : Int32) (SR : Mem), fm_noted_14  n v1 v2 v3 v4 v5 S0 = some (rv, SR) → XG scr d 154 14 [(0, .inr (some (some 697))), (1, .inl v1), (2, .inl v2), (3, .inl v3), (4, .inl v4), (5, .inl v5)] [] S0 (some (.inl rv)) SR
  | 0, v1, v2, v3, v4, v5, S0, rv, SR, E => nn E
  | n + 1, v1, v2, v3, v4, v5, S0, rv, SR, E => tm_noted_14b hd  (tm_noted_14 hd  n) v1 v2 v3 v4 v5 S0  rv SR E
def fm_noted (v1 : Int32) (v2 : Int32) (S0 : Mem) : Option (Int32 × Mem) := (fm_at v1 64 S0).bind fun x1 => fm_noted_14 LF v1 v2 0 x1 0 S0
set_option maxRecDepth 20000 in
set_option maxHeartbeats 4000000 in
theorem tm_noted {scr : Nat × (Nat → Int32)} {d : Nat} (hd : 1 ≤ d) (v1 : Int32) (v2 : Int32) (S0 : Mem)  (rv : Int32) (SR : Mem) (E : fm_noted  v1 v2 S0 = some (rv, SR)) : XG scr d 154 0 [(0, .inr (some (some 697))), (1, .inl v1), (2, .inl v2)] [] S0 (some (.inl rv)) SR := by
  unfold fm_noted at E
  refine g_push rfl ?_
  refine g_istore (L2 := [(3, .inl 0), (0, .inr (some (some 697))), (1, .inl v1), (2, .inl v2)]) rfl rfl ?_
  refine g_aload rfl rfl ?_
  refine g_iload rfl rfl ?_
  refine g_push rfl ?_
  obtain ⟨x1, h1, E⟩ := ob E
  refine g_inv2 (dc := 0) rfl (by omega) ty_m (Nat.le_of_ble_eq_true rfl) (fun d hd => tm_at hd v1 64 S0 _ h1) ?_
  refine g_istore (L2 := [(4, .inl x1), (3, .inl 0), (0, .inr (some (some 697))), (1, .inl v1), (2, .inl v2)]) rfl rfl ?_
  refine g_push rfl ?_
  refine g_istore (L2 := [(5, .inl 0), (4, .inl x1), (3, .inl 0), (0, .inr (some (some 697))), (1, .inl v1), (2, .inl v2)]) rfl rfl ?_
  exact g_loc (lsub_cons rfl (lsub_cons rfl (lsub_cons rfl (lsub_cons rfl (lsub_cons rfl (lsub_cons rfl lsub_nil)))))) (tm_noted_14 hd LF v1 v2 0 x1 0 S0 _ _ E)
def fm_isOverBudget (v1 : Int32) (S0 : Mem) : Option (Int32 × Mem) := bd (fm_noted v1 1 S0) fun x1 S1 => (ald S1 698 925).bind fun x2 => (fm_sets v1 (65 + x1) x2 S1).bind fun S2 => (fm_sets v1 64 (x1 + 1) S2).bind fun S3 => (fm_at v1 3 S3).bind fun x3 => if (x1 + 1) ≤ x3 then (some (0, S3)) else (some (1, S3))
set_option maxRecDepth 20000 in
set_option maxHeartbeats 4000000 in
theorem tm_isOverBudget {scr : Nat × (Nat → Int32)} {d : Nat} (hd : 2 ≤ d) (v1 : Int32) (S0 : Mem)  (rv : Int32) (SR : Mem) (E : fm_isOverBudget  v1 S0 = some (rv, SR)) : XG scr d 144 0 [(0, .inr (some (some 697))), (1, .inl v1)] [] S0 (some (.inl rv)) SR := by
  unfold fm_isOverBudget at E
  refine g_aload rfl rfl ?_
  refine g_iload rfl rfl ?_
  refine g_push rfl ?_
  obtain ⟨x1, S1, h1, E⟩ := ob2 E
  refine g_inv2 (dc := 1) rfl (by omega) ty_m (Nat.le_of_ble_eq_true rfl) (fun d hd => tm_noted hd v1 1 S0 _ _ h1) ?_
  refine g_istore (L2 := [(2, .inl x1), (0, .inr (some (some 697))), (1, .inl v1)]) rfl rfl ?_
  refine g_aload rfl rfl ?_
  refine g_iload rfl rfl ?_
  refine g_push rfl ?_
  refine g_iload rfl rfl ?_
  refine g_iadd rfl ?_
  refine g_aload rfl rfl ?_
  refine g_getR rfl ty_m (fR_8_0 ty_m) ?_
  refine g_push rfl ?_
  obtain ⟨x2, h2, E⟩ := ob E
  refine g_iald rfl fT_8_0 h2 ?_
  obtain ⟨S2, h3, E⟩ := ob E
  refine g_inv3 (dc := 0) rfl (by omega) ty_m (Nat.le_of_ble_eq_true rfl) (fun d hd => tm_sets hd v1 (65 + x1) x2 S1 _ h3) ?_
  refine g_aload rfl rfl ?_
  refine g_iload rfl rfl ?_
  refine g_push rfl ?_
  refine g_iload rfl rfl ?_
  refine g_push rfl ?_
  refine g_iadd rfl ?_
  obtain ⟨S3, h4, E⟩ := ob E
  refine g_inv3 (dc := 0) rfl (by omega) ty_m (Nat.le_of_ble_eq_true rfl) (fun d hd => tm_sets hd v1 64 (x1 + 1) S2 _ h4) ?_
  refine g_iload rfl rfl ?_
  refine g_push rfl ?_
  refine g_iadd rfl ?_
  refine g_aload rfl rfl ?_
  refine g_iload rfl rfl ?_
  refine g_push rfl ?_
  obtain ⟨x3, h5, E⟩ := ob E
  refine g_inv2 (dc := 0) rfl (by omega) ty_m (Nat.le_of_ble_eq_true rfl) (fun d hd => tm_at hd v1 3 S3 _ h5) ?_
  rcases xif E with ⟨h6, E⟩ | ⟨h6, E⟩
  · refine g_icle_t rfl h6 ?_
    refine g_push rfl ?_
    obtain ⟨rfl, rfl⟩ := so2 E
    exact g_zret rfl b00
  · refine g_icle_f rfl h6 ?_
    refine g_push rfl ?_
    refine g_goto rfl ?_
    obtain ⟨rfl, rfl⟩ := so2 E
    exact g_zret rfl b01
def fm_isLiveChild (v1 : Int32) (v2 : Int32) (S0 : Mem) : Option Int32 := (fm_at v1 0 S0).bind fun x1 => if x1 = v2 then ((fm_isLive v1 S0).bind fun x2 => if x2 = 0 then (some 0) else (some 1)) else (some 0)
set_option maxRecDepth 20000 in
set_option maxHeartbeats 4000000 in
theorem tm_isLiveChild {scr : Nat × (Nat → Int32)} {d : Nat} (hd : 2 ≤ d) (v1 : Int32) (v2 : Int32) (S0 : Mem)  (rv : Int32) (E : fm_isLiveChild  v1 v2 S0 = some rv) : XG scr d 141 0 [(0, .inr (some (some 697))), (1, .inl v1), (2, .inl v2)] [] S0 (some (.inl rv)) S0 := by
  unfold fm_isLiveChild at E
  refine g_aload rfl rfl ?_
  refine g_iload rfl rfl ?_
  refine g_push rfl ?_
  obtain ⟨x1, h1, E⟩ := ob E
  refine g_inv2 (dc := 0) rfl (by omega) ty_m (Nat.le_of_ble_eq_true rfl) (fun d hd => tm_at hd v1 0 S0 _ h1) ?_
  refine g_iload rfl rfl ?_
  rcases xif E with ⟨h2, E⟩ | ⟨h2, E⟩
  · refine g_icne_t rfl h2 ?_
    refine g_aload rfl rfl ?_
    refine g_iload rfl rfl ?_
    obtain ⟨x2, h3, E⟩ := ob E
    refine g_inv1 (dc := 1) rfl (by omega) ty_m (Nat.le_of_ble_eq_true rfl) (fun d hd => tm_isLive hd v1 S0 _ h3) ?_
    rcases xif E with ⟨h4, E⟩ | ⟨h4, E⟩
    · refine g_ifeq_t rfl h4 ?_
      refine g_push rfl ?_
      obtain rfl := so1 E
      exact g_zret rfl b00
    · refine g_ifeq_f rfl h4 ?_
      refine g_push rfl ?_
      refine g_goto rfl ?_
      obtain rfl := so1 E
      exact g_zret rfl b01
  · refine g_icne_f rfl h2 ?_
    refine g_push rfl ?_
    obtain rfl := so1 E
    exact g_zret rfl b00
def fm_forgets_51b (k20 : Int32 → Int32 → Int32 → Mem → Option Mem) (k51 : Int32 → Int32 → Int32 → Int32 → Mem → Option Mem) (v1 : Int32) (v2 : Int32) (v3 : Int32) (v4 : Int32) (S0 : Mem) : Option Mem := if 3 ≤ v4 then (k20 v1 (v2 + 1) (v3 + 1) S0) else ((ald S0 698 ((932 + (3 * v3)) + v4)).bind fun x1 => (ast S0 698 ((932 + (3 * v2)) + v4) x1).bind fun S1 => k51 v1 v2 v3 (v4 + 1) S1)
set_option maxRecDepth 20000 in
set_option maxHeartbeats 4000000 in
theorem tm_forgets_51b {scr : Nat × (Nat → Int32)} {d : Nat} (hd : 1 ≤ d) {k20 : Int32 → Int32 → Int32 → Mem → Option Mem} (hk20 : ∀ (v1 : Int32) (v2 : Int32) (v3 : Int32) (S0 : Mem), ∀ (SR : Mem), k20 v1 v2 v3 S0 = some SR → XG scr d 129 20 [(0, .inr (some (some 697))), (1, .inl v1), (2, .inl v2), (3, .inl v3)] [] S0 none SR) {k51 : Int32 → Int32 → Int32 → Int32 → Mem → Option Mem} (hk51 : ∀ (v1 : Int32) (v2 : Int32) (v3 : Int32) (v4 : Int32) (S0 : Mem), ∀ (SR : Mem), k51 v1 v2 v3 v4 S0 = some SR → XG scr d 129 51 [(0, .inr (some (some 697))), (1, .inl v1), (2, .inl v2), (3, .inl v3), (4, .inl v4)] [] S0 none SR) (v1 : Int32) (v2 : Int32) (v3 : Int32) (v4 : Int32) (S0 : Mem)  (SR : Mem) (E : fm_forgets_51b k20 k51 v1 v2 v3 v4 S0 = some SR) : XG scr d 129 51 [(0, .inr (some (some 697))), (1, .inl v1), (2, .inl v2), (3, .inl v3), (4, .inl v4)] [] S0 none SR := by
  unfold fm_forgets_51b at E
  refine g_iload rfl rfl ?_
  refine g_push rfl ?_
  rcases xif E with ⟨h1, E⟩ | ⟨h1, E⟩
  · refine g_icge_t rfl h1 ?_
    refine g_iinc (L2 := [(2, .inl (v2 + 1)), (0, .inr (some (some 697))), (1, .inl v1), (3, .inl v3), (4, .inl v4)]) rfl rfl rfl ?_
    refine g_iinc (L2 := [(3, .inl (v3 + 1)), (2, .inl (v2 + 1)), (0, .inr (some (some 697))), (1, .inl v1), (4, .inl v4)]) rfl rfl rfl ?_
    refine g_goto rfl ?_
    exact g_loc (lsub_cons rfl (lsub_cons rfl (lsub_cons rfl (lsub_cons rfl lsub_nil)))) (hk20 v1 (v2 + 1) (v3 + 1) S0 _ E)
  · refine g_icge_f rfl h1 ?_
    refine g_aload rfl rfl ?_
    refine g_getR rfl ty_m (fR_8_0 ty_m) ?_
    refine g_push rfl ?_
    refine g_push rfl ?_
    refine g_iload rfl rfl ?_
    refine g_imul rfl ?_
    refine g_iadd rfl ?_
    refine g_iload rfl rfl ?_
    refine g_iadd rfl ?_
    refine g_aload rfl rfl ?_
    refine g_getR rfl ty_m (fR_8_0 ty_m) ?_
    refine g_push rfl ?_
    refine g_push rfl ?_
    refine g_iload rfl rfl ?_
    refine g_imul rfl ?_
    refine g_iadd rfl ?_
    refine g_iload rfl rfl ?_
    refine g_iadd rfl ?_
    obtain ⟨x1, h2, E⟩ := ob E
    refine g_iald rfl fT_8_0 h2 ?_
    obtain ⟨S1, h3, E⟩ := ob E
    refine g_iast rfl fT_8_0 h3 ?_
    refine g_iinc (L2 := [(4, .inl (v4 + 1)), (0, .inr (some (some 697))), (1, .inl v1), (2, .inl v2), (3, .inl v3)]) rfl rfl rfl ?_
    refine g_goto rfl ?_
    exact g_loc (lsub_cons rfl (lsub_cons rfl (lsub_cons rfl (lsub_cons rfl (lsub_cons rfl lsub_nil))))) (hk51 v1 v2 v3 (v4 + 1) S1 _ E)
def fm_forgets_51 (k20 : Int32 → Int32 → Int32 → Mem → Option Mem) : Nat → Int32 → Int32 → Int32 → Int32 → Mem → Option Mem
  | 0 => fun _ _ _ _ _ => none
  | n + 1 => fm_forgets_51b  k20 (fm_forgets_51 k20 n)
set_option maxRecDepth 20000 in
set_option maxHeartbeats 4000000 in
theorem tm_forgets_51 {scr : Nat × (Nat → Int32)} {d : Nat} (hd : 1 ≤ d) {k20 : Int32 → Int32 → Int32 → Mem → Option Mem} (hk20 : ∀ (v1 : Int32) (v2 : Int32) (v3 : Int32) (S0 : Mem), ∀ (SR : Mem), k20 v1 v2 v3 S0 = some SR → XG scr d 129 20 [(0, .inr (some (some 697))), (1, .inl v1), (2, .inl v2), (3, .inl v3)] [] S0 none SR) : ∀ (n : Nat) (v1 : Int32) (v2 : Int32) (v3 : Int32) (v4 : Int32) (S0 : Mem), ∀ (SR : Mem), fm_forgets_51 k20 n v1 v2 v3 v4 S0 = some SR → XG scr d 129 51 [(0, .inr (some (some 697))), (1, .inl v1), (2, .inl v2), (3, .inl v3), (4, .inl v4)] [] S0 none SR
  | 0, v1, v2, v3, v4, S0, SR, E => nn E
  | n + 1, v1, v2, v3, v4, S0, SR, E => tm_forgets_51b hd  hk20 (tm_forgets_51 hd hk20 n) v1 v2 v3 v4 S0  SR E
def fm_forgets_20b (k20 : Int32 → Int32 → Int32 → Mem → Option Mem) (v1 : Int32) (v2 : Int32) (v3 : Int32) (S0 : Mem) : Option Mem := (ald S0 698 931).bind fun x1 => if x1 ≤ v3 then ((ast S0 698 931 v2).bind fun S1 => some S1) else ((ald S0 698 (932 + (3 * v3))).bind fun x2 => if x2 = v1 then (k20 v1 v2 (v3 + 1) S0) else (fm_forgets_51 k20 LF v1 v2 v3 0 S0))
set_option maxRecDepth 20000 in
set_option maxHeartbeats 4000000 in
theorem tm_forgets_20b {scr : Nat × (Nat → Int32)} {d : Nat} (hd : 1 ≤ d) {k20 : Int32 → Int32 → Int32 → Mem → Option Mem} (hk20 : ∀ (v1 : Int32) (v2 : Int32) (v3 : Int32) (S0 : Mem), ∀ (SR : Mem), k20 v1 v2 v3 S0 = some SR → XG scr d 129 20 [(0, .inr (some (some 697))), (1, .inl v1), (2, .inl v2), (3, .inl v3)] [] S0 none SR) (v1 : Int32) (v2 : Int32) (v3 : Int32) (S0 : Mem)  (SR : Mem) (E : fm_forgets_20b k20 v1 v2 v3 S0 = some SR) : XG scr d 129 20 [(0, .inr (some (some 697))), (1, .inl v1), (2, .inl v2), (3, .inl v3)] [] S0 none SR := by
  unfold fm_forgets_20b at E
  refine g_iload rfl rfl ?_
  refine g_aload rfl rfl ?_
  refine g_getR rfl ty_m (fR_8_0 ty_m) ?_
  refine g_push rfl ?_
  obtain ⟨x1, h1, E⟩ := ob E
  refine g_iald rfl fT_8_0 h1 ?_
  rcases xif E with ⟨h2, E⟩ | ⟨h2, E⟩
  · refine g_icge_t rfl h2 ?_
    refine g_aload rfl rfl ?_
    refine g_getR rfl ty_m (fR_8_0 ty_m) ?_
    refine g_push rfl ?_
    refine g_iload rfl rfl ?_
    obtain ⟨S1, h3, E⟩ := ob E
    refine g_iast rfl fT_8_0 h3 ?_
    obtain rfl := so1 E
    exact g_ret rfl
  · refine g_icge_f rfl h2 ?_
    refine g_aload rfl rfl ?_
    refine g_getR rfl ty_m (fR_8_0 ty_m) ?_
    refine g_push rfl ?_
    refine g_push rfl ?_
    refine g_iload rfl rfl ?_
    refine g_imul rfl ?_
    refine g_iadd rfl ?_
    obtain ⟨x2, h4, E⟩ := ob E
    refine g_iald rfl fT_8_0 h4 ?_
    refine g_iload rfl rfl ?_
    rcases xif E with ⟨h5, E⟩ | ⟨h5, E⟩
    · refine g_iceq_t rfl h5 ?_
      refine g_iinc (L2 := [(3, .inl (v3 + 1)), (0, .inr (some (some 697))), (1, .inl v1), (2, .inl v2)]) rfl rfl rfl ?_
      refine g_goto rfl ?_
      exact g_loc (lsub_cons rfl (lsub_cons rfl (lsub_cons rfl (lsub_cons rfl lsub_nil)))) (hk20 v1 v2 (v3 + 1) S0 _ E)
    · refine g_iceq_f rfl h5 ?_
      refine g_push rfl ?_
      refine g_istore (L2 := [(4, .inl 0), (0, .inr (some (some 697))), (1, .inl v1), (2, .inl v2), (3, .inl v3)]) rfl rfl ?_
      exact g_loc (lsub_cons rfl (lsub_cons rfl (lsub_cons rfl (lsub_cons rfl (lsub_cons rfl lsub_nil))))) (tm_forgets_51 hd hk20 LF v1 v2 v3 0 S0 _ E)
def fm_forgets_20  : Nat → Int32 → Int32 → Int32 → Mem → Option Mem
  | 0 => fun _ _ _ _ => none
  | n + 1 => fm_forgets_20b  (fm_forgets_20  n)
set_option maxRecDepth 20000 in
set_option maxHeartbeats 4000000 in
theorem tm_forgets_20 {scr : Nat × (Nat → Int32)} {d : Nat} (hd : 1 ≤ d)  : ∀ (n : Nat) (v1 : Int32) (v2 : Int32) (v3 : Int32) (S0 : Mem), ∀ (SR : Mem), fm_forgets_20  n v1 v2 v3 S0 = some SR → XG scr d 129 20 [(0, .inr (some (some 697))), (1, .inl v1), (2, .inl v2), (3, .inl v3)] [] S0 none SR
  | 0, v1, v2, v3, S0, SR, E => nn E
  | n + 1, v1, v2, v3, S0, SR, E => tm_forgets_20b hd  (tm_forgets_20 hd  n) v1 v2 v3 S0  SR E
def fm_forgets (v1 : Int32) (S0 : Mem) : Option Mem := (fm_sets v1 7 1 S0).bind fun S1 => (fm_sets v1 64 0 S1).bind fun S2 => fm_forgets_20 LF v1 0 0 S2
set_option maxRecDepth 20000 in
set_option maxHeartbeats 4000000 in
theorem tm_forgets {scr : Nat × (Nat → Int32)} {d : Nat} (hd : 1 ≤ d) (v1 : Int32) (S0 : Mem)  (SR : Mem) (E : fm_forgets  v1 S0 = some SR) : XG scr d 129 0 [(0, .inr (some (some 697))), (1, .inl v1)] [] S0 none SR := by
  unfold fm_forgets at E
  refine g_aload rfl rfl ?_
  refine g_iload rfl rfl ?_
  refine g_push rfl ?_
  refine g_push rfl ?_
  obtain ⟨S1, h1, E⟩ := ob E
  refine g_inv3 (dc := 0) rfl (by omega) ty_m (Nat.le_of_ble_eq_true rfl) (fun d hd => tm_sets hd v1 7 1 S0 _ h1) ?_
  refine g_aload rfl rfl ?_
  refine g_iload rfl rfl ?_
  refine g_push rfl ?_
  refine g_push rfl ?_
  obtain ⟨S2, h2, E⟩ := ob E
  refine g_inv3 (dc := 0) rfl (by omega) ty_m (Nat.le_of_ble_eq_true rfl) (fun d hd => tm_sets hd v1 64 0 S1 _ h2) ?_
  refine g_push rfl ?_
  refine g_istore (L2 := [(2, .inl 0), (0, .inr (some (some 697))), (1, .inl v1)]) rfl rfl ?_
  refine g_push rfl ?_
  refine g_istore (L2 := [(3, .inl 0), (2, .inl 0), (0, .inr (some (some 697))), (1, .inl v1)]) rfl rfl ?_
  exact g_loc (lsub_cons rfl (lsub_cons rfl (lsub_cons rfl (lsub_cons rfl lsub_nil)))) (tm_forgets_20 hd LF v1 0 0 S2 _ E)
def fm_unwatches_28b (k2 : Int32 → Int32 → Mem → Option Mem) (k28 : Int32 → Int32 → Int32 → Int32 → Int32 → Mem → Option Mem) (v1 : Int32) (v2 : Int32) (v3 : Int32) (v4 : Int32) (v5 : Int32) (S0 : Mem) : Option Mem := if v4 ≤ v5 then ((fm_sets v2 51 v3 S0).bind fun S1 => k2 v1 (v2 + 1) S1) else ((fm_at v2 (52 + v5) S0).bind fun x1 => if x1 = v1 then (k28 v1 v2 v3 v4 (v5 + 1) S0) else ((fm_at v2 (52 + v5) S0).bind fun x2 => (fm_sets v2 (52 + v3) x2 S0).bind fun S2 => k28 v1 v2 (v3 + 1) v4 (v5 + 1) S2))
set_option maxRecDepth 20000 in
set_option maxHeartbeats 4000000 in
theorem tm_unwatches_28b {scr : Nat × (Nat → Int32)} {d : Nat} (hd : 1 ≤ d) {k2 : Int32 → Int32 → Mem → Option Mem} (hk2 : ∀ (v1 : Int32) (v2 : Int32) (S0 : Mem), ∀ (SR : Mem), k2 v1 v2 S0 = some SR → XG scr d 185 2 [(0, .inr (some (some 697))), (1, .inl v1), (2, .inl v2)] [] S0 none SR) {k28 : Int32 → Int32 → Int32 → Int32 → Int32 → Mem → Option Mem} (hk28 : ∀ (v1 : Int32) (v2 : Int32) (v3 : Int32) (v4 : Int32) (v5 : Int32) (S0 : Mem), ∀ (SR : Mem), k28 v1 v2 v3 v4 v5 S0 = some SR → XG scr d 185 28 [(0, .inr (some (some 697))), (1, .inl v1), (2, .inl v2), (3, .inl v3), (4, .inl v4), (5, .inl v5)] [] S0 none SR) (v1 : Int32) (v2 : Int32) (v3 : Int32) (v4 : Int32) (v5 : Int32) (S0 : Mem)  (SR : Mem) (E : fm_unwatches_28b k2 k28 v1 v2 v3 v4 v5 S0 = some SR) : XG scr d 185 28 [(0, .inr (some (some 697))), (1, .inl v1), (2, .inl v2), (3, .inl v3), (4, .inl v4), (5, .inl v5)] [] S0 none SR := by
  unfold fm_unwatches_28b at E
  refine g_iload rfl rfl ?_
  refine g_iload rfl rfl ?_
  rcases xif E with ⟨h1, E⟩ | ⟨h1, E⟩
  · refine g_icge_t rfl h1 ?_
    refine g_aload rfl rfl ?_
    refine g_iload rfl rfl ?_
    refine g_push rfl ?_
    refine g_iload rfl rfl ?_
    obtain ⟨S1, h2, E⟩ := ob E
    refine g_inv3 (dc := 0) rfl (by omega) ty_m (Nat.le_of_ble_eq_true rfl) (fun d hd => tm_sets hd v2 51 v3 S0 _ h2) ?_
    refine g_iinc (L2 := [(2, .inl (v2 + 1)), (0, .inr (some (some 697))), (1, .inl v1), (3, .inl v3), (4, .inl v4), (5, .inl v5)]) rfl rfl rfl ?_
    refine g_goto rfl ?_
    exact g_loc (lsub_cons rfl (lsub_cons rfl (lsub_cons rfl lsub_nil))) (hk2 v1 (v2 + 1) S1 _ E)
  · refine g_icge_f rfl h1 ?_
    refine g_aload rfl rfl ?_
    refine g_iload rfl rfl ?_
    refine g_push rfl ?_
    refine g_iload rfl rfl ?_
    refine g_iadd rfl ?_
    obtain ⟨x1, h3, E⟩ := ob E
    refine g_inv2 (dc := 0) rfl (by omega) ty_m (Nat.le_of_ble_eq_true rfl) (fun d hd => tm_at hd v2 (52 + v5) S0 _ h3) ?_
    refine g_iload rfl rfl ?_
    rcases xif E with ⟨h4, E⟩ | ⟨h4, E⟩
    · refine g_iceq_t rfl h4 ?_
      refine g_iinc (L2 := [(5, .inl (v5 + 1)), (0, .inr (some (some 697))), (1, .inl v1), (2, .inl v2), (3, .inl v3), (4, .inl v4)]) rfl rfl rfl ?_
      refine g_goto rfl ?_
      exact g_loc (lsub_cons rfl (lsub_cons rfl (lsub_cons rfl (lsub_cons rfl (lsub_cons rfl (lsub_cons rfl lsub_nil)))))) (hk28 v1 v2 v3 v4 (v5 + 1) S0 _ E)
    · refine g_iceq_f rfl h4 ?_
      refine g_aload rfl rfl ?_
      refine g_iload rfl rfl ?_
      refine g_push rfl ?_
      refine g_iload rfl rfl ?_
      refine g_iadd rfl ?_
      refine g_aload rfl rfl ?_
      refine g_iload rfl rfl ?_
      refine g_push rfl ?_
      refine g_iload rfl rfl ?_
      refine g_iadd rfl ?_
      obtain ⟨x2, h5, E⟩ := ob E
      refine g_inv2 (dc := 0) rfl (by omega) ty_m (Nat.le_of_ble_eq_true rfl) (fun d hd => tm_at hd v2 (52 + v5) S0 _ h5) ?_
      obtain ⟨S2, h6, E⟩ := ob E
      refine g_inv3 (dc := 0) rfl (by omega) ty_m (Nat.le_of_ble_eq_true rfl) (fun d hd => tm_sets hd v2 (52 + v3) x2 S0 _ h6) ?_
      refine g_iinc (L2 := [(3, .inl (v3 + 1)), (0, .inr (some (some 697))), (1, .inl v1), (2, .inl v2), (4, .inl v4), (5, .inl v5)]) rfl rfl rfl ?_
      refine g_iinc (L2 := [(5, .inl (v5 + 1)), (3, .inl (v3 + 1)), (0, .inr (some (some 697))), (1, .inl v1), (2, .inl v2), (4, .inl v4)]) rfl rfl rfl ?_
      refine g_goto rfl ?_
      exact g_loc (lsub_cons rfl (lsub_cons rfl (lsub_cons rfl (lsub_cons rfl (lsub_cons rfl (lsub_cons rfl lsub_nil)))))) (hk28 v1 v2 (v3 + 1) v4 (v5 + 1) S2 _ E)
def fm_unwatches_28 (k2 : Int32 → Int32 → Mem → Option Mem) : Nat → Int32 → Int32 → Int32 → Int32 → Int32 → Mem → Option Mem
  | 0 => fun _ _ _ _ _ _ => none
  | n + 1 => fm_unwatches_28b  k2 (fm_unwatches_28 k2 n)
set_option maxRecDepth 20000 in
set_option maxHeartbeats 4000000 in
theorem tm_unwatches_28 {scr : Nat × (Nat → Int32)} {d : Nat} (hd : 1 ≤ d) {k2 : Int32 → Int32 → Mem → Option Mem} (hk2 : ∀ (v1 : Int32) (v2 : Int32) (S0 : Mem), ∀ (SR : Mem), k2 v1 v2 S0 = some SR → XG scr d 185 2 [(0, .inr (some (some 697))), (1, .inl v1), (2, .inl v2)] [] S0 none SR) : ∀ (n : Nat) (v1 : Int32) (v2 : Int32) (v3 : Int32) (v4 : Int32) (v5 : Int32) (S0 : Mem), ∀ (SR : Mem), fm_unwatches_28 k2 n v1 v2 v3 v4 v5 S0 = some SR → XG scr d 185 28 [(0, .inr (some (some 697))), (1, .inl v1), (2, .inl v2), (3, .inl v3), (4, .inl v4), (5, .inl v5)] [] S0 none SR
  | 0, v1, v2, v3, v4, v5, S0, SR, E => nn E
  | n + 1, v1, v2, v3, v4, v5, S0, SR, E => tm_unwatches_28b hd  hk2 (tm_unwatches_28 hd hk2 n) v1 v2 v3 v4 v5 S0  SR E
def fm_unwatches_2b (k2 : Int32 → Int32 → Mem → Option Mem) (v1 : Int32) (v2 : Int32) (S0 : Mem) : Option Mem := (ald S0 698 924).bind fun x1 => if x1 ≤ v2 then (some S0) else ((fm_at v2 51 S0).bind fun x2 => fm_unwatches_28 k2 LF v1 v2 0 x2 0 S0)
set_option maxRecDepth 20000 in
set_option maxHeartbeats 4000000 in
theorem tm_unwatches_2b {scr : Nat × (Nat → Int32)} {d : Nat} (hd : 1 ≤ d) {k2 : Int32 → Int32 → Mem → Option Mem} (hk2 : ∀ (v1 : Int32) (v2 : Int32) (S0 : Mem), ∀ (SR : Mem), k2 v1 v2 S0 = some SR → XG scr d 185 2 [(0, .inr (some (some 697))), (1, .inl v1), (2, .inl v2)] [] S0 none SR) (v1 : Int32) (v2 : Int32) (S0 : Mem)  (SR : Mem) (E : fm_unwatches_2b k2 v1 v2 S0 = some SR) : XG scr d 185 2 [(0, .inr (some (some 697))), (1, .inl v1), (2, .inl v2)] [] S0 none SR := by
  unfold fm_unwatches_2b at E
  refine g_iload rfl rfl ?_
  refine g_aload rfl rfl ?_
  refine g_getR rfl ty_m (fR_8_0 ty_m) ?_
  refine g_push rfl ?_
  obtain ⟨x1, h1, E⟩ := ob E
  refine g_iald rfl fT_8_0 h1 ?_
  rcases xif E with ⟨h2, E⟩ | ⟨h2, E⟩
  · refine g_icge_t rfl h2 ?_
    obtain rfl := so1 E
    exact g_ret rfl
  · refine g_icge_f rfl h2 ?_
    refine g_push rfl ?_
    refine g_istore (L2 := [(3, .inl 0), (0, .inr (some (some 697))), (1, .inl v1), (2, .inl v2)]) rfl rfl ?_
    refine g_aload rfl rfl ?_
    refine g_iload rfl rfl ?_
    refine g_push rfl ?_
    obtain ⟨x2, h3, E⟩ := ob E
    refine g_inv2 (dc := 0) rfl (by omega) ty_m (Nat.le_of_ble_eq_true rfl) (fun d hd => tm_at hd v2 51 S0 _ h3) ?_
    refine g_istore (L2 := [(4, .inl x2), (3, .inl 0), (0, .inr (some (some 697))), (1, .inl v1), (2, .inl v2)]) rfl rfl ?_
    refine g_push rfl ?_
    refine g_istore (L2 := [(5, .inl 0), (4, .inl x2), (3, .inl 0), (0, .inr (some (some 697))), (1, .inl v1), (2, .inl v2)]) rfl rfl ?_
    exact g_loc (lsub_cons rfl (lsub_cons rfl (lsub_cons rfl (lsub_cons rfl (lsub_cons rfl (lsub_cons rfl lsub_nil)))))) (tm_unwatches_28 hd hk2 LF v1 v2 0 x2 0 S0 _ E)
def fm_unwatches_2  : Nat → Int32 → Int32 → Mem → Option Mem
  | 0 => fun _ _ _ => none
  | n + 1 => fm_unwatches_2b  (fm_unwatches_2  n)
set_option maxRecDepth 20000 in
set_option maxHeartbeats 4000000 in
theorem tm_unwatches_2 {scr : Nat × (Nat → Int32)} {d : Nat} (hd : 1 ≤ d)  : ∀ (n : Nat) (v1 : Int32) (v2 : Int32) (S0 : Mem), ∀ (SR : Mem), fm_unwatches_2  n v1 v2 S0 = some SR → XG scr d 185 2 [(0, .inr (some (some 697))), (1, .inl v1), (2, .inl v2)] [] S0 none SR
  | 0, v1, v2, S0, SR, E => nn E
  | n + 1, v1, v2, S0, SR, E => tm_unwatches_2b hd  (tm_unwatches_2 hd  n) v1 v2 S0  SR E
def fm_unwatches (v1 : Int32) (S0 : Mem) : Option Mem := fm_unwatches_2 LF v1 0 S0
set_option maxRecDepth 20000 in
set_option maxHeartbeats 4000000 in
theorem tm_unwatches {scr : Nat × (Nat → Int32)} {d : Nat} (hd : 1 ≤ d) (v1 : Int32) (S0 : Mem)  (SR : Mem) (E : fm_unwatches  v1 S0 = some SR) : XG scr d 185 0 [(0, .inr (some (some 697))), (1, .inl v1)] [] S0 none SR := by
  unfold fm_unwatches at E
  refine g_push rfl ?_
  refine g_istore (L2 := [(2, .inl 0), (0, .inr (some (some 697))), (1, .inl v1)]) rfl rfl ?_
  exact g_loc (lsub_cons rfl (lsub_cons rfl (lsub_cons rfl lsub_nil))) (tm_unwatches_2 hd LF v1 0 S0 _ E)
def fm_sends (v1 : Int32) (v2 : Int32) (v3 : Int32) (S0 : Mem) : Option (Int32 × Mem) := (fm_at v1 13 S0).bind fun x1 => (fm_isLive v1 S0).bind fun x2 => if x2 = 0 then ((ald S0 698 927).bind fun x3 => (ast S0 698 927 (x3 + 1)).bind fun S1 => some (0, S1)) else (if x1 = 12 then ((ald S0 698 927).bind fun x4 => (ast S0 698 927 (x4 + 1)).bind fun S2 => some (0, S2)) else ((fm_sets v1 (14 + (2 * x1)) v2 S0).bind fun S3 => (fm_sets v1 ((14 + (2 * x1)) + 1) v3 S3).bind fun S4 => (fm_sets v1 13 (x1 + 1) S4).bind fun S5 => some (1, S5)))
set_option maxRecDepth 20000 in
set_option maxHeartbeats 4000000 in
theorem tm_sends {scr : Nat × (Nat → Int32)} {d : Nat} (hd : 2 ≤ d) (v1 : Int32) (v2 : Int32) (v3 : Int32) (S0 : Mem)  (rv : Int32) (SR : Mem) (E : fm_sends  v1 v2 v3 S0 = some (rv, SR)) : XG scr d 171 0 [(0, .inr (some (some 697))), (1, .inl v1), (2, .inl v2), (3, .inl v3)] [] S0 (some (.inl rv)) SR := by
  unfold fm_sends at E
  refine g_aload rfl rfl ?_
  refine g_iload rfl rfl ?_
  refine g_push rfl ?_
  obtain ⟨x1, h1, E⟩ := ob E
  refine g_inv2 (dc := 0) rfl (by omega) ty_m (Nat.le_of_ble_eq_true rfl) (fun d hd => tm_at hd v1 13 S0 _ h1) ?_
  refine g_istore (L2 := [(4, .inl x1), (0, .inr (some (some 697))), (1, .inl v1), (2, .inl v2), (3, .inl v3)]) rfl rfl ?_
  refine g_aload rfl rfl ?_
  refine g_iload rfl rfl ?_
  obtain ⟨x2, h2, E⟩ := ob E
  refine g_inv1 (dc := 1) rfl (by omega) ty_m (Nat.le_of_ble_eq_true rfl) (fun d hd => tm_isLive hd v1 S0 _ h2) ?_
  rcases xif E with ⟨h3, E⟩ | ⟨h3, E⟩
  · refine g_ifeq_t rfl h3 ?_
    refine g_aload rfl rfl ?_
    refine g_getR rfl ty_m (fR_8_0 ty_m) ?_
    refine g_push rfl ?_
    refine g_dup2 rfl ?_
    obtain ⟨x3, h4, E⟩ := ob E
    refine g_iald rfl fT_8_0 h4 ?_
    refine g_push rfl ?_
    refine g_iadd rfl ?_
    obtain ⟨S1, h5, E⟩ := ob E
    refine g_iast rfl fT_8_0 h5 ?_
    refine g_push rfl ?_
    obtain ⟨rfl, rfl⟩ := so2 E
    exact g_zret rfl b00
  · refine g_ifeq_f rfl h3 ?_
    refine g_iload rfl rfl ?_
    refine g_push rfl ?_
    rcases xif E with ⟨h6, E⟩ | ⟨h6, E⟩
    · refine g_icne_t rfl h6 ?_
      refine g_aload rfl rfl ?_
      refine g_getR rfl ty_m (fR_8_0 ty_m) ?_
      refine g_push rfl ?_
      refine g_dup2 rfl ?_
      obtain ⟨x4, h7, E⟩ := ob E
      refine g_iald rfl fT_8_0 h7 ?_
      refine g_push rfl ?_
      refine g_iadd rfl ?_
      obtain ⟨S2, h8, E⟩ := ob E
      refine g_iast rfl fT_8_0 h8 ?_
      refine g_push rfl ?_
      obtain ⟨rfl, rfl⟩ := so2 E
      exact g_zret rfl b00
    · refine g_icne_f rfl h6 ?_
      refine g_aload rfl rfl ?_
      refine g_iload rfl rfl ?_
      refine g_push rfl ?_
      refine g_push rfl ?_
      refine g_iload rfl rfl ?_
      refine g_imul rfl ?_
      refine g_iadd rfl ?_
      refine g_iload rfl rfl ?_
      obtain ⟨S3, h9, E⟩ := ob E
      refine g_inv3 (dc := 0) rfl (by omega) ty_m (Nat.le_of_ble_eq_true rfl) (fun d hd => tm_sets hd v1 (14 + (2 * x1)) v2 S0 _ h9) ?_
      refine g_aload rfl rfl ?_
      refine g_iload rfl rfl ?_
      refine g_push rfl ?_
      refine g_push rfl ?_
      refine g_iload rfl rfl ?_
      refine g_imul rfl ?_
      refine g_iadd rfl ?_
      refine g_push rfl ?_
      refine g_iadd rfl ?_
      refine g_iload rfl rfl ?_
      obtain ⟨S4, h10, E⟩ := ob E
      refine g_inv3 (dc := 0) rfl (by omega) ty_m (Nat.le_of_ble_eq_true rfl) (fun d hd => tm_sets hd v1 ((14 + (2 * x1)) + 1) v3 S3 _ h10) ?_
      refine g_aload rfl rfl ?_
      refine g_iload rfl rfl ?_
      refine g_push rfl ?_
      refine g_iload rfl rfl ?_
      refine g_push rfl ?_
      refine g_iadd rfl ?_
      obtain ⟨S5, h11, E⟩ := ob E
      refine g_inv3 (dc := 0) rfl (by omega) ty_m (Nat.le_of_ble_eq_true rfl) (fun d hd => tm_sets hd v1 13 (x1 + 1) S4 _ h11) ?_
      refine g_push rfl ?_
      obtain ⟨rfl, rfl⟩ := so2 E
      exact g_zret rfl b01
def fm_stopsChildren_11b (kS : Int32 → Mem → Option Mem) (k11 : Int32 → Int32 → Mem → Option Mem) (v1 : Int32) (v2 : Int32) (S0 : Mem) : Option Mem := if v2 ≤ v1 then (some S0) else ((fm_isLiveChild v2 v1 S0).bind fun x1 => if x1 = 0 then (k11 v1 (v2 + (-1)) S0) else ((kS v2 S0).bind fun S1 => k11 v1 (v2 + (-1)) S1))
set_option maxRecDepth 20000 in
set_option maxHeartbeats 4000000 in
theorem tm_stopsChildren_11b {scr : Nat × (Nat → Int32)} {d : Nat} {D : Nat} (hd : D + 5 + 1 ≤ d) {kS : Int32 → Mem → Option Mem} (hS : ∀ d, D + 5 ≤ d → ∀ (v1 : Int32) (S0 SR : Mem), kS v1 S0 = some SR → XG scr d 176 0 [(0, .inr (some (some 697))), (1, .inl v1)] [] S0 none SR) {k11 : Int32 → Int32 → Mem → Option Mem} (hk11 : ∀ (v1 : Int32) (v2 : Int32) (S0 : Mem), ∀ (SR : Mem), k11 v1 v2 S0 = some SR → XG scr d 177 11 [(0, .inr (some (some 697))), (1, .inl v1), (2, .inl v2)] [] S0 none SR) (v1 : Int32) (v2 : Int32) (S0 : Mem)  (SR : Mem) (E : fm_stopsChildren_11b kS k11 v1 v2 S0 = some SR) : XG scr d 177 11 [(0, .inr (some (some 697))), (1, .inl v1), (2, .inl v2)] [] S0 none SR := by
  unfold fm_stopsChildren_11b at E
  refine g_iload rfl rfl ?_
  refine g_iload rfl rfl ?_
  rcases xif E with ⟨h1, E⟩ | ⟨h1, E⟩
  · refine g_icle_t rfl h1 ?_
    obtain rfl := so1 E
    exact g_ret rfl
  · refine g_icle_f rfl h1 ?_
    refine g_aload rfl rfl ?_
    refine g_iload rfl rfl ?_
    refine g_iload rfl rfl ?_
    obtain ⟨x1, h2, E⟩ := ob E
    refine g_inv2 (dc := 2) rfl (by omega) ty_m (Nat.le_of_ble_eq_true rfl) (fun d hd => tm_isLiveChild hd v2 v1 S0 _ h2) ?_
    rcases xif E with ⟨h3, E⟩ | ⟨h3, E⟩
    · refine g_ifeq_t rfl h3 ?_
      refine g_iinc (L2 := [(2, .inl (v2 + (-1))), (0, .inr (some (some 697))), (1, .inl v1)]) rfl rfl rfl ?_
      refine g_goto rfl ?_
      exact g_loc (lsub_cons rfl (lsub_cons rfl (lsub_cons rfl lsub_nil))) (hk11 v1 (v2 + (-1)) S0 _ E)
    · refine g_ifeq_f rfl h3 ?_
      refine g_aload rfl rfl ?_
      refine g_iload rfl rfl ?_
      obtain ⟨S1, h4, E⟩ := ob E
      refine g_inv1 (dc := D + 5) rfl (by omega) ty_m (Nat.le_of_ble_eq_true rfl) (fun d hd => hS d hd v2 S0 _ h4) ?_
      refine g_iinc (L2 := [(2, .inl (v2 + (-1))), (0, .inr (some (some 697))), (1, .inl v1)]) rfl rfl rfl ?_
      refine g_goto rfl ?_
      exact g_loc (lsub_cons rfl (lsub_cons rfl (lsub_cons rfl lsub_nil))) (hk11 v1 (v2 + (-1)) S1 _ E)
def fm_stopsChildren_11 (kS : Int32 → Mem → Option Mem)  : Nat → Int32 → Int32 → Mem → Option Mem
  | 0 => fun _ _ _ => none
  | n + 1 => fm_stopsChildren_11b kS (fm_stopsChildren_11 kS n)
set_option maxRecDepth 20000 in
set_option maxHeartbeats 4000000 in
theorem tm_stopsChildren_11 {scr : Nat × (Nat → Int32)} {d : Nat} {D : Nat} (hd : D + 5 + 1 ≤ d) {kS : Int32 → Mem → Option Mem} (hS : ∀ d, D + 5 ≤ d → ∀ (v1 : Int32) (S0 SR : Mem), kS v1 S0 = some SR → XG scr d 176 0 [(0, .inr (some (some 697))), (1, .inl v1)] [] S0 none SR)  : ∀ (n : Nat) (v1 : Int32) (v2 : Int32) (S0 : Mem), ∀ (SR : Mem), fm_stopsChildren_11 kS n v1 v2 S0 = some SR → XG scr d 177 11 [(0, .inr (some (some 697))), (1, .inl v1), (2, .inl v2)] [] S0 none SR
  | 0, v1, v2, S0, SR, E => nn E
  | n + 1, v1, v2, S0, SR, E => tm_stopsChildren_11b hd hS (tm_stopsChildren_11 hd hS n) v1 v2 S0  SR E
def fm_stopsChildren (kS : Int32 → Mem → Option Mem) (v1 : Int32) (S0 : Mem) : Option Mem := (ald S0 698 924).bind fun x1 => fm_stopsChildren_11 kS LF v1 (x1 - 1) S0
set_option maxRecDepth 20000 in
set_option maxHeartbeats 4000000 in
theorem tm_stopsChildren {scr : Nat × (Nat → Int32)} {d : Nat} {D : Nat} (hd : D + 5 + 1 ≤ d) {kS : Int32 → Mem → Option Mem} (hS : ∀ d, D + 5 ≤ d → ∀ (v1 : Int32) (S0 SR : Mem), kS v1 S0 = some SR → XG scr d 176 0 [(0, .inr (some (some 697))), (1, .inl v1)] [] S0 none SR) (v1 : Int32) (S0 : Mem)  (SR : Mem) (E : fm_stopsChildren kS v1 S0 = some SR) : XG scr d 177 0 [(0, .inr (some (some 697))), (1, .inl v1)] [] S0 none SR := by
  unfold fm_stopsChildren at E
  refine g_aload rfl rfl ?_
  refine g_getR rfl ty_m (fR_8_0 ty_m) ?_
  refine g_push rfl ?_
  obtain ⟨x1, h1, E⟩ := ob E
  refine g_iald rfl fT_8_0 h1 ?_
  refine g_push rfl ?_
  refine g_isub rfl ?_
  refine g_istore (L2 := [(2, .inl (x1 - 1)), (0, .inr (some (some 697))), (1, .inl v1)]) rfl rfl ?_
  exact g_loc (lsub_cons rfl (lsub_cons rfl (lsub_cons rfl lsub_nil))) (tm_stopsChildren_11 hd hS LF v1 (x1 - 1) S0 _ E)
def fm_stops_56b (kS : Int32 → Mem → Option Mem) (k56 : Int32 → Int32 → Int32 → Mem → Option Mem) (v1 : Int32) (v2 : Int32) (v3 : Int32) (S0 : Mem) : Option Mem := if v2 ≤ v3 then (some S0) else ((fm_at v1 (52 + v3) S0).bind fun x1 => bd (fm_sends x1 ((-1)) (1000 + v1) S0) fun x2 S1 => k56 v1 v2 (v3 + 1) S1)
set_option maxRecDepth 20000 in
set_option maxHeartbeats 4000000 in
theorem tm_stops_56b {scr : Nat × (Nat → Int32)} {d : Nat} {D : Nat} (hd : D + 5 + 2 ≤ d) {kS : Int32 → Mem → Option Mem} (hS : ∀ d, D + 5 ≤ d → ∀ (v1 : Int32) (S0 SR : Mem), kS v1 S0 = some SR → XG scr d 176 0 [(0, .inr (some (some 697))), (1, .inl v1)] [] S0 none SR) {k56 : Int32 → Int32 → Int32 → Mem → Option Mem} (hk56 : ∀ (v1 : Int32) (v2 : Int32) (v3 : Int32) (S0 : Mem), ∀ (SR : Mem), k56 v1 v2 v3 S0 = some SR → XG scr d 176 56 [(0, .inr (some (some 697))), (1, .inl v1), (2, .inl v2), (3, .inl v3)] [] S0 none SR) (v1 : Int32) (v2 : Int32) (v3 : Int32) (S0 : Mem)  (SR : Mem) (E : fm_stops_56b kS k56 v1 v2 v3 S0 = some SR) : XG scr d 176 56 [(0, .inr (some (some 697))), (1, .inl v1), (2, .inl v2), (3, .inl v3)] [] S0 none SR := by
  unfold fm_stops_56b at E
  refine g_iload rfl rfl ?_
  refine g_iload rfl rfl ?_
  rcases xif E with ⟨h1, E⟩ | ⟨h1, E⟩
  · refine g_icge_t rfl h1 ?_
    obtain rfl := so1 E
    exact g_ret rfl
  · refine g_icge_f rfl h1 ?_
    refine g_aload rfl rfl ?_
    refine g_aload rfl rfl ?_
    refine g_iload rfl rfl ?_
    refine g_push rfl ?_
    refine g_iload rfl rfl ?_
    refine g_iadd rfl ?_
    obtain ⟨x1, h2, E⟩ := ob E
    refine g_inv2 (dc := 0) rfl (by omega) ty_m (Nat.le_of_ble_eq_true rfl) (fun d hd => tm_at hd v1 (52 + v3) S0 _ h2) ?_
    refine g_push rfl ?_
    refine g_push rfl ?_
    refine g_iload rfl rfl ?_
    refine g_iadd rfl ?_
    obtain ⟨x2, S1, h3, E⟩ := ob2 E
    refine g_inv3 (dc := 2) rfl (by omega) ty_m (Nat.le_of_ble_eq_true rfl) (fun d hd => tm_sends hd x1 ((-1)) (1000 + v1) S0 _ _ h3) ?_
    refine g_pop rfl ?_
    refine g_iinc (L2 := [(3, .inl (v3 + 1)), (0, .inr (some (some 697))), (1, .inl v1), (2, .inl v2)]) rfl rfl rfl ?_
    refine g_goto rfl ?_
    exact g_loc (lsub_cons rfl (lsub_cons rfl (lsub_cons rfl (lsub_cons rfl lsub_nil)))) (hk56 v1 v2 (v3 + 1) S1 _ E)
def fm_stops_56 (kS : Int32 → Mem → Option Mem)  : Nat → Int32 → Int32 → Int32 → Mem → Option Mem
  | 0 => fun _ _ _ _ => none
  | n + 1 => fm_stops_56b kS (fm_stops_56 kS n)
set_option maxRecDepth 20000 in
set_option maxHeartbeats 4000000 in
theorem tm_stops_56 {scr : Nat × (Nat → Int32)} {d : Nat} {D : Nat} (hd : D + 5 + 2 ≤ d) {kS : Int32 → Mem → Option Mem} (hS : ∀ d, D + 5 ≤ d → ∀ (v1 : Int32) (S0 SR : Mem), kS v1 S0 = some SR → XG scr d 176 0 [(0, .inr (some (some 697))), (1, .inl v1)] [] S0 none SR)  : ∀ (n : Nat) (v1 : Int32) (v2 : Int32) (v3 : Int32) (S0 : Mem), ∀ (SR : Mem), fm_stops_56 kS n v1 v2 v3 S0 = some SR → XG scr d 176 56 [(0, .inr (some (some 697))), (1, .inl v1), (2, .inl v2), (3, .inl v3)] [] S0 none SR
  | 0, v1, v2, v3, S0, SR, E => nn E
  | n + 1, v1, v2, v3, S0, SR, E => tm_stops_56b hd hS (tm_stops_56 hd hS n) v1 v2 v3 S0  SR E
def fm_stopsb (kS : Int32 → Mem → Option Mem) (v1 : Int32) (S0 : Mem) : Option Mem := (fm_stopsChildren kS v1 S0).bind fun S1 => (fm_sets v1 5 0 S1).bind fun S2 => (fm_sets v1 13 0 S2).bind fun S3 => (fm_sets v1 38 0 S3).bind fun S4 => (fm_forgets v1 S4).bind fun S5 => (fm_unwatches v1 S5).bind fun S6 => (fm_at v1 51 S6).bind fun x1 => (fm_sets v1 51 0 S6).bind fun S7 => fm_stops_56 kS LF v1 x1 0 S7
set_option maxRecDepth 20000 in
set_option maxHeartbeats 4000000 in
theorem tm_stopsb {scr : Nat × (Nat → Int32)} {d : Nat} {D : Nat} (hd : D + 5 + 2 ≤ d) {kS : Int32 → Mem → Option Mem} (hS : ∀ d, D + 5 ≤ d → ∀ (v1 : Int32) (S0 SR : Mem), kS v1 S0 = some SR → XG scr d 176 0 [(0, .inr (some (some 697))), (1, .inl v1)] [] S0 none SR) (v1 : Int32) (S0 : Mem)  (SR : Mem) (E : fm_stopsb kS v1 S0 = some SR) : XG scr d 176 0 [(0, .inr (some (some 697))), (1, .inl v1)] [] S0 none SR := by
  unfold fm_stopsb at E
  refine g_aload rfl rfl ?_
  refine g_iload rfl rfl ?_
  obtain ⟨S1, h1, E⟩ := ob E
  refine g_inv1 (dc := D + 5 + 1) rfl (by omega) ty_m (Nat.le_of_ble_eq_true rfl) (fun d hd => tm_stopsChildren hd hS v1 S0 _ h1) ?_
  refine g_aload rfl rfl ?_
  refine g_iload rfl rfl ?_
  refine g_push rfl ?_
  refine g_push rfl ?_
  obtain ⟨S2, h2, E⟩ := ob E
  refine g_inv3 (dc := 0) rfl (by omega) ty_m (Nat.le_of_ble_eq_true rfl) (fun d hd => tm_sets hd v1 5 0 S1 _ h2) ?_
  refine g_aload rfl rfl ?_
  refine g_iload rfl rfl ?_
  refine g_push rfl ?_
  refine g_push rfl ?_
  obtain ⟨S3, h3, E⟩ := ob E
  refine g_inv3 (dc := 0) rfl (by omega) ty_m (Nat.le_of_ble_eq_true rfl) (fun d hd => tm_sets hd v1 13 0 S2 _ h3) ?_
  refine g_aload rfl rfl ?_
  refine g_iload rfl rfl ?_
  refine g_push rfl ?_
  refine g_push rfl ?_
  obtain ⟨S4, h4, E⟩ := ob E
  refine g_inv3 (dc := 0) rfl (by omega) ty_m (Nat.le_of_ble_eq_true rfl) (fun d hd => tm_sets hd v1 38 0 S3 _ h4) ?_
  refine g_aload rfl rfl ?_
  refine g_iload rfl rfl ?_
  obtain ⟨S5, h5, E⟩ := ob E
  refine g_inv1 (dc := 1) rfl (by omega) ty_m (Nat.le_of_ble_eq_true rfl) (fun d hd => tm_forgets hd v1 S4 _ h5) ?_
  refine g_aload rfl rfl ?_
  refine g_iload rfl rfl ?_
  obtain ⟨S6, h6, E⟩ := ob E
  refine g_inv1 (dc := 1) rfl (by omega) ty_m (Nat.le_of_ble_eq_true rfl) (fun d hd => tm_unwatches hd v1 S5 _ h6) ?_
  refine g_aload rfl rfl ?_
  refine g_iload rfl rfl ?_
  refine g_push rfl ?_
  obtain ⟨x1, h7, E⟩ := ob E
  refine g_inv2 (dc := 0) rfl (by omega) ty_m (Nat.le_of_ble_eq_true rfl) (fun d hd => tm_at hd v1 51 S6 _ h7) ?_
  refine g_istore (L2 := [(2, .inl x1), (0, .inr (some (some 697))), (1, .inl v1)]) rfl rfl ?_
  refine g_aload rfl rfl ?_
  refine g_iload rfl rfl ?_
  refine g_push rfl ?_
  refine g_push rfl ?_
  obtain ⟨S7, h8, E⟩ := ob E
  refine g_inv3 (dc := 0) rfl (by omega) ty_m (Nat.le_of_ble_eq_true rfl) (fun d hd => tm_sets hd v1 51 0 S6 _ h8) ?_
  refine g_push rfl ?_
  refine g_istore (L2 := [(3, .inl 0), (2, .inl x1), (0, .inr (some (some 697))), (1, .inl v1)]) rfl rfl ?_
  exact g_loc (lsub_cons rfl (lsub_cons rfl (lsub_cons rfl (lsub_cons rfl lsub_nil)))) (tm_stops_56 hd hS LF v1 x1 0 S7 _ E)
def fm_stops : Nat → Int32 → Mem → Option Mem
  | 0 => fun _ _ => none
  | n + 1 => fm_stopsb (fm_stops n)
set_option maxRecDepth 20000 in
set_option maxHeartbeats 4000000 in
theorem tm_stops {scr : Nat × (Nat → Int32)} : ∀ (n d : Nat), 5 + 2 * n ≤ d → ∀ (v1 : Int32) (S0 SR : Mem), fm_stops n v1 S0 = some SR → XG scr d 176 0 [(0, .inr (some (some 697))), (1, .inl v1)] [] S0 none SR
  | 0, _, _, _, _, _, E => nn E
  | n + 1, d, hd, v1, S0, SR, E => tm_stopsb (D := 2 * n) (by omega) (fun d hd => tm_stops n d (by omega)) v1 S0 SR E
