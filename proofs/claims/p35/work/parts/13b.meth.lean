/-! 13b: the methods as functions over the cells -/
def fw_isRestartedWith (v0 : Nat) (v1 : Int32) (v2 : Int32) (S0 : Mem) : Option Int32 := (fw_isActor v0 v2 S0).bind fun x1 => if x1 = 0 then (some 0) else ((ix v2 12).bind fun i1 => (fw_isActor v0 (S0 (v0 + 12 + 13 * i1) 0) S0).bind fun x2 => if x2 = 0 then (some 0) else ((ix v2 12).bind fun i2 => (fw_isLiveChild v0 v1 (S0 (v0 + 12 + 13 * i2) 0) S0).bind fun x3 => if x3 = 0 then (some 0) else ((ix v2 12).bind fun i3 => (ix (S0 (v0 + 12 + 13 * i3) 0) 12).bind fun i4 => if v1 = v2 then (some 1) else (if (S0 (v0 + 12 + 13 * i4) 2) = 1 then (some 1) else (if (S0 (v0 + 12 + 13 * i4) 2) = 2 then (if v1 ≤ v2 then (some 0) else (some 1)) else (some 0))))))
set_option maxRecDepth 20000 in
set_option maxHeartbeats 4000000 in
theorem tw_isRestartedWith {scr : Nat × (Nat → Int32)} {d : Nat} (hd : 1 ≤ d) (v0 : Nat) (v1 : Int32) (v2 : Int32) (S0 : Mem) (tv0 : Ty 6 v0) (rv : Int32) (E : fw_isRestartedWith  v0 v1 v2 S0 = some rv) : XG scr d 57 0 [(0, .inr (some (some v0))), (1, .inl v1), (2, .inl v2)] [] S0 (some (.inl rv)) S0 := by
  unfold fw_isRestartedWith at E
  refine g_aload rfl rfl ?_
  refine g_iload rfl rfl ?_
  obtain ⟨x1, h1, E⟩ := ob E
  refine g_inv1 (dc := 0) rfl (by omega) tv0 (Nat.le_of_ble_eq_true rfl) (fun d hd => tw_isActor hd v0 v2 S0 tv0 _ h1) ?_
  rcases xif E with ⟨h2, E⟩ | ⟨h2, E⟩
  · refine g_ifeq_t rfl h2 ?_
    refine g_push rfl ?_
    obtain rfl := so1 E
    exact g_zret rfl b00
  · refine g_ifeq_f rfl h2 ?_
    refine g_aload rfl rfl ?_
    refine g_aload rfl rfl ?_
    refine g_getR rfl tv0 (fR_6_0 tv0) ?_
    refine g_iload rfl rfl ?_
    obtain ⟨i1, h3, E⟩ := ob E
    refine g_aald rfl (eK_a _ tv0.1 tv0.2).1.1 (eK_a _ tv0.1 tv0.2).1.2 (by decide) h3 (rA_a tv0 h3) ?_
    refine g_getI rfl (eT_a tv0 h3) ?_
    obtain ⟨x2, h4, E⟩ := ob E
    refine g_inv1 (dc := 0) rfl (by omega) tv0 (Nat.le_of_ble_eq_true rfl) (fun d hd => tw_isActor hd v0 (S0 (v0 + 12 + 13 * i1) 0) S0 tv0 _ h4) ?_
    rcases xif E with ⟨h5, E⟩ | ⟨h5, E⟩
    · refine g_ifeq_t rfl h5 ?_
      refine g_push rfl ?_
      obtain rfl := so1 E
      exact g_zret rfl b00
    · refine g_ifeq_f rfl h5 ?_
      refine g_aload rfl rfl ?_
      refine g_iload rfl rfl ?_
      refine g_aload rfl rfl ?_
      refine g_getR rfl tv0 (fR_6_0 tv0) ?_
      refine g_iload rfl rfl ?_
      obtain ⟨i2, h6, E⟩ := ob E
      refine g_aald rfl (eK_a _ tv0.1 tv0.2).1.1 (eK_a _ tv0.1 tv0.2).1.2 (by decide) h6 (rA_a tv0 h6) ?_
      refine g_getI rfl (eT_a tv0 h6) ?_
      obtain ⟨x3, h7, E⟩ := ob E
      refine g_inv2 (dc := 0) rfl (by omega) tv0 (Nat.le_of_ble_eq_true rfl) (fun d hd => tw_isLiveChild hd v0 v1 (S0 (v0 + 12 + 13 * i2) 0) S0 tv0 _ h7) ?_
      rcases xif E with ⟨h8, E⟩ | ⟨h8, E⟩
      · refine g_ifne_t rfl h8 ?_
        refine g_push rfl ?_
        obtain rfl := so1 E
        exact g_zret rfl b00
      · refine g_ifne_f rfl h8 ?_
        refine g_aload rfl rfl ?_
        refine g_getR rfl tv0 (fR_6_0 tv0) ?_
        refine g_aload rfl rfl ?_
        refine g_getR rfl tv0 (fR_6_0 tv0) ?_
        refine g_iload rfl rfl ?_
        obtain ⟨i3, h9, E⟩ := ob E
        refine g_aald rfl (eK_a _ tv0.1 tv0.2).1.1 (eK_a _ tv0.1 tv0.2).1.2 (by decide) h9 (rA_a tv0 h9) ?_
        refine g_getI rfl (eT_a tv0 h9) ?_
        obtain ⟨i4, h10, E⟩ := ob E
        refine g_aald rfl (eK_a _ tv0.1 tv0.2).1.1 (eK_a _ tv0.1 tv0.2).1.2 (by decide) h10 (rA_a tv0 h10) ?_
        refine g_getI rfl (eT_a tv0 h10) ?_
        refine g_istore (L2 := [(3, .inl (S0 (v0 + 12 + 13 * i4) 2)), (0, .inr (some (some v0))), (1, .inl v1), (2, .inl v2)]) rfl rfl ?_
        refine g_iload rfl rfl ?_
        refine g_iload rfl rfl ?_
        rcases xif E with ⟨h11, E⟩ | ⟨h11, E⟩
        · refine g_iceq_t rfl h11 ?_
          refine g_push rfl ?_
          refine g_goto rfl ?_
          obtain rfl := so1 E
          exact g_zret rfl b01
        · refine g_iceq_f rfl h11 ?_
          refine g_iload rfl rfl ?_
          refine g_push rfl ?_
          rcases xif E with ⟨h12, E⟩ | ⟨h12, E⟩
          · refine g_iceq_t rfl h12 ?_
            refine g_push rfl ?_
            refine g_goto rfl ?_
            obtain rfl := so1 E
            exact g_zret rfl b01
          · refine g_iceq_f rfl h12 ?_
            refine g_iload rfl rfl ?_
            refine g_push rfl ?_
            rcases xif E with ⟨h13, E⟩ | ⟨h13, E⟩
            · refine g_icne_t rfl h13 ?_
              refine g_iload rfl rfl ?_
              refine g_iload rfl rfl ?_
              rcases xif E with ⟨h14, E⟩ | ⟨h14, E⟩
              · refine g_icle_t rfl h14 ?_
                refine g_push rfl ?_
                obtain rfl := so1 E
                exact g_zret rfl b00
              · refine g_icle_f rfl h14 ?_
                refine g_push rfl ?_
                refine g_goto rfl ?_
                obtain rfl := so1 E
                exact g_zret rfl b01
            · refine g_icne_f rfl h13 ?_
              refine g_push rfl ?_
              obtain rfl := so1 E
              exact g_zret rfl b00
def fw_restart_24b (k24 : Nat → Int32 → Int32 → Mem → Option Mem) (v0 : Nat) (v1 : Int32) (v2 : Int32) (S0 : Mem) : Option Mem := if v2 ≤ v1 then ((ix v1 12).bind fun i1 => (some (up2 S0 (v0 + 12 + 13 * i1) 5 0)).bind fun S1 => (ix v1 12).bind fun i2 => (fa_keepOwnOnly (v0 + 12 + 13 * i2) S1).bind fun S2 => (fc_removeOf (v0 + 2) v1 S2).bind fun S3 => (ix v1 12).bind fun i3 => (fw_unstash v0 (v0 + 12 + 13 * i3) S3).bind fun S4 => some S4) else ((fw_isLiveChild v0 v2 v1 S0).bind fun x1 => if x1 = 0 then (k24 v0 v1 (v2 + (-1)) S0) else (bd (fw_halt v0 v2 S0) fun x2 S5 => k24 v0 v1 (v2 + (-1)) S5))
set_option maxRecDepth 20000 in
set_option maxHeartbeats 4000000 in
theorem tw_restart_24b {scr : Nat × (Nat → Int32)} {d : Nat} (hd : 3 ≤ d) {k24 : Nat → Int32 → Int32 → Mem → Option Mem} (hk24 : ∀ (v0 : Nat) (v1 : Int32) (v2 : Int32) (S0 : Mem), Ty 6 v0 → ∀ (SR : Mem), k24 v0 v1 v2 S0 = some SR → XG scr d 62 24 [(0, .inr (some (some v0))), (1, .inl v1), (2, .inl v2)] [] S0 none SR) (v0 : Nat) (v1 : Int32) (v2 : Int32) (S0 : Mem) (tv0 : Ty 6 v0) (SR : Mem) (E : fw_restart_24b k24 v0 v1 v2 S0 = some SR) : XG scr d 62 24 [(0, .inr (some (some v0))), (1, .inl v1), (2, .inl v2)] [] S0 none SR := by
  unfold fw_restart_24b at E
  refine g_iload rfl rfl ?_
  refine g_iload rfl rfl ?_
  rcases xif E with ⟨h1, E⟩ | ⟨h1, E⟩
  · refine g_icle_t rfl h1 ?_
    refine g_aload rfl rfl ?_
    refine g_getR rfl tv0 (fR_6_0 tv0) ?_
    refine g_iload rfl rfl ?_
    obtain ⟨i1, h2, E⟩ := ob E
    refine g_aald rfl (eK_a _ tv0.1 tv0.2).1.1 (eK_a _ tv0.1 tv0.2).1.2 (by decide) h2 (rA_a tv0 h2) ?_
    refine g_push rfl ?_
    obtain ⟨S1, hS1, E⟩ := ob E
    refine g_putI rfl (eT_a tv0 h2) hS1 ?_
    refine g_aload rfl rfl ?_
    refine g_getR rfl tv0 (fR_6_0 tv0) ?_
    refine g_iload rfl rfl ?_
    obtain ⟨i2, h3, E⟩ := ob E
    refine g_aald rfl (eK_a _ tv0.1 tv0.2).1.1 (eK_a _ tv0.1 tv0.2).1.2 (by decide) h3 (rA_a tv0 h3) ?_
    obtain ⟨S2, h4, E⟩ := ob E
    refine g_inv0 (dc := 1) rfl (by omega) (eT_a tv0 h3) (Nat.le_of_ble_eq_true rfl) (fun d hd => ta_keepOwnOnly hd (v0 + 12 + 13 * i2) S1 (eT_a tv0 h3) _ h4) ?_
    refine g_aload rfl rfl ?_
    refine g_getR rfl tv0 (fR_6_1 tv0) ?_
    refine g_iload rfl rfl ?_
    obtain ⟨S3, h5, E⟩ := ob E
    refine g_inv1 (dc := 1) rfl (by omega) (fT_6_1 tv0) (Nat.le_of_ble_eq_true rfl) (fun d hd => tc_removeOf hd (v0 + 2) v1 S2 (fT_6_1 tv0) _ h5) ?_
    refine g_aload rfl rfl ?_
    refine g_aload rfl rfl ?_
    refine g_getR rfl tv0 (fR_6_0 tv0) ?_
    refine g_iload rfl rfl ?_
    obtain ⟨i3, h6, E⟩ := ob E
    refine g_aald rfl (eK_a _ tv0.1 tv0.2).1.1 (eK_a _ tv0.1 tv0.2).1.2 (by decide) h6 (rA_a tv0 h6) ?_
    obtain ⟨S4, h7, E⟩ := ob E
    refine g_inv1 (dc := 1) rfl (by omega) tv0 (Nat.le_of_ble_eq_true rfl) (fun d hd => tw_unstash hd v0 (v0 + 12 + 13 * i3) S3 tv0 (eT_a tv0 h6) _ h7) ?_
    obtain rfl := so1 E
    exact g_ret rfl
  · refine g_icle_f rfl h1 ?_
    refine g_aload rfl rfl ?_
    refine g_iload rfl rfl ?_
    refine g_iload rfl rfl ?_
    obtain ⟨x1, h8, E⟩ := ob E
    refine g_inv2 (dc := 0) rfl (by omega) tv0 (Nat.le_of_ble_eq_true rfl) (fun d hd => tw_isLiveChild hd v0 v2 v1 S0 tv0 _ h8) ?_
    rcases xif E with ⟨h9, E⟩ | ⟨h9, E⟩
    · refine g_ifeq_t rfl h9 ?_
      refine g_iinc (L2 := [(2, .inl (v2 + (-1))), (0, .inr (some (some v0))), (1, .inl v1)]) rfl rfl rfl ?_
      refine g_goto rfl ?_
      exact g_loc (lsub_cons rfl (lsub_cons rfl (lsub_cons rfl lsub_nil))) (hk24 v0 v1 (v2 + (-1)) S0 tv0 _ E)
    · refine g_ifeq_f rfl h9 ?_
      refine g_aload rfl rfl ?_
      refine g_iload rfl rfl ?_
      obtain ⟨x2, S5, h10, E⟩ := ob2 E
      refine g_inv1 (dc := 2) rfl (by omega) tv0 (Nat.le_of_ble_eq_true rfl) (fun d hd => tw_halt hd v0 v2 S0 tv0 _ _ h10) ?_
      refine g_pop rfl ?_
      refine g_iinc (L2 := [(2, .inl (v2 + (-1))), (0, .inr (some (some v0))), (1, .inl v1)]) rfl rfl rfl ?_
      refine g_goto rfl ?_
      exact g_loc (lsub_cons rfl (lsub_cons rfl (lsub_cons rfl lsub_nil))) (hk24 v0 v1 (v2 + (-1)) S5 tv0 _ E)
def fw_restart_24  : Nat → Nat → Int32 → Int32 → Mem → Option Mem
  | 0 => fun _ _ _ _ => none
  | n + 1 => fw_restart_24b  (fw_restart_24  n)
set_option maxRecDepth 20000 in
set_option maxHeartbeats 4000000 in
theorem tw_restart_24 {scr : Nat × (Nat → Int32)} {d : Nat} (hd : 3 ≤ d)  : ∀ (n : Nat) (v0 : Nat) (v1 : Int32) (v2 : Int32) (S0 : Mem), Ty 6 v0 → ∀ (SR : Mem), fw_restart_24  n v0 v1 v2 S0 = some SR → XG scr d 62 24 [(0, .inr (some (some v0))), (1, .inl v1), (2, .inl v2)] [] S0 none SR
  | 0, v0, v1, v2, S0, tv0, SR, E => nn E
  | n + 1, v0, v1, v2, S0, tv0, SR, E => tw_restart_24b hd  (tw_restart_24 hd  n) v0 v1 v2 S0 tv0 SR E
def fw_restart (v0 : Nat) (v1 : Int32) (S0 : Mem) : Option Mem := (fw_isActor v0 v1 S0).bind fun x1 => if x1 = 0 then (some S0) else ((some (up2 S0 v0 12 ((S0 v0 12) ||| (1 <<< (v1 &&& 31))))).bind fun S1 => fw_restart_24 LF v0 v1 11 S1)
set_option maxRecDepth 20000 in
set_option maxHeartbeats 4000000 in
theorem tw_restart {scr : Nat × (Nat → Int32)} {d : Nat} (hd : 3 ≤ d) (v0 : Nat) (v1 : Int32) (S0 : Mem) (tv0 : Ty 6 v0) (SR : Mem) (E : fw_restart  v0 v1 S0 = some SR) : XG scr d 62 0 [(0, .inr (some (some v0))), (1, .inl v1)] [] S0 none SR := by
  unfold fw_restart at E
  refine g_aload rfl rfl ?_
  refine g_iload rfl rfl ?_
  obtain ⟨x1, h1, E⟩ := ob E
  refine g_inv1 (dc := 0) rfl (by omega) tv0 (Nat.le_of_ble_eq_true rfl) (fun d hd => tw_isActor hd v0 v1 S0 tv0 _ h1) ?_
  rcases xif E with ⟨h2, E⟩ | ⟨h2, E⟩
  · refine g_ifne_t rfl h2 ?_
    obtain rfl := so1 E
    exact g_ret rfl
  · refine g_ifne_f rfl h2 ?_
    refine g_aload rfl rfl ?_
    refine g_dup rfl ?_
    refine g_getI rfl tv0 ?_
    refine g_push rfl ?_
    refine g_iload rfl rfl ?_
    refine g_ishl rfl ?_
    refine g_ior rfl ?_
    obtain ⟨S1, hS1, E⟩ := ob E
    refine g_putI rfl tv0 hS1 ?_
    refine g_push rfl ?_
    refine g_istore (L2 := [(2, .inl 11), (0, .inr (some (some v0))), (1, .inl v1)]) rfl rfl ?_
    exact g_loc (lsub_cons rfl (lsub_cons rfl (lsub_cons rfl lsub_nil))) (tw_restart_24 hd LF v0 v1 11 S1 tv0 _ E)
def fw_fail_84b (k84 : Nat → Int32 → Int32 → Mem → Option Mem) (v0 : Nat) (v3 : Int32) (v4 : Int32) (S0 : Mem) : Option Mem := if (S0 v0 4) ≤ v4 then (some S0) else ((fw_isRestartedWith v0 v4 v3 S0).bind fun x1 => if x1 = 0 then (k84 v0 v3 (v4 + 1) S0) else ((fw_restart v0 v4 S0).bind fun S1 => k84 v0 v3 (v4 + 1) S1))
set_option maxRecDepth 20000 in
set_option maxHeartbeats 4000000 in
theorem tw_fail_84b {scr : Nat × (Nat → Int32)} {d : Nat} (hd : 4 ≤ d) {k84 : Nat → Int32 → Int32 → Mem → Option Mem} (hk84 : ∀ (v0 : Nat) (v3 : Int32) (v4 : Int32) (S0 : Mem), Ty 6 v0 → ∀ (SR : Mem), k84 v0 v3 v4 S0 = some SR → XG scr d 46 84 [(0, .inr (some (some v0))), (3, .inl v3), (4, .inl v4)] [] S0 none SR) (v0 : Nat) (v3 : Int32) (v4 : Int32) (S0 : Mem) (tv0 : Ty 6 v0) (SR : Mem) (E : fw_fail_84b k84 v0 v3 v4 S0 = some SR) : XG scr d 46 84 [(0, .inr (some (some v0))), (3, .inl v3), (4, .inl v4)] [] S0 none SR := by
  unfold fw_fail_84b at E
  refine g_iload rfl rfl ?_
  refine g_aload rfl rfl ?_
  refine g_getI rfl tv0 ?_
  rcases xif E with ⟨h1, E⟩ | ⟨h1, E⟩
  · refine g_icge_t rfl h1 ?_
    obtain rfl := so1 E
    exact g_ret rfl
  · refine g_icge_f rfl h1 ?_
    refine g_aload rfl rfl ?_
    refine g_iload rfl rfl ?_
    refine g_iload rfl rfl ?_
    obtain ⟨x1, h2, E⟩ := ob E
    refine g_inv2 (dc := 1) rfl (by omega) tv0 (Nat.le_of_ble_eq_true rfl) (fun d hd => tw_isRestartedWith hd v0 v4 v3 S0 tv0 _ h2) ?_
    rcases xif E with ⟨h3, E⟩ | ⟨h3, E⟩
    · refine g_ifeq_t rfl h3 ?_
      refine g_iinc (L2 := [(4, .inl (v4 + 1)), (0, .inr (some (some v0))), (3, .inl v3)]) rfl rfl rfl ?_
      refine g_goto rfl ?_
      exact g_loc (lsub_cons rfl (lsub_cons rfl (lsub_cons rfl lsub_nil))) (hk84 v0 v3 (v4 + 1) S0 tv0 _ E)
    · refine g_ifeq_f rfl h3 ?_
      refine g_aload rfl rfl ?_
      refine g_iload rfl rfl ?_
      obtain ⟨S1, h4, E⟩ := ob E
      refine g_inv1 (dc := 3) rfl (by omega) tv0 (Nat.le_of_ble_eq_true rfl) (fun d hd => tw_restart hd v0 v4 S0 tv0 _ h4) ?_
      refine g_iinc (L2 := [(4, .inl (v4 + 1)), (0, .inr (some (some v0))), (3, .inl v3)]) rfl rfl rfl ?_
      refine g_goto rfl ?_
      exact g_loc (lsub_cons rfl (lsub_cons rfl (lsub_cons rfl lsub_nil))) (hk84 v0 v3 (v4 + 1) S1 tv0 _ E)
def fw_fail_84  : Nat → Nat → Int32 → Int32 → Mem → Option Mem
  | 0 => fun _ _ _ _ => none
  | n + 1 => fw_fail_84b  (fw_fail_84  n)
set_option maxRecDepth 20000 in
set_option maxHeartbeats 4000000 in
theorem tw_fail_84 {scr : Nat × (Nat → Int32)} {d : Nat} (hd : 4 ≤ d)  : ∀ (n : Nat) (v0 : Nat) (v3 : Int32) (v4 : Int32) (S0 : Mem), Ty 6 v0 → ∀ (SR : Mem), fw_fail_84  n v0 v3 v4 S0 = some SR → XG scr d 46 84 [(0, .inr (some (some v0))), (3, .inl v3), (4, .inl v4)] [] S0 none SR
  | 0, v0, v3, v4, S0, tv0, SR, E => nn E
  | n + 1, v0, v3, v4, S0, tv0, SR, E => tw_fail_84b hd  (tw_fail_84 hd  n) v0 v3 v4 S0 tv0 SR E
def fw_fail_28b (k28 : Nat → Int32 → Int32 → Mem → Option Mem) (v0 : Nat) (v3 : Int32) (v4 : Int32) (S0 : Mem) : Option Mem := if 12 ≤ v4 then (if v3 = 0 then (bd (fw_halt v0 0 S0) fun x1 S1 => some S1) else (fw_fail_84 LF v0 v3 0 S0)) else (bd (fw_isOverBudgetAbove v0 v3 S0) fun x2 S2 => if x2 = 0 then (if v3 = 0 then (bd (fw_halt v0 0 S2) fun x3 S3 => some S3) else (fw_fail_84 LF v0 v3 0 S2)) else ((ix v3 12).bind fun i1 => bd (fp_add (v0 + 9) (S2 (v0 + 12 + 13 * i1) 0) 9 S2) fun x4 S4 => k28 v0 (S2 (v0 + 12 + 13 * i1) 0) (v4 + 1) S4))
set_option maxRecDepth 20000 in
set_option maxHeartbeats 4000000 in
theorem tw_fail_28b {scr : Nat × (Nat → Int32)} {d : Nat} (hd : 4 ≤ d) {k28 : Nat → Int32 → Int32 → Mem → Option Mem} (hk28 : ∀ (v0 : Nat) (v3 : Int32) (v4 : Int32) (S0 : Mem), Ty 6 v0 → ∀ (SR : Mem), k28 v0 v3 v4 S0 = some SR → XG scr d 46 28 [(0, .inr (some (some v0))), (3, .inl v3), (4, .inl v4)] [] S0 none SR) (v0 : Nat) (v3 : Int32) (v4 : Int32) (S0 : Mem) (tv0 : Ty 6 v0) (SR : Mem) (E : fw_fail_28b k28 v0 v3 v4 S0 = some SR) : XG scr d 46 28 [(0, .inr (some (some v0))), (3, .inl v3), (4, .inl v4)] [] S0 none SR := by
  unfold fw_fail_28b at E
  refine g_iload rfl rfl ?_
  refine g_push rfl ?_
  rcases xif E with ⟨h1, E⟩ | ⟨h1, E⟩
  · refine g_icge_t rfl h1 ?_
    refine g_iload rfl rfl ?_
    rcases xif E with ⟨h2, E⟩ | ⟨h2, E⟩
    · refine g_ifne_t rfl h2 ?_
      refine g_aload rfl rfl ?_
      refine g_push rfl ?_
      obtain ⟨x1, S1, h3, E⟩ := ob2 E
      refine g_inv1 (dc := 2) rfl (by omega) tv0 (Nat.le_of_ble_eq_true rfl) (fun d hd => tw_halt hd v0 0 S0 tv0 _ _ h3) ?_
      refine g_pop rfl ?_
      obtain rfl := so1 E
      exact g_ret rfl
    · refine g_ifne_f rfl h2 ?_
      refine g_push rfl ?_
      refine g_istore (L2 := [(4, .inl 0), (0, .inr (some (some v0))), (3, .inl v3)]) rfl rfl ?_
      exact g_loc (lsub_cons rfl (lsub_cons rfl (lsub_cons rfl lsub_nil))) (tw_fail_84 hd LF v0 v3 0 S0 tv0 _ E)
  · refine g_icge_f rfl h1 ?_
    refine g_aload rfl rfl ?_
    refine g_iload rfl rfl ?_
    obtain ⟨x2, S2, h4, E⟩ := ob2 E
    refine g_inv1 (dc := 1) rfl (by omega) tv0 (Nat.le_of_ble_eq_true rfl) (fun d hd => tw_isOverBudgetAbove hd v0 v3 S0 tv0 _ _ h4) ?_
    rcases xif E with ⟨h5, E⟩ | ⟨h5, E⟩
    · refine g_ifeq_t rfl h5 ?_
      refine g_iload rfl rfl ?_
      rcases xif E with ⟨h6, E⟩ | ⟨h6, E⟩
      · refine g_ifne_t rfl h6 ?_
        refine g_aload rfl rfl ?_
        refine g_push rfl ?_
        obtain ⟨x3, S3, h7, E⟩ := ob2 E
        refine g_inv1 (dc := 2) rfl (by omega) tv0 (Nat.le_of_ble_eq_true rfl) (fun d hd => tw_halt hd v0 0 S2 tv0 _ _ h7) ?_
        refine g_pop rfl ?_
        obtain rfl := so1 E
        exact g_ret rfl
      · refine g_ifne_f rfl h6 ?_
        refine g_push rfl ?_
        refine g_istore (L2 := [(4, .inl 0), (0, .inr (some (some v0))), (3, .inl v3)]) rfl rfl ?_
        exact g_loc (lsub_cons rfl (lsub_cons rfl (lsub_cons rfl lsub_nil))) (tw_fail_84 hd LF v0 v3 0 S2 tv0 _ E)
    · refine g_ifeq_f rfl h5 ?_
      refine g_aload rfl rfl ?_
      refine g_getR rfl tv0 (fR_6_0 tv0) ?_
      refine g_iload rfl rfl ?_
      obtain ⟨i1, h8, E⟩ := ob E
      refine g_aald rfl (eK_a _ tv0.1 tv0.2).1.1 (eK_a _ tv0.1 tv0.2).1.2 (by decide) h8 (rA_a tv0 h8) ?_
      refine g_getI rfl (eT_a tv0 h8) ?_
      refine g_istore (L2 := [(3, .inl (S2 (v0 + 12 + 13 * i1) 0)), (0, .inr (some (some v0))), (4, .inl v4)]) rfl rfl ?_
      refine g_aload rfl rfl ?_
      refine g_getR rfl tv0 (fR_6_3 tv0) ?_
      refine g_iload rfl rfl ?_
      refine g_push rfl ?_
      obtain ⟨x4, S4, h9, E⟩ := ob2 E
      refine g_inv2 (dc := 0) rfl (by omega) (fT_6_3 tv0) (Nat.le_of_ble_eq_true rfl) (fun d hd => tp_add hd (v0 + 9) (S2 (v0 + 12 + 13 * i1) 0) 9 S2 (fT_6_3 tv0) _ _ h9) ?_
      refine g_pop rfl ?_
      refine g_iinc (L2 := [(4, .inl (v4 + 1)), (3, .inl (S2 (v0 + 12 + 13 * i1) 0)), (0, .inr (some (some v0)))]) rfl rfl rfl ?_
      refine g_goto rfl ?_
      exact g_loc (lsub_cons rfl (lsub_cons rfl (lsub_cons rfl lsub_nil))) (hk28 v0 (S2 (v0 + 12 + 13 * i1) 0) (v4 + 1) S4 tv0 _ E)
def fw_fail_28  : Nat → Nat → Int32 → Int32 → Mem → Option Mem
  | 0 => fun _ _ _ _ => none
  | n + 1 => fw_fail_28b  (fw_fail_28  n)
set_option maxRecDepth 20000 in
set_option maxHeartbeats 4000000 in
theorem tw_fail_28 {scr : Nat × (Nat → Int32)} {d : Nat} (hd : 4 ≤ d)  : ∀ (n : Nat) (v0 : Nat) (v3 : Int32) (v4 : Int32) (S0 : Mem), Ty 6 v0 → ∀ (SR : Mem), fw_fail_28  n v0 v3 v4 S0 = some SR → XG scr d 46 28 [(0, .inr (some (some v0))), (3, .inl v3), (4, .inl v4)] [] S0 none SR
  | 0, v0, v3, v4, S0, tv0, SR, E => nn E
  | n + 1, v0, v3, v4, S0, tv0, SR, E => tw_fail_28b hd  (tw_fail_28 hd  n) v0 v3 v4 S0 tv0 SR E
def fw_fail (v0 : Nat) (v1 : Int32) (v2 : Int32) (S0 : Mem) : Option Mem := (some (up2 S0 v0 11 1)).bind fun S1 => (some (up2 S1 (v0 + 9) 2 0)).bind fun S2 => bd (fp_add (v0 + 9) v1 v2 S2) fun x1 S3 => fw_fail_28 LF v0 v1 0 S3
set_option maxRecDepth 20000 in
set_option maxHeartbeats 4000000 in
theorem tw_fail {scr : Nat × (Nat → Int32)} {d : Nat} (hd : 4 ≤ d) (v0 : Nat) (v1 : Int32) (v2 : Int32) (S0 : Mem) (tv0 : Ty 6 v0) (SR : Mem) (E : fw_fail  v0 v1 v2 S0 = some SR) : XG scr d 46 0 [(0, .inr (some (some v0))), (1, .inl v1), (2, .inl v2)] [] S0 none SR := by
  unfold fw_fail at E
  refine g_aload rfl rfl ?_
  refine g_push rfl ?_
  obtain ⟨S1, hS1, E⟩ := ob E
  refine g_putZ rfl tv0 b01 hS1 ?_
  refine g_aload rfl rfl ?_
  refine g_getR rfl tv0 (fR_6_3 tv0) ?_
  refine g_push rfl ?_
  obtain ⟨S2, hS2, E⟩ := ob E
  refine g_putI rfl (fT_6_3 tv0) hS2 ?_
  refine g_aload rfl rfl ?_
  refine g_getR rfl tv0 (fR_6_3 tv0) ?_
  refine g_iload rfl rfl ?_
  refine g_iload rfl rfl ?_
  obtain ⟨x1, S3, h1, E⟩ := ob2 E
  refine g_inv2 (dc := 0) rfl (by omega) (fT_6_3 tv0) (Nat.le_of_ble_eq_true rfl) (fun d hd => tp_add hd (v0 + 9) v1 v2 S2 (fT_6_3 tv0) _ _ h1) ?_
  refine g_pop rfl ?_
  refine g_iload rfl rfl ?_
  refine g_istore (L2 := [(3, .inl v1), (0, .inr (some (some v0))), (1, .inl v1), (2, .inl v2)]) rfl rfl ?_
  refine g_push rfl ?_
  refine g_istore (L2 := [(4, .inl 0), (3, .inl v1), (0, .inr (some (some v0))), (1, .inl v1), (2, .inl v2)]) rfl rfl ?_
  exact g_loc (lsub_cons rfl (lsub_cons rfl (lsub_cons rfl lsub_nil))) (tw_fail_28 hd LF v0 v1 0 S3 tv0 _ E)
def fw_fireTimer (v0 : Nat) (S0 : Mem) : Option (Int32 × Mem) := if (S0 (v0 + 2) 3) = 0 then (some (0, S0)) else ((fc_ownerAt (v0 + 2) 0 S0).bind fun x1 => (fc_numberAt (v0 + 2) 0 S0).bind fun x2 => (fc_dueAt (v0 + 2) 0 S0).bind fun x3 => (some (up2 S0 v0 6 x3)).bind fun S1 => (fc_removeFirst (v0 + 2) S1).bind fun S2 => bd (fw_send v0 x1 ((-1)) x2 S2) fun x4 S3 => some (1, S3))
set_option maxRecDepth 20000 in
set_option maxHeartbeats 4000000 in
theorem tw_fireTimer {scr : Nat × (Nat → Int32)} {d : Nat} (hd : 2 ≤ d) (v0 : Nat) (S0 : Mem) (tv0 : Ty 6 v0) (rv : Int32) (SR : Mem) (E : fw_fireTimer  v0 S0 = some (rv, SR)) : XG scr d 47 0 [(0, .inr (some (some v0)))] [] S0 (some (.inl rv)) SR := by
  unfold fw_fireTimer at E
  refine g_aload rfl rfl ?_
  refine g_getR rfl tv0 (fR_6_1 tv0) ?_
  refine g_getI rfl (fT_6_1 tv0) ?_
  rcases xif E with ⟨h1, E⟩ | ⟨h1, E⟩
  · refine g_ifne_t rfl h1 ?_
    refine g_push rfl ?_
    obtain ⟨rfl, rfl⟩ := so2 E
    exact g_zret rfl b00
  · refine g_ifne_f rfl h1 ?_
    refine g_aload rfl rfl ?_
    refine g_getR rfl tv0 (fR_6_1 tv0) ?_
    refine g_push rfl ?_
    obtain ⟨x1, h2, E⟩ := ob E
    refine g_inv1 (dc := 0) rfl (by omega) (fT_6_1 tv0) (Nat.le_of_ble_eq_true rfl) (fun d hd => tc_ownerAt hd (v0 + 2) 0 S0 (fT_6_1 tv0) _ h2) ?_
    refine g_istore (L2 := [(1, .inl x1), (0, .inr (some (some v0)))]) rfl rfl ?_
    refine g_aload rfl rfl ?_
    refine g_getR rfl tv0 (fR_6_1 tv0) ?_
    refine g_push rfl ?_
    obtain ⟨x2, h3, E⟩ := ob E
    refine g_inv1 (dc := 0) rfl (by omega) (fT_6_1 tv0) (Nat.le_of_ble_eq_true rfl) (fun d hd => tc_numberAt hd (v0 + 2) 0 S0 (fT_6_1 tv0) _ h3) ?_
    refine g_istore (L2 := [(2, .inl x2), (1, .inl x1), (0, .inr (some (some v0)))]) rfl rfl ?_
    refine g_aload rfl rfl ?_
    refine g_aload rfl rfl ?_
    refine g_getR rfl tv0 (fR_6_1 tv0) ?_
    refine g_push rfl ?_
    obtain ⟨x3, h4, E⟩ := ob E
    refine g_inv1 (dc := 0) rfl (by omega) (fT_6_1 tv0) (Nat.le_of_ble_eq_true rfl) (fun d hd => tc_dueAt hd (v0 + 2) 0 S0 (fT_6_1 tv0) _ h4) ?_
    obtain ⟨S1, hS1, E⟩ := ob E
    refine g_putI rfl tv0 hS1 ?_
    refine g_aload rfl rfl ?_
    refine g_getR rfl tv0 (fR_6_1 tv0) ?_
    obtain ⟨S2, h5, E⟩ := ob E
    refine g_inv0 (dc := 1) rfl (by omega) (fT_6_1 tv0) (Nat.le_of_ble_eq_true rfl) (fun d hd => tc_removeFirst hd (v0 + 2) S1 (fT_6_1 tv0) _ h5) ?_
    refine g_aload rfl rfl ?_
    refine g_iload rfl rfl ?_
    refine g_push rfl ?_
    refine g_iload rfl rfl ?_
    obtain ⟨x4, S3, h6, E⟩ := ob2 E
    refine g_inv3 (dc := 1) rfl (by omega) tv0 (Nat.le_of_ble_eq_true rfl) (fun d hd => tw_send hd v0 x1 ((-1)) x2 S2 tv0 _ _ h6) ?_
    refine g_pop rfl ?_
    refine g_push rfl ?_
    obtain ⟨rfl, rfl⟩ := so2 E
    exact g_zret rfl b01
def fw_nextDealer_2b (k2 : Nat → Int32 → Mem → Option Int32) (v0 : Nat) (v1 : Int32) (S0 : Mem) : Option Int32 := if 12 < v1 then (some ((-1))) else ((fw_isLive v0 (irm ((S0 v0 5) + v1) 12) S0).bind fun x1 => if x1 = 0 then (k2 v0 (v1 + 1) S0) else ((ix (irm ((S0 v0 5) + v1) 12) 12).bind fun i1 => if (S0 (v0 + 12 + 13 * i1 + 3) 2) ≤ 0 then (k2 v0 (v1 + 1) S0) else (some (irm ((S0 v0 5) + v1) 12))))
set_option maxRecDepth 20000 in
set_option maxHeartbeats 4000000 in
theorem tw_nextDealer_2b {scr : Nat × (Nat → Int32)} {d : Nat} (hd : 1 ≤ d) {k2 : Nat → Int32 → Mem → Option Int32} (hk2 : ∀ (v0 : Nat) (v1 : Int32) (S0 : Mem), Ty 6 v0 → ∀ (rv : Int32), k2 v0 v1 S0 = some rv → XG scr d 61 2 [(0, .inr (some (some v0))), (1, .inl v1)] [] S0 (some (.inl rv)) S0) (v0 : Nat) (v1 : Int32) (S0 : Mem) (tv0 : Ty 6 v0) (rv : Int32) (E : fw_nextDealer_2b k2 v0 v1 S0 = some rv) : XG scr d 61 2 [(0, .inr (some (some v0))), (1, .inl v1)] [] S0 (some (.inl rv)) S0 := by
  unfold fw_nextDealer_2b at E
  refine g_iload rfl rfl ?_
  refine g_push rfl ?_
  rcases xif E with ⟨h1, E⟩ | ⟨h1, E⟩
  · refine g_icgt_t rfl h1 ?_
    refine g_push rfl ?_
    obtain rfl := so1 E
    exact g_iret rfl
  · refine g_icgt_f rfl h1 ?_
    refine g_aload rfl rfl ?_
    refine g_getI rfl tv0 ?_
    refine g_iload rfl rfl ?_
    refine g_iadd rfl ?_
    refine g_push rfl ?_
    refine g_irem rfl (by decide) ?_
    refine g_istore (L2 := [(2, .inl (irm ((S0 v0 5) + v1) 12)), (0, .inr (some (some v0))), (1, .inl v1)]) rfl rfl ?_
    refine g_aload rfl rfl ?_
    refine g_iload rfl rfl ?_
    obtain ⟨x1, h2, E⟩ := ob E
    refine g_inv1 (dc := 0) rfl (by omega) tv0 (Nat.le_of_ble_eq_true rfl) (fun d hd => tw_isLive hd v0 (irm ((S0 v0 5) + v1) 12) S0 tv0 _ h2) ?_
    rcases xif E with ⟨h3, E⟩ | ⟨h3, E⟩
    · refine g_ifeq_t rfl h3 ?_
      refine g_iinc (L2 := [(1, .inl (v1 + 1)), (2, .inl (irm ((S0 v0 5) + v1) 12)), (0, .inr (some (some v0)))]) rfl rfl rfl ?_
      refine g_goto rfl ?_
      exact g_loc (lsub_cons rfl (lsub_cons rfl lsub_nil)) (hk2 v0 (v1 + 1) S0 tv0 _ E)
    · refine g_ifeq_f rfl h3 ?_
      refine g_aload rfl rfl ?_
      refine g_getR rfl tv0 (fR_6_0 tv0) ?_
      refine g_iload rfl rfl ?_
      obtain ⟨i1, h4, E⟩ := ob E
      refine g_aald rfl (eK_a _ tv0.1 tv0.2).1.1 (eK_a _ tv0.1 tv0.2).1.2 (by decide) h4 (rA_a tv0 h4) ?_
      refine g_getR rfl (eT_a tv0 h4) (fR_0_8 (eT_a tv0 h4)) ?_
      refine g_getI rfl (fT_0_8 (eT_a tv0 h4)) ?_
      rcases xif E with ⟨h5, E⟩ | ⟨h5, E⟩
      · refine g_ifle_t rfl h5 ?_
        refine g_iinc (L2 := [(1, .inl (v1 + 1)), (2, .inl (irm ((S0 v0 5) + v1) 12)), (0, .inr (some (some v0)))]) rfl rfl rfl ?_
        refine g_goto rfl ?_
        exact g_loc (lsub_cons rfl (lsub_cons rfl lsub_nil)) (hk2 v0 (v1 + 1) S0 tv0 _ E)
      · refine g_ifle_f rfl h5 ?_
        refine g_iload rfl rfl ?_
        obtain rfl := so1 E
        exact g_iret rfl
def fw_nextDealer_2  : Nat → Nat → Int32 → Mem → Option Int32
  | 0 => fun _ _ _ => none
  | n + 1 => fw_nextDealer_2b  (fw_nextDealer_2  n)
set_option maxRecDepth 20000 in
set_option maxHeartbeats 4000000 in
theorem tw_nextDealer_2 {scr : Nat × (Nat → Int32)} {d : Nat} (hd : 1 ≤ d)  : ∀ (n : Nat) (v0 : Nat) (v1 : Int32) (S0 : Mem), Ty 6 v0 → ∀ (rv : Int32), fw_nextDealer_2  n v0 v1 S0 = some rv → XG scr d 61 2 [(0, .inr (some (some v0))), (1, .inl v1)] [] S0 (some (.inl rv)) S0
  | 0, v0, v1, S0, tv0, rv, E => nn E
  | n + 1, v0, v1, S0, tv0, rv, E => tw_nextDealer_2b hd  (tw_nextDealer_2 hd  n) v0 v1 S0 tv0 rv E
def fw_nextDealer (v0 : Nat) (S0 : Mem) : Option Int32 := fw_nextDealer_2 LF v0 1 S0
set_option maxRecDepth 20000 in
set_option maxHeartbeats 4000000 in
theorem tw_nextDealer {scr : Nat × (Nat → Int32)} {d : Nat} (hd : 1 ≤ d) (v0 : Nat) (S0 : Mem) (tv0 : Ty 6 v0) (rv : Int32) (E : fw_nextDealer  v0 S0 = some rv) : XG scr d 61 0 [(0, .inr (some (some v0)))] [] S0 (some (.inl rv)) S0 := by
  unfold fw_nextDealer at E
  refine g_push rfl ?_
  refine g_istore (L2 := [(1, .inl 1), (0, .inr (some (some v0)))]) rfl rfl ?_
  exact g_loc (lsub_cons rfl (lsub_cons rfl lsub_nil)) (tw_nextDealer_2 hd LF v0 1 S0 tv0 _ E)
def fw_hasStep (v0 : Nat) (S0 : Mem) : Option Int32 := if 0 < (S0 (v0 + 2) 3) then (some 1) else ((fw_nextDealer v0 S0).bind fun x1 => if x1 = ((-1)) then (some 0) else (some 1))
set_option maxRecDepth 20000 in
set_option maxHeartbeats 4000000 in
theorem tw_hasStep {scr : Nat × (Nat → Int32)} {d : Nat} (hd : 2 ≤ d) (v0 : Nat) (S0 : Mem) (tv0 : Ty 6 v0) (rv : Int32) (E : fw_hasStep  v0 S0 = some rv) : XG scr d 50 0 [(0, .inr (some (some v0)))] [] S0 (some (.inl rv)) S0 := by
  unfold fw_hasStep at E
  refine g_aload rfl rfl ?_
  refine g_getR rfl tv0 (fR_6_1 tv0) ?_
  refine g_getI rfl (fT_6_1 tv0) ?_
  rcases xif E with ⟨h1, E⟩ | ⟨h1, E⟩
  · refine g_ifgt_t rfl h1 ?_
    refine g_push rfl ?_
    refine g_goto rfl ?_
    obtain rfl := so1 E
    exact g_zret rfl b01
  · refine g_ifgt_f rfl h1 ?_
    refine g_aload rfl rfl ?_
    obtain ⟨x1, h2, E⟩ := ob E
    refine g_inv0 (dc := 1) rfl (by omega) tv0 (Nat.le_of_ble_eq_true rfl) (fun d hd => tw_nextDealer hd v0 S0 tv0 _ h2) ?_
    refine g_push rfl ?_
    rcases xif E with ⟨h3, E⟩ | ⟨h3, E⟩
    · refine g_iceq_t rfl h3 ?_
      refine g_push rfl ?_
      obtain rfl := so1 E
      exact g_zret rfl b00
    · refine g_iceq_f rfl h3 ?_
      refine g_push rfl ?_
      refine g_goto rfl ?_
      obtain rfl := so1 E
      exact g_zret rfl b01
def fw_howItStands (v0 : Nat) (S0 : Mem) : Option Int32 := if (S0 v0 4) ≤ 0 then ((fw_hasStep v0 S0).bind fun x1 => if x1 = 0 then (some 1) else (some 0)) else ((fw_isLive v0 0 S0).bind fun x2 => if x2 = 0 then (some 2) else ((fw_hasStep v0 S0).bind fun x3 => if x3 = 0 then (some 1) else (some 0)))
set_option maxRecDepth 20000 in
set_option maxHeartbeats 4000000 in
theorem tw_howItStands {scr : Nat × (Nat → Int32)} {d : Nat} (hd : 3 ≤ d) (v0 : Nat) (S0 : Mem) (tv0 : Ty 6 v0) (rv : Int32) (E : fw_howItStands  v0 S0 = some rv) : XG scr d 51 0 [(0, .inr (some (some v0)))] [] S0 (some (.inl rv)) S0 := by
  unfold fw_howItStands at E
  refine g_aload rfl rfl ?_
  refine g_getI rfl tv0 ?_
  rcases xif E with ⟨h1, E⟩ | ⟨h1, E⟩
  · refine g_ifle_t rfl h1 ?_
    refine g_aload rfl rfl ?_
    obtain ⟨x1, h2, E⟩ := ob E
    refine g_inv0 (dc := 2) rfl (by omega) tv0 (Nat.le_of_ble_eq_true rfl) (fun d hd => tw_hasStep hd v0 S0 tv0 _ h2) ?_
    rcases xif E with ⟨h3, E⟩ | ⟨h3, E⟩
    · refine g_ifeq_t rfl h3 ?_
      refine g_push rfl ?_
      obtain rfl := so1 E
      exact g_iret rfl
    · refine g_ifeq_f rfl h3 ?_
      refine g_push rfl ?_
      refine g_goto rfl ?_
      obtain rfl := so1 E
      exact g_iret rfl
  · refine g_ifle_f rfl h1 ?_
    refine g_aload rfl rfl ?_
    refine g_push rfl ?_
    obtain ⟨x2, h4, E⟩ := ob E
    refine g_inv1 (dc := 0) rfl (by omega) tv0 (Nat.le_of_ble_eq_true rfl) (fun d hd => tw_isLive hd v0 0 S0 tv0 _ h4) ?_
    rcases xif E with ⟨h5, E⟩ | ⟨h5, E⟩
    · refine g_ifne_t rfl h5 ?_
      refine g_push rfl ?_
      obtain rfl := so1 E
      exact g_iret rfl
    · refine g_ifne_f rfl h5 ?_
      refine g_aload rfl rfl ?_
      obtain ⟨x3, h6, E⟩ := ob E
      refine g_inv0 (dc := 2) rfl (by omega) tv0 (Nat.le_of_ble_eq_true rfl) (fun d hd => tw_hasStep hd v0 S0 tv0 _ h6) ?_
      rcases xif E with ⟨h7, E⟩ | ⟨h7, E⟩
      · refine g_ifeq_t rfl h7 ?_
        refine g_push rfl ?_
        obtain rfl := so1 E
        exact g_iret rfl
      · refine g_ifeq_f rfl h7 ?_
        refine g_push rfl ?_
        refine g_goto rfl ?_
        obtain rfl := so1 E
        exact g_iret rfl
def fw_liveBits_4b (k4 : Nat → Int32 → Int32 → Mem → Option Int32) (v0 : Nat) (v1 : Int32) (v2 : Int32) (S0 : Mem) : Option Int32 := if (S0 v0 4) ≤ v2 then (some v1) else (if 12 ≤ v2 then (some v1) else ((ix v2 12).bind fun i1 => if (S0 (v0 + 12 + 13 * i1) 6) = 0 then (k4 v0 (v1 ||| 0) (v2 + 1) S0) else (k4 v0 (v1 ||| (1 <<< (v2 &&& 31))) (v2 + 1) S0)))
set_option maxRecDepth 20000 in
set_option maxHeartbeats 4000000 in
theorem tw_liveBits_4b {scr : Nat × (Nat → Int32)} {d : Nat} (hd : 0 ≤ d) {k4 : Nat → Int32 → Int32 → Mem → Option Int32} (hk4 : ∀ (v0 : Nat) (v1 : Int32) (v2 : Int32) (S0 : Mem), Ty 6 v0 → ∀ (rv : Int32), k4 v0 v1 v2 S0 = some rv → XG scr d 58 4 [(0, .inr (some (some v0))), (1, .inl v1), (2, .inl v2)] [] S0 (some (.inl rv)) S0) (v0 : Nat) (v1 : Int32) (v2 : Int32) (S0 : Mem) (tv0 : Ty 6 v0) (rv : Int32) (E : fw_liveBits_4b k4 v0 v1 v2 S0 = some rv) : XG scr d 58 4 [(0, .inr (some (some v0))), (1, .inl v1), (2, .inl v2)] [] S0 (some (.inl rv)) S0 := by
  unfold fw_liveBits_4b at E
  refine g_iload rfl rfl ?_
  refine g_aload rfl rfl ?_
  refine g_getI rfl tv0 ?_
  rcases xif E with ⟨h1, E⟩ | ⟨h1, E⟩
  · refine g_icge_t rfl h1 ?_
    refine g_iload rfl rfl ?_
    obtain rfl := so1 E
    exact g_iret rfl
  · refine g_icge_f rfl h1 ?_
    refine g_iload rfl rfl ?_
    refine g_push rfl ?_
    rcases xif E with ⟨h2, E⟩ | ⟨h2, E⟩
    · refine g_icge_t rfl h2 ?_
      refine g_iload rfl rfl ?_
      obtain rfl := so1 E
      exact g_iret rfl
    · refine g_icge_f rfl h2 ?_
      refine g_iload rfl rfl ?_
      refine g_aload rfl rfl ?_
      refine g_getR rfl tv0 (fR_6_0 tv0) ?_
      refine g_iload rfl rfl ?_
      obtain ⟨i1, h3, E⟩ := ob E
      refine g_aald rfl (eK_a _ tv0.1 tv0.2).1.1 (eK_a _ tv0.1 tv0.2).1.2 (by decide) h3 (rA_a tv0 h3) ?_
      refine g_getI rfl (eT_a tv0 h3) ?_
      rcases xif E with ⟨h4, E⟩ | ⟨h4, E⟩
      · refine g_ifeq_t rfl h4 ?_
        refine g_push rfl ?_
        refine g_ior rfl ?_
        refine g_istore (L2 := [(1, .inl (v1 ||| 0)), (0, .inr (some (some v0))), (2, .inl v2)]) rfl rfl ?_
        refine g_iinc (L2 := [(2, .inl (v2 + 1)), (1, .inl (v1 ||| 0)), (0, .inr (some (some v0)))]) rfl rfl rfl ?_
        refine g_goto rfl ?_
        exact g_loc (lsub_cons rfl (lsub_cons rfl (lsub_cons rfl lsub_nil))) (hk4 v0 (v1 ||| 0) (v2 + 1) S0 tv0 _ E)
      · refine g_ifeq_f rfl h4 ?_
        refine g_push rfl ?_
        refine g_iload rfl rfl ?_
        refine g_ishl rfl ?_
        refine g_goto rfl ?_
        refine g_ior rfl ?_
        refine g_istore (L2 := [(1, .inl (v1 ||| (1 <<< (v2 &&& 31)))), (0, .inr (some (some v0))), (2, .inl v2)]) rfl rfl ?_
        refine g_iinc (L2 := [(2, .inl (v2 + 1)), (1, .inl (v1 ||| (1 <<< (v2 &&& 31)))), (0, .inr (some (some v0)))]) rfl rfl rfl ?_
        refine g_goto rfl ?_
        exact g_loc (lsub_cons rfl (lsub_cons rfl (lsub_cons rfl lsub_nil))) (hk4 v0 (v1 ||| (1 <<< (v2 &&& 31))) (v2 + 1) S0 tv0 _ E)
def fw_liveBits_4  : Nat → Nat → Int32 → Int32 → Mem → Option Int32
  | 0 => fun _ _ _ _ => none
  | n + 1 => fw_liveBits_4b  (fw_liveBits_4  n)
set_option maxRecDepth 20000 in
set_option maxHeartbeats 4000000 in
theorem tw_liveBits_4 {scr : Nat × (Nat → Int32)} {d : Nat} (hd : 0 ≤ d)  : ∀ (n : Nat) (v0 : Nat) (v1 : Int32) (v2 : Int32) (S0 : Mem), Ty 6 v0 → ∀ (rv : Int32), fw_liveBits_4  n v0 v1 v2 S0 = some rv → XG scr d 58 4 [(0, .inr (some (some v0))), (1, .inl v1), (2, .inl v2)] [] S0 (some (.inl rv)) S0
  | 0, v0, v1, v2, S0, tv0, rv, E => nn E
  | n + 1, v0, v1, v2, S0, tv0, rv, E => tw_liveBits_4b hd  (tw_liveBits_4 hd  n) v0 v1 v2 S0 tv0 rv E
def fw_liveBits (v0 : Nat) (S0 : Mem) : Option Int32 := fw_liveBits_4 LF v0 0 0 S0
set_option maxRecDepth 20000 in
set_option maxHeartbeats 4000000 in
theorem tw_liveBits {scr : Nat × (Nat → Int32)} {d : Nat} (hd : 0 ≤ d) (v0 : Nat) (S0 : Mem) (tv0 : Ty 6 v0) (rv : Int32) (E : fw_liveBits  v0 S0 = some rv) : XG scr d 58 0 [(0, .inr (some (some v0)))] [] S0 (some (.inl rv)) S0 := by
  unfold fw_liveBits at E
  refine g_push rfl ?_
  refine g_istore (L2 := [(1, .inl 0), (0, .inr (some (some v0)))]) rfl rfl ?_
  refine g_push rfl ?_
  refine g_istore (L2 := [(2, .inl 0), (1, .inl 0), (0, .inr (some (some v0)))]) rfl rfl ?_
  exact g_loc (lsub_cons rfl (lsub_cons rfl (lsub_cons rfl lsub_nil))) (tw_liveBits_4 hd LF v0 0 0 S0 tv0 _ E)
def fw_mailed_4b (k4 : Nat → Int32 → Int32 → Mem → Option Int32) (v0 : Nat) (v1 : Int32) (v2 : Int32) (S0 : Mem) : Option Int32 := if (S0 v0 4) ≤ v2 then (some v1) else (if 12 ≤ v2 then (some v1) else ((ix v2 12).bind fun i1 => k4 v0 (v1 + (S0 (v0 + 12 + 13 * i1 + 3) 2)) (v2 + 1) S0))
set_option maxRecDepth 20000 in
set_option maxHeartbeats 4000000 in
theorem tw_mailed_4b {scr : Nat × (Nat → Int32)} {d : Nat} (hd : 0 ≤ d) {k4 : Nat → Int32 → Int32 → Mem → Option Int32} (hk4 : ∀ (v0 : Nat) (v1 : Int32) (v2 : Int32) (S0 : Mem), Ty 6 v0 → ∀ (rv : Int32), k4 v0 v1 v2 S0 = some rv → XG scr d 59 4 [(0, .inr (some (some v0))), (1, .inl v1), (2, .inl v2)] [] S0 (some (.inl rv)) S0) (v0 : Nat) (v1 : Int32) (v2 : Int32) (S0 : Mem) (tv0 : Ty 6 v0) (rv : Int32) (E : fw_mailed_4b k4 v0 v1 v2 S0 = some rv) : XG scr d 59 4 [(0, .inr (some (some v0))), (1, .inl v1), (2, .inl v2)] [] S0 (some (.inl rv)) S0 := by
  unfold fw_mailed_4b at E
  refine g_iload rfl rfl ?_
  refine g_aload rfl rfl ?_
  refine g_getI rfl tv0 ?_
  rcases xif E with ⟨h1, E⟩ | ⟨h1, E⟩
  · refine g_icge_t rfl h1 ?_
    refine g_iload rfl rfl ?_
    obtain rfl := so1 E
    exact g_iret rfl
  · refine g_icge_f rfl h1 ?_
    refine g_iload rfl rfl ?_
    refine g_push rfl ?_
    rcases xif E with ⟨h2, E⟩ | ⟨h2, E⟩
    · refine g_icge_t rfl h2 ?_
      refine g_iload rfl rfl ?_
      obtain rfl := so1 E
      exact g_iret rfl
    · refine g_icge_f rfl h2 ?_
      refine g_iload rfl rfl ?_
      refine g_aload rfl rfl ?_
      refine g_getR rfl tv0 (fR_6_0 tv0) ?_
      refine g_iload rfl rfl ?_
      obtain ⟨i1, h3, E⟩ := ob E
      refine g_aald rfl (eK_a _ tv0.1 tv0.2).1.1 (eK_a _ tv0.1 tv0.2).1.2 (by decide) h3 (rA_a tv0 h3) ?_
      refine g_getR rfl (eT_a tv0 h3) (fR_0_8 (eT_a tv0 h3)) ?_
      refine g_getI rfl (fT_0_8 (eT_a tv0 h3)) ?_
      refine g_iadd rfl ?_
      refine g_istore (L2 := [(1, .inl (v1 + (S0 (v0 + 12 + 13 * i1 + 3) 2))), (0, .inr (some (some v0))), (2, .inl v2)]) rfl rfl ?_
      refine g_iinc (L2 := [(2, .inl (v2 + 1)), (1, .inl (v1 + (S0 (v0 + 12 + 13 * i1 + 3) 2))), (0, .inr (some (some v0)))]) rfl rfl rfl ?_
      refine g_goto rfl ?_
      exact g_loc (lsub_cons rfl (lsub_cons rfl (lsub_cons rfl lsub_nil))) (hk4 v0 (v1 + (S0 (v0 + 12 + 13 * i1 + 3) 2)) (v2 + 1) S0 tv0 _ E)
def fw_mailed_4  : Nat → Nat → Int32 → Int32 → Mem → Option Int32
  | 0 => fun _ _ _ _ => none
  | n + 1 => fw_mailed_4b  (fw_mailed_4  n)
set_option maxRecDepth 20000 in
set_option maxHeartbeats 4000000 in
theorem tw_mailed_4 {scr : Nat × (Nat → Int32)} {d : Nat} (hd : 0 ≤ d)  : ∀ (n : Nat) (v0 : Nat) (v1 : Int32) (v2 : Int32) (S0 : Mem), Ty 6 v0 → ∀ (rv : Int32), fw_mailed_4  n v0 v1 v2 S0 = some rv → XG scr d 59 4 [(0, .inr (some (some v0))), (1, .inl v1), (2, .inl v2)] [] S0 (some (.inl rv)) S0
  | 0, v0, v1, v2, S0, tv0, rv, E => nn E
  | n + 1, v0, v1, v2, S0, tv0, rv, E => tw_mailed_4b hd  (tw_mailed_4 hd  n) v0 v1 v2 S0 tv0 rv E
def fw_mailed (v0 : Nat) (S0 : Mem) : Option Int32 := fw_mailed_4 LF v0 0 0 S0
set_option maxRecDepth 20000 in
set_option maxHeartbeats 4000000 in
theorem tw_mailed {scr : Nat × (Nat → Int32)} {d : Nat} (hd : 0 ≤ d) (v0 : Nat) (S0 : Mem) (tv0 : Ty 6 v0) (rv : Int32) (E : fw_mailed  v0 S0 = some rv) : XG scr d 59 0 [(0, .inr (some (some v0)))] [] S0 (some (.inl rv)) S0 := by
  unfold fw_mailed at E
  refine g_push rfl ?_
  refine g_istore (L2 := [(1, .inl 0), (0, .inr (some (some v0)))]) rfl rfl ?_
  refine g_push rfl ?_
  refine g_istore (L2 := [(2, .inl 0), (1, .inl 0), (0, .inr (some (some v0)))]) rfl rfl ?_
  exact g_loc (lsub_cons rfl (lsub_cons rfl (lsub_cons rfl lsub_nil))) (tw_mailed_4 hd LF v0 0 0 S0 tv0 _ E)
def fw_step (v0 : Nat) (S0 : Mem) : Option (Int32 × Mem) := (fw_nextDealer v0 S0).bind fun x1 => (fw_isActor v0 x1 S0).bind fun x2 => if x2 = 0 then (bd (fw_fireTimer v0 S0) fun x3 S1 => (bol x3).bind fun z1 => some (z1, S1)) else ((ix x1 12).bind fun i1 => (fp_firstAt (v0 + 12 + 13 * i1 + 3) 0 S0).bind fun x4 => (fp_secondAt (v0 + 12 + 13 * i1 + 3) 0 S0).bind fun x5 => (fp_removeFirst (v0 + 12 + 13 * i1 + 3) S0).bind fun S2 => (some (up2 S2 v0 5 x1)).bind fun S3 => (some (up2 S3 v0 7 ((S3 v0 7) + 1))).bind fun S4 => (fp_addDroppingOldest (v0 + 6) x1 x5 S4).bind fun S5 => bd (fw_deal v0 x1 x4 x5 S5) fun x6 S6 => if x6 = 0 then (some (1, S6)) else ((fw_fail v0 x1 x6 S6).bind fun S7 => some (1, S7)))
set_option maxRecDepth 20000 in
set_option maxHeartbeats 4000000 in
theorem tw_step {scr : Nat × (Nat → Int32)} {d : Nat} (hd : 5 ≤ d) (v0 : Nat) (S0 : Mem) (tv0 : Ty 6 v0) (rv : Int32) (SR : Mem) (E : fw_step  v0 S0 = some (rv, SR)) : XG scr d 65 0 [(0, .inr (some (some v0)))] [] S0 (some (.inl rv)) SR := by
  unfold fw_step at E
  refine g_aload rfl rfl ?_
  obtain ⟨x1, h1, E⟩ := ob E
  refine g_inv0 (dc := 1) rfl (by omega) tv0 (Nat.le_of_ble_eq_true rfl) (fun d hd => tw_nextDealer hd v0 S0 tv0 _ h1) ?_
  refine g_istore (L2 := [(1, .inl x1), (0, .inr (some (some v0)))]) rfl rfl ?_
  refine g_aload rfl rfl ?_
  refine g_iload rfl rfl ?_
  obtain ⟨x2, h2, E⟩ := ob E
  refine g_inv1 (dc := 0) rfl (by omega) tv0 (Nat.le_of_ble_eq_true rfl) (fun d hd => tw_isActor hd v0 x1 S0 tv0 _ h2) ?_
  rcases xif E with ⟨h3, E⟩ | ⟨h3, E⟩
  · refine g_ifne_t rfl h3 ?_
    refine g_aload rfl rfl ?_
    obtain ⟨x3, S1, h4, E⟩ := ob2 E
    refine g_inv0 (dc := 2) rfl (by omega) tv0 (Nat.le_of_ble_eq_true rfl) (fun d hd => tw_fireTimer hd v0 S0 tv0 _ _ h4) ?_
    obtain ⟨z1, h5, E⟩ := ob E
    obtain ⟨rfl, rfl⟩ := so2 E
    have h52 := (bol_of h5).2
    rw [h52]
    exact g_zret rfl (bol_of h5).1
  · refine g_ifne_f rfl h3 ?_
    refine g_aload rfl rfl ?_
    refine g_getR rfl tv0 (fR_6_0 tv0) ?_
    refine g_iload rfl rfl ?_
    obtain ⟨i1, h6, E⟩ := ob E
    refine g_aald rfl (eK_a _ tv0.1 tv0.2).1.1 (eK_a _ tv0.1 tv0.2).1.2 (by decide) h6 (rA_a tv0 h6) ?_
    refine g_getR rfl (eT_a tv0 h6) (fR_0_8 (eT_a tv0 h6)) ?_
    refine g_astore (L2 := [(2, .inr (some (some (v0 + 12 + 13 * i1 + 3)))), (1, .inl x1), (0, .inr (some (some v0)))]) rfl rfl ?_
    refine g_aload rfl rfl ?_
    refine g_push rfl ?_
    obtain ⟨x4, h7, E⟩ := ob E
    refine g_inv1 (dc := 0) rfl (by omega) (fT_0_8 (eT_a tv0 h6)) (Nat.le_of_ble_eq_true rfl) (fun d hd => tp_firstAt hd (v0 + 12 + 13 * i1 + 3) 0 S0 (fT_0_8 (eT_a tv0 h6)) _ h7) ?_
    refine g_istore (L2 := [(3, .inl x4), (2, .inr (some (some (v0 + 12 + 13 * i1 + 3)))), (1, .inl x1), (0, .inr (some (some v0)))]) rfl rfl ?_
    refine g_aload rfl rfl ?_
    refine g_push rfl ?_
    obtain ⟨x5, h8, E⟩ := ob E
    refine g_inv1 (dc := 0) rfl (by omega) (fT_0_8 (eT_a tv0 h6)) (Nat.le_of_ble_eq_true rfl) (fun d hd => tp_secondAt hd (v0 + 12 + 13 * i1 + 3) 0 S0 (fT_0_8 (eT_a tv0 h6)) _ h8) ?_
    refine g_istore (L2 := [(4, .inl x5), (3, .inl x4), (2, .inr (some (some (v0 + 12 + 13 * i1 + 3)))), (1, .inl x1), (0, .inr (some (some v0)))]) rfl rfl ?_
    refine g_aload rfl rfl ?_
    obtain ⟨S2, h9, E⟩ := ob E
    refine g_inv0 (dc := 0) rfl (by omega) (fT_0_8 (eT_a tv0 h6)) (Nat.le_of_ble_eq_true rfl) (fun d hd => tp_removeFirst hd (v0 + 12 + 13 * i1 + 3) S0 (fT_0_8 (eT_a tv0 h6)) _ h9) ?_
    refine g_aload rfl rfl ?_
    refine g_iload rfl rfl ?_
    obtain ⟨S3, hS3, E⟩ := ob E
    refine g_putI rfl tv0 hS3 ?_
    refine g_aload rfl rfl ?_
    refine g_dup rfl ?_
    refine g_getI rfl tv0 ?_
    refine g_push rfl ?_
    refine g_iadd rfl ?_
    obtain ⟨S4, hS4, E⟩ := ob E
    refine g_putI rfl tv0 hS4 ?_
    refine g_aload rfl rfl ?_
    refine g_getR rfl tv0 (fR_6_2 tv0) ?_
    refine g_iload rfl rfl ?_
    refine g_iload rfl rfl ?_
    obtain ⟨S5, h10, E⟩ := ob E
    refine g_inv2 (dc := 1) rfl (by omega) (fT_6_2 tv0) (Nat.le_of_ble_eq_true rfl) (fun d hd => tp_addDroppingOldest hd (v0 + 6) x1 x5 S4 (fT_6_2 tv0) _ h10) ?_
    refine g_aload rfl rfl ?_
    refine g_iload rfl rfl ?_
    refine g_iload rfl rfl ?_
    refine g_iload rfl rfl ?_
    obtain ⟨x6, S6, h11, E⟩ := ob2 E
    refine g_inv3 (dc := 4) rfl (by omega) tv0 (Nat.le_of_ble_eq_true rfl) (fun d hd => tw_deal hd v0 x1 x4 x5 S5 tv0 _ _ h11) ?_
    refine g_istore (L2 := [(5, .inl x6), (4, .inl x5), (3, .inl x4), (2, .inr (some (some (v0 + 12 + 13 * i1 + 3)))), (1, .inl x1), (0, .inr (some (some v0)))]) rfl rfl ?_
    refine g_iload rfl rfl ?_
    rcases xif E with ⟨h12, E⟩ | ⟨h12, E⟩
    · refine g_ifeq_t rfl h12 ?_
      refine g_push rfl ?_
      obtain ⟨rfl, rfl⟩ := so2 E
      exact g_zret rfl b01
    · refine g_ifeq_f rfl h12 ?_
      refine g_aload rfl rfl ?_
      refine g_iload rfl rfl ?_
      refine g_iload rfl rfl ?_
      obtain ⟨S7, h13, E⟩ := ob E
      refine g_inv2 (dc := 4) rfl (by omega) tv0 (Nat.le_of_ble_eq_true rfl) (fun d hd => tw_fail hd v0 x1 x6 S6 tv0 _ h13) ?_
      refine g_push rfl ?_
      obtain ⟨rfl, rfl⟩ := so2 E
      exact g_zret rfl b01
def fw_makeSteps_10b (k10 : Nat → Int32 → Int32 → Mem → Option (Int32 × Mem)) (v0 : Nat) (v1 : Int32) (v2 : Int32) (S0 : Mem) : Option (Int32 × Mem) := if v1 ≤ v2 then (some (v2, S0)) else (if (S0 v0 10) = 0 then (bd (fw_step v0 S0) fun x1 S1 => (fw_howItStands v0 S1).bind fun x2 => (some (up2 S1 v0 10 x2)).bind fun S2 => k10 v0 v1 (v2 + 1) S2) else (some (v2, S0)))
set_option maxRecDepth 20000 in
set_option maxHeartbeats 4000000 in
theorem tw_makeSteps_10b {scr : Nat × (Nat → Int32)} {d : Nat} (hd : 6 ≤ d) {k10 : Nat → Int32 → Int32 → Mem → Option (Int32 × Mem)} (hk10 : ∀ (v0 : Nat) (v1 : Int32) (v2 : Int32) (S0 : Mem), Ty 6 v0 → ∀ (rv : Int32) (SR : Mem), k10 v0 v1 v2 S0 = some (rv, SR) → XG scr d 60 10 [(0, .inr (some (some v0))), (1, .inl v1), (2, .inl v2)] [] S0 (some (.inl rv)) SR) (v0 : Nat) (v1 : Int32) (v2 : Int32) (S0 : Mem) (tv0 : Ty 6 v0) (rv : Int32) (SR : Mem) (E : fw_makeSteps_10b k10 v0 v1 v2 S0 = some (rv, SR)) : XG scr d 60 10 [(0, .inr (some (some v0))), (1, .inl v1), (2, .inl v2)] [] S0 (some (.inl rv)) SR := by
  unfold fw_makeSteps_10b at E
  refine g_iload rfl rfl ?_
  refine g_iload rfl rfl ?_
  rcases xif E with ⟨h1, E⟩ | ⟨h1, E⟩
  · refine g_icge_t rfl h1 ?_
    refine g_iload rfl rfl ?_
    obtain ⟨rfl, rfl⟩ := so2 E
    exact g_iret rfl
  · refine g_icge_f rfl h1 ?_
    refine g_aload rfl rfl ?_
    refine g_getI rfl tv0 ?_
    rcases xif E with ⟨h2, E⟩ | ⟨h2, E⟩
    · refine g_ifne_t rfl h2 ?_
      refine g_aload rfl rfl ?_
      obtain ⟨x1, S1, h3, E⟩ := ob2 E
      refine g_inv0 (dc := 5) rfl (by omega) tv0 (Nat.le_of_ble_eq_true rfl) (fun d hd => tw_step hd v0 S0 tv0 _ _ h3) ?_
      refine g_pop rfl ?_
      refine g_iinc (L2 := [(2, .inl (v2 + 1)), (0, .inr (some (some v0))), (1, .inl v1)]) rfl rfl rfl ?_
      refine g_aload rfl rfl ?_
      refine g_aload rfl rfl ?_
      obtain ⟨x2, h4, E⟩ := ob E
      refine g_inv0 (dc := 3) rfl (by omega) tv0 (Nat.le_of_ble_eq_true rfl) (fun d hd => tw_howItStands hd v0 S1 tv0 _ h4) ?_
      obtain ⟨S2, hS2, E⟩ := ob E
      refine g_putI rfl tv0 hS2 ?_
      refine g_goto rfl ?_
      exact g_loc (lsub_cons rfl (lsub_cons rfl (lsub_cons rfl lsub_nil))) (hk10 v0 v1 (v2 + 1) S2 tv0 _ _ E)
    · refine g_ifne_f rfl h2 ?_
      refine g_iload rfl rfl ?_
      obtain ⟨rfl, rfl⟩ := so2 E
      exact g_iret rfl
def fw_makeSteps_10  : Nat → Nat → Int32 → Int32 → Mem → Option (Int32 × Mem)
  | 0 => fun _ _ _ _ => none
  | n + 1 => fw_makeSteps_10b  (fw_makeSteps_10  n)
set_option maxRecDepth 20000 in
set_option maxHeartbeats 4000000 in
theorem tw_makeSteps_10 {scr : Nat × (Nat → Int32)} {d : Nat} (hd : 6 ≤ d)  : ∀ (n : Nat) (v0 : Nat) (v1 : Int32) (v2 : Int32) (S0 : Mem), Ty 6 v0 → ∀ (rv : Int32) (SR : Mem), fw_makeSteps_10  n v0 v1 v2 S0 = some (rv, SR) → XG scr d 60 10 [(0, .inr (some (some v0))), (1, .inl v1), (2, .inl v2)] [] S0 (some (.inl rv)) SR
  | 0, v0, v1, v2, S0, tv0, rv, SR, E => nn E
  | n + 1, v0, v1, v2, S0, tv0, rv, SR, E => tw_makeSteps_10b hd  (tw_makeSteps_10 hd  n) v0 v1 v2 S0 tv0 rv SR E
def fw_makeSteps (v0 : Nat) (v1 : Int32) (S0 : Mem) : Option (Int32 × Mem) := (fw_howItStands v0 S0).bind fun x1 => (some (up2 S0 v0 10 x1)).bind fun S1 => fw_makeSteps_10 LF v0 v1 0 S1
set_option maxRecDepth 20000 in
set_option maxHeartbeats 4000000 in
theorem tw_makeSteps {scr : Nat × (Nat → Int32)} {d : Nat} (hd : 6 ≤ d) (v0 : Nat) (v1 : Int32) (S0 : Mem) (tv0 : Ty 6 v0) (rv : Int32) (SR : Mem) (E : fw_makeSteps  v0 v1 S0 = some (rv, SR)) : XG scr d 60 0 [(0, .inr (some (some v0))), (1, .inl v1)] [] S0 (some (.inl rv)) SR := by
  unfold fw_makeSteps at E
  refine g_push rfl ?_
  refine g_istore (L2 := [(2, .inl 0), (0, .inr (some (some v0))), (1, .inl v1)]) rfl rfl ?_
  refine g_aload rfl rfl ?_
  refine g_aload rfl rfl ?_
  obtain ⟨x1, h1, E⟩ := ob E
  refine g_inv0 (dc := 3) rfl (by omega) tv0 (Nat.le_of_ble_eq_true rfl) (fun d hd => tw_howItStands hd v0 S0 tv0 _ h1) ?_
  obtain ⟨S1, hS1, E⟩ := ob E
  refine g_putI rfl tv0 hS1 ?_
  exact g_loc (lsub_cons rfl (lsub_cons rfl (lsub_cons rfl lsub_nil))) (tw_makeSteps_10 hd LF v0 v1 0 S1 tv0 _ _ E)
def fx_actor (v1 : Int32) (v2 : Int32) (v3 : Int32) (S0 : Mem) : Option (Int32 × Mem) := if 0 ≤ v3 then (bd (fw_addActor 1 v1 v2 (v3 / 1000) (irm (v3 / 100) 10) (irm v3 100) S0) fun x1 S1 => some (x1, S1)) else (some ((-1), S0))
set_option maxRecDepth 20000 in
set_option maxHeartbeats 4000000 in
theorem tx_actor {scr : Nat × (Nat → Int32)} {d : Nat} (hd : 4 ≤ d) (v1 : Int32) (v2 : Int32) (v3 : Int32) (S0 : Mem)  (rv : Int32) (SR : Mem) (E : fx_actor  v1 v2 v3 S0 = some (rv, SR)) : XG scr d 68 0 [(0, .inr (some (some 0))), (1, .inl v1), (2, .inl v2), (3, .inl v3)] [] S0 (some (.inl rv)) SR := by
  unfold fx_actor at E
  refine g_iload rfl rfl ?_
  rcases xif E with ⟨h1, E⟩ | ⟨h1, E⟩
  · refine g_ifge_t rfl h1 ?_
    refine g_aload rfl rfl ?_
    refine g_getR rfl ty_x (fR_7_0 ty_x) ?_
    refine g_iload rfl rfl ?_
    refine g_iload rfl rfl ?_
    refine g_iload rfl rfl ?_
    refine g_push rfl ?_
    refine g_idiv rfl (by decide) ?_
    refine g_iload rfl rfl ?_
    refine g_push rfl ?_
    refine g_idiv rfl (by decide) ?_
    refine g_push rfl ?_
    refine g_irem rfl (by decide) ?_
    refine g_iload rfl rfl ?_
    refine g_push rfl ?_
    refine g_irem rfl (by decide) ?_
    obtain ⟨x1, S1, h2, E⟩ := ob2 E
    refine g_inv5 (dc := 3) rfl (by omega) fT_7_0 (Nat.le_of_ble_eq_true rfl) (fun d hd => tw_addActor hd 1 v1 v2 (v3 / 1000) (irm (v3 / 100) 10) (irm v3 100) S0 fT_7_0 _ _ h2) ?_
    obtain ⟨rfl, rfl⟩ := so2 E
    exact g_iret rfl
  · refine g_ifge_f rfl h1 ?_
    refine g_push rfl ?_
    obtain ⟨rfl, rfl⟩ := so2 E
    exact g_iret rfl
def fx_back_23b (k23 : Int32 → Mem → Option (Int32 × Mem)) (v1 : Int32) (S0 : Mem) : Option (Int32 × Mem) := if 6 ≤ v1 then (some (S0 1 4, S0)) else ((ix v1 6).bind fun i1 => if (S0 (679 + 3 * i1) 1) = 1 then ((ix v1 6).bind fun i2 => (fw_isActor 1 (S0 (679 + 3 * i2) 2) S0).bind fun x1 => if x1 = 0 then ((ix v1 6).bind fun i3 => (some (up2 S0 (679 + 3 * i3) 1 0)).bind fun S1 => k23 (v1 + 1) S1) else (k23 (v1 + 1) S0)) else (k23 (v1 + 1) S0))
set_option maxRecDepth 20000 in
set_option maxHeartbeats 4000000 in
theorem tx_back_23b {scr : Nat × (Nat → Int32)} {d : Nat} (hd : 3 ≤ d) {k23 : Int32 → Mem → Option (Int32 × Mem)} (hk23 : ∀ (v1 : Int32) (S0 : Mem), ∀ (rv : Int32) (SR : Mem), k23 v1 S0 = some (rv, SR) → XG scr d 69 23 [(0, .inr (some (some 0))), (1, .inl v1)] [] S0 (some (.inl rv)) SR) (v1 : Int32) (S0 : Mem)  (rv : Int32) (SR : Mem) (E : fx_back_23b k23 v1 S0 = some (rv, SR)) : XG scr d 69 23 [(0, .inr (some (some 0))), (1, .inl v1)] [] S0 (some (.inl rv)) SR := by
  unfold fx_back_23b at E
  refine g_iload rfl rfl ?_
  refine g_aload rfl rfl ?_
  refine g_getR rfl ty_x (fR_7_5 ty_x) ?_
  refine g_lenO rfl (by decide) (show K0 678 = .inr (2, 6) by decide +kernel) (by decide) ?_
  rcases xif E with ⟨h1, E⟩ | ⟨h1, E⟩
  · refine g_icge_t rfl h1 ?_
    refine g_aload rfl rfl ?_
    refine g_getR rfl ty_x (fR_7_0 ty_x) ?_
    refine g_getI rfl fT_7_0 ?_
    obtain ⟨rfl, rfl⟩ := so2 E
    exact g_iret rfl
  · refine g_icge_f rfl h1 ?_
    refine g_aload rfl rfl ?_
    refine g_getR rfl ty_x (fR_7_5 ty_x) ?_
    refine g_iload rfl rfl ?_
    obtain ⟨i1, h2, E⟩ := ob E
    refine g_aald rfl (by decide) (show K0 678 = .inr (2, 6) by decide +kernel) (by decide) h2 (rA_h h2) ?_
    refine g_getI rfl (eT_h h2) ?_
    refine g_push rfl ?_
    rcases xif E with ⟨h3, E⟩ | ⟨h3, E⟩
    · refine g_icne_t rfl h3 ?_
      refine g_aload rfl rfl ?_
      refine g_getR rfl ty_x (fR_7_0 ty_x) ?_
      refine g_aload rfl rfl ?_
      refine g_getR rfl ty_x (fR_7_5 ty_x) ?_
      refine g_iload rfl rfl ?_
      obtain ⟨i2, h4, E⟩ := ob E
      refine g_aald rfl (by decide) (show K0 678 = .inr (2, 6) by decide +kernel) (by decide) h4 (rA_h h4) ?_
      refine g_getI rfl (eT_h h4) ?_
      obtain ⟨x1, h5, E⟩ := ob E
      refine g_inv1 (dc := 0) rfl (by omega) fT_7_0 (Nat.le_of_ble_eq_true rfl) (fun d hd => tw_isActor hd 1 (S0 (679 + 3 * i2) 2) S0 fT_7_0 _ h5) ?_
      rcases xif E with ⟨h6, E⟩ | ⟨h6, E⟩
      · refine g_ifne_t rfl h6 ?_
        refine g_aload rfl rfl ?_
        refine g_getR rfl ty_x (fR_7_5 ty_x) ?_
        refine g_iload rfl rfl ?_
        obtain ⟨i3, h7, E⟩ := ob E
        refine g_aald rfl (by decide) (show K0 678 = .inr (2, 6) by decide +kernel) (by decide) h7 (rA_h h7) ?_
        refine g_push rfl ?_
        obtain ⟨S1, hS1, E⟩ := ob E
        refine g_putI rfl (eT_h h7) hS1 ?_
        refine g_iinc (L2 := [(1, .inl (v1 + 1)), (0, .inr (some (some 0)))]) rfl rfl rfl ?_
        refine g_goto rfl ?_
        exact g_loc (lsub_cons rfl (lsub_cons rfl lsub_nil)) (hk23 (v1 + 1) S1 _ _ E)
      · refine g_ifne_f rfl h6 ?_
        refine g_iinc (L2 := [(1, .inl (v1 + 1)), (0, .inr (some (some 0)))]) rfl rfl rfl ?_
        refine g_goto rfl ?_
        exact g_loc (lsub_cons rfl (lsub_cons rfl lsub_nil)) (hk23 (v1 + 1) S0 _ _ E)
    · refine g_icne_f rfl h3 ?_
      refine g_iinc (L2 := [(1, .inl (v1 + 1)), (0, .inr (some (some 0)))]) rfl rfl rfl ?_
      refine g_goto rfl ?_
      exact g_loc (lsub_cons rfl (lsub_cons rfl lsub_nil)) (hk23 (v1 + 1) S0 _ _ E)
def fx_back_23  : Nat → Int32 → Mem → Option (Int32 × Mem)
  | 0 => fun _ _ => none
  | n + 1 => fx_back_23b  (fx_back_23  n)
set_option maxRecDepth 20000 in
set_option maxHeartbeats 4000000 in
theorem tx_back_23 {scr : Nat × (Nat → Int32)} {d : Nat} (hd : 3 ≤ d)  : ∀ (n : Nat) (v1 : Int32) (S0 : Mem), ∀ (rv : Int32) (SR : Mem), fx_back_23  n v1 S0 = some (rv, SR) → XG scr d 69 23 [(0, .inr (some (some 0))), (1, .inl v1)] [] S0 (some (.inl rv)) SR
  | 0, v1, S0, rv, SR, E => nn E
  | n + 1, v1, S0, rv, SR, E => tx_back_23b hd  (tx_back_23 hd  n) v1 S0  rv SR E
def fx_back  (S0 : Mem) : Option (Int32 × Mem) := if (S0 0 6) = 0 then (some ((-5), S0)) else ((fw_copyFrom 1 337 S0).bind fun S1 => fx_back_23 LF 0 S1)
set_option maxRecDepth 20000 in
set_option maxHeartbeats 4000000 in
theorem tx_back {scr : Nat × (Nat → Int32)} {d : Nat} (hd : 3 ≤ d)  (S0 : Mem)  (rv : Int32) (SR : Mem) (E : fx_back   S0 = some (rv, SR)) : XG scr d 69 0 [(0, .inr (some (some 0)))] [] S0 (some (.inl rv)) SR := by
  unfold fx_back at E
  refine g_aload rfl rfl ?_
  refine g_getI rfl ty_x ?_
  rcases xif E with ⟨h1, E⟩ | ⟨h1, E⟩
  · refine g_ifne_t rfl h1 ?_
    refine g_push rfl ?_
    obtain ⟨rfl, rfl⟩ := so2 E
    exact g_iret rfl
  · refine g_ifne_f rfl h1 ?_
    refine g_aload rfl rfl ?_
    refine g_getR rfl ty_x (fR_7_0 ty_x) ?_
    refine g_aload rfl rfl ?_
    refine g_getR rfl ty_x (fR_7_2 ty_x) ?_
    obtain ⟨S1, h2, E⟩ := ob E
    refine g_inv1 (dc := 2) rfl (by omega) fT_7_0 (Nat.le_of_ble_eq_true rfl) (fun d hd => tw_copyFrom hd 1 337 S0 fT_7_0 fT_7_2 _ h2) ?_
    refine g_push rfl ?_
    refine g_istore (L2 := [(1, .inl 0), (0, .inr (some (some 0)))]) rfl rfl ?_
    exact g_loc (lsub_cons rfl (lsub_cons rfl lsub_nil)) (tx_back_23 hd LF 0 S1 _ _ E)
def fj_bitCount (v0 : Int32) (S0 : Mem) : Option Int32 := some ((((((((v0 - ((iush v0 1) &&& 1431655765)) &&& 858993459) + ((iush (v0 - ((iush v0 1) &&& 1431655765)) 2) &&& 858993459)) + (iush (((v0 - ((iush v0 1) &&& 1431655765)) &&& 858993459) + ((iush (v0 - ((iush v0 1) &&& 1431655765)) 2) &&& 858993459)) 4)) &&& 252645135) + (iush (((((v0 - ((iush v0 1) &&& 1431655765)) &&& 858993459) + ((iush (v0 - ((iush v0 1) &&& 1431655765)) 2) &&& 858993459)) + (iush (((v0 - ((iush v0 1) &&& 1431655765)) &&& 858993459) + ((iush (v0 - ((iush v0 1) &&& 1431655765)) 2) &&& 858993459)) 4)) &&& 252645135) 8)) + (iush ((((((v0 - ((iush v0 1) &&& 1431655765)) &&& 858993459) + ((iush (v0 - ((iush v0 1) &&& 1431655765)) 2) &&& 858993459)) + (iush (((v0 - ((iush v0 1) &&& 1431655765)) &&& 858993459) + ((iush (v0 - ((iush v0 1) &&& 1431655765)) 2) &&& 858993459)) 4)) &&& 252645135) + (iush (((((v0 - ((iush v0 1) &&& 1431655765)) &&& 858993459) + ((iush (v0 - ((iush v0 1) &&& 1431655765)) 2) &&& 858993459)) + (iush (((v0 - ((iush v0 1) &&& 1431655765)) &&& 858993459) + ((iush (v0 - ((iush v0 1) &&& 1431655765)) 2) &&& 858993459)) 4)) &&& 252645135) 8)) 16)) &&& 63)
set_option maxRecDepth 20000 in
set_option maxHeartbeats 4000000 in
theorem tj_bitCount {scr : Nat × (Nat → Int32)} {d : Nat} (hd : 0 ≤ d) (v0 : Int32) (S0 : Mem)  (rv : Int32) (E : fj_bitCount  v0 S0 = some rv) : XG scr d 189 0 [(0, .inl v0)] [] S0 (some (.inl rv)) S0 := by
  unfold fj_bitCount at E
  refine g_iload rfl rfl ?_
  refine g_iload rfl rfl ?_
  refine g_push rfl ?_
  refine g_iushr rfl ?_
  refine g_push rfl ?_
  refine g_iand rfl ?_
  refine g_isub rfl ?_
  refine g_istore (L2 := [(0, .inl (v0 - ((iush v0 1) &&& 1431655765)))]) rfl rfl ?_
  refine g_iload rfl rfl ?_
  refine g_push rfl ?_
  refine g_iand rfl ?_
  refine g_iload rfl rfl ?_
  refine g_push rfl ?_
  refine g_iushr rfl ?_
  refine g_push rfl ?_
  refine g_iand rfl ?_
  refine g_iadd rfl ?_
  refine g_istore (L2 := [(0, .inl (((v0 - ((iush v0 1) &&& 1431655765)) &&& 858993459) + ((iush (v0 - ((iush v0 1) &&& 1431655765)) 2) &&& 858993459)))]) rfl rfl ?_
  refine g_iload rfl rfl ?_
  refine g_iload rfl rfl ?_
  refine g_push rfl ?_
  refine g_iushr rfl ?_
  refine g_iadd rfl ?_
  refine g_push rfl ?_
  refine g_iand rfl ?_
  refine g_istore (L2 := [(0, .inl (((((v0 - ((iush v0 1) &&& 1431655765)) &&& 858993459) + ((iush (v0 - ((iush v0 1) &&& 1431655765)) 2) &&& 858993459)) + (iush (((v0 - ((iush v0 1) &&& 1431655765)) &&& 858993459) + ((iush (v0 - ((iush v0 1) &&& 1431655765)) 2) &&& 858993459)) 4)) &&& 252645135))]) rfl rfl ?_
  refine g_iload rfl rfl ?_
  refine g_iload rfl rfl ?_
  refine g_push rfl ?_
  refine g_iushr rfl ?_
  refine g_iadd rfl ?_
  refine g_istore (L2 := [(0, .inl ((((((v0 - ((iush v0 1) &&& 1431655765)) &&& 858993459) + ((iush (v0 - ((iush v0 1) &&& 1431655765)) 2) &&& 858993459)) + (iush (((v0 - ((iush v0 1) &&& 1431655765)) &&& 858993459) + ((iush (v0 - ((iush v0 1) &&& 1431655765)) 2) &&& 858993459)) 4)) &&& 252645135) + (iush (((((v0 - ((iush v0 1) &&& 1431655765)) &&& 858993459) + ((iush (v0 - ((iush v0 1) &&& 1431655765)) 2) &&& 858993459)) + (iush (((v0 - ((iush v0 1) &&& 1431655765)) &&& 858993459) + ((iush (v0 - ((iush v0 1) &&& 1431655765)) 2) &&& 858993459)) 4)) &&& 252645135) 8)))]) rfl rfl ?_
  refine g_iload rfl rfl ?_
  refine g_iload rfl rfl ?_
  refine g_push rfl ?_
  refine g_iushr rfl ?_
  refine g_iadd rfl ?_
  refine g_istore (L2 := [(0, .inl (((((((v0 - ((iush v0 1) &&& 1431655765)) &&& 858993459) + ((iush (v0 - ((iush v0 1) &&& 1431655765)) 2) &&& 858993459)) + (iush (((v0 - ((iush v0 1) &&& 1431655765)) &&& 858993459) + ((iush (v0 - ((iush v0 1) &&& 1431655765)) 2) &&& 858993459)) 4)) &&& 252645135) + (iush (((((v0 - ((iush v0 1) &&& 1431655765)) &&& 858993459) + ((iush (v0 - ((iush v0 1) &&& 1431655765)) 2) &&& 858993459)) + (iush (((v0 - ((iush v0 1) &&& 1431655765)) &&& 858993459) + ((iush (v0 - ((iush v0 1) &&& 1431655765)) 2) &&& 858993459)) 4)) &&& 252645135) 8)) + (iush ((((((v0 - ((iush v0 1) &&& 1431655765)) &&& 858993459) + ((iush (v0 - ((iush v0 1) &&& 1431655765)) 2) &&& 858993459)) + (iush (((v0 - ((iush v0 1) &&& 1431655765)) &&& 858993459) + ((iush (v0 - ((iush v0 1) &&& 1431655765)) 2) &&& 858993459)) 4)) &&& 252645135) + (iush (((((v0 - ((iush v0 1) &&& 1431655765)) &&& 858993459) + ((iush (v0 - ((iush v0 1) &&& 1431655765)) 2) &&& 858993459)) + (iush (((v0 - ((iush v0 1) &&& 1431655765)) &&& 858993459) + ((iush (v0 - ((iush v0 1) &&& 1431655765)) 2) &&& 858993459)) 4)) &&& 252645135) 8)) 16)))]) rfl rfl ?_
  refine g_iload rfl rfl ?_
  refine g_push rfl ?_
  refine g_iand rfl ?_
  obtain rfl := so1 E
  exact g_iret rfl
def fx_count (v1 : Int32) (S0 : Mem) : Option Int32 := if v1 = 0 then (some (S0 1 4)) else (if v1 = 1 then ((fw_liveBits 1 S0).bind fun x1 => (fj_bitCount x1 S0).bind fun x2 => some x2) else (if v1 = 2 then ((fw_mailed 1 S0).bind fun x3 => some x3) else (if v1 = 3 then (some (S0 3 3)) else (if v1 = 4 then (some (S0 1 8)) else (if v1 = 5 then (some (S0 1 7)) else (if v1 = 6 then (some (S0 1 6)) else (if v1 = 7 then (some (S0 10 2)) else (if v1 = 8 then (some (S0 7 2)) else (if v1 = 9 then (some (S0 674 1)) else (some ((-1))))))))))))
set_option maxRecDepth 20000 in
set_option maxHeartbeats 4000000 in
theorem tx_count {scr : Nat × (Nat → Int32)} {d : Nat} (hd : 1 ≤ d) (v1 : Int32) (S0 : Mem)  (rv : Int32) (E : fx_count  v1 S0 = some rv) : XG scr d 72 0 [(0, .inr (some (some 0))), (1, .inl v1)] [] S0 (some (.inl rv)) S0 := by
  unfold fx_count at E
  refine g_iload rfl rfl ?_
  rcases xif E with ⟨h1, E⟩ | ⟨h1, E⟩
  · refine g_tsw (u := 56) rfl (by rw [h1]; decide +kernel) ?_
    refine g_aload rfl rfl ?_
    refine g_getR rfl ty_x (fR_7_0 ty_x) ?_
    refine g_getI rfl fT_7_0 ?_
    obtain rfl := so1 E
    exact g_iret rfl
  · rcases xif E with ⟨h2, E⟩ | ⟨h2, E⟩
    · refine g_tsw (u := 64) rfl (by rw [h2]; decide +kernel) ?_
      refine g_aload rfl rfl ?_
      refine g_getR rfl ty_x (fR_7_0 ty_x) ?_
      obtain ⟨x1, h3, E⟩ := ob E
      refine g_inv0 (dc := 0) rfl (by omega) fT_7_0 (Nat.le_of_ble_eq_true rfl) (fun d hd => tw_liveBits hd 1 S0 fT_7_0 _ h3) ?_
      obtain ⟨x2, h4, E⟩ := ob E
      refine g_invS1 (dc := 0) rfl (by omega) (Nat.le_of_ble_eq_true rfl) (fun d hd => tj_bitCount hd x1 S0 _ h4) ?_
      obtain rfl := so1 E
      exact g_iret rfl
    · rcases xif E with ⟨h5, E⟩ | ⟨h5, E⟩
      · refine g_tsw (u := 75) rfl (by rw [h5]; decide +kernel) ?_
        refine g_aload rfl rfl ?_
        refine g_getR rfl ty_x (fR_7_0 ty_x) ?_
        obtain ⟨x3, h6, E⟩ := ob E
        refine g_inv0 (dc := 0) rfl (by omega) fT_7_0 (Nat.le_of_ble_eq_true rfl) (fun d hd => tw_mailed hd 1 S0 fT_7_0 _ h6) ?_
        obtain rfl := so1 E
        exact g_iret rfl
      · rcases xif E with ⟨h7, E⟩ | ⟨h7, E⟩
        · refine g_tsw (u := 83) rfl (by rw [h7]; decide +kernel) ?_
          refine g_aload rfl rfl ?_
          refine g_getR rfl ty_x (fR_7_0 ty_x) ?_
          refine g_getR rfl fT_7_0 (fR_6_1 fT_7_0) ?_
          refine g_getI rfl (fT_6_1 fT_7_0) ?_
          obtain rfl := so1 E
          exact g_iret rfl
        · rcases xif E with ⟨h8, E⟩ | ⟨h8, E⟩
          · refine g_tsw (u := 94) rfl (by rw [h8]; decide +kernel) ?_
            refine g_aload rfl rfl ?_
            refine g_getR rfl ty_x (fR_7_0 ty_x) ?_
            refine g_getI rfl fT_7_0 ?_
            obtain rfl := so1 E
            exact g_iret rfl
          · rcases xif E with ⟨h9, E⟩ | ⟨h9, E⟩
            · refine g_tsw (u := 102) rfl (by rw [h9]; decide +kernel) ?_
              refine g_aload rfl rfl ?_
              refine g_getR rfl ty_x (fR_7_0 ty_x) ?_
              refine g_getI rfl fT_7_0 ?_
              obtain rfl := so1 E
              exact g_iret rfl
            · rcases xif E with ⟨h10, E⟩ | ⟨h10, E⟩
              · refine g_tsw (u := 110) rfl (by rw [h10]; decide +kernel) ?_
                refine g_aload rfl rfl ?_
                refine g_getR rfl ty_x (fR_7_0 ty_x) ?_
                refine g_getI rfl fT_7_0 ?_
                obtain rfl := so1 E
                exact g_iret rfl
              · rcases xif E with ⟨h11, E⟩ | ⟨h11, E⟩
                · refine g_tsw (u := 118) rfl (by rw [h11]; decide +kernel) ?_
                  refine g_aload rfl rfl ?_
                  refine g_getR rfl ty_x (fR_7_0 ty_x) ?_
                  refine g_getR rfl fT_7_0 (fR_6_3 fT_7_0) ?_
                  refine g_getI rfl (fT_6_3 fT_7_0) ?_
                  obtain rfl := so1 E
                  exact g_iret rfl
                · rcases xif E with ⟨h12, E⟩ | ⟨h12, E⟩
                  · refine g_tsw (u := 129) rfl (by rw [h12]; decide +kernel) ?_
                    refine g_aload rfl rfl ?_
                    refine g_getR rfl ty_x (fR_7_0 ty_x) ?_
                    refine g_getR rfl fT_7_0 (fR_6_2 fT_7_0) ?_
                    refine g_getI rfl (fT_6_2 fT_7_0) ?_
                    obtain rfl := so1 E
                    exact g_iret rfl
                  · rcases xif E with ⟨h13, E⟩ | ⟨h13, E⟩
                    · refine g_tsw (u := 140) rfl (by rw [h13]; decide +kernel) ?_
                      refine g_aload rfl rfl ?_
                      refine g_getR rfl ty_x (fR_7_4 ty_x) ?_
                      refine g_getR rfl fT_7_4 (fR_4_0 fT_7_4) ?_
                      refine g_getI rfl (fT_4_0 fT_7_4) ?_
                      obtain rfl := so1 E
                      exact g_iret rfl
                    · refine g_tsw (u := 151) rfl (tsw_d (sw_def (n := 9) rfl _ (by decide +kernel) (fc h1 (fc h2 (fc h5 (fc h7 (fc h8 (fc h9 (fc h10 (fc h11 (fc h12 (fc h13 fn)))))))))))) ?_
                      refine g_push rfl ?_
                      obtain rfl := so1 E
                      exact g_iret rfl
def fx_counted (v1 : Int32) (S0 : Mem) : Option Int32 := (fw_isActor 1 v1 S0).bind fun x1 => if x1 = 0 then (some ((-2000000000))) else ((ix v1 12).bind fun i1 => some (S0 (1 + 12 + 13 * i1) 5))
set_option maxRecDepth 20000 in
set_option maxHeartbeats 4000000 in
theorem tx_counted {scr : Nat × (Nat → Int32)} {d : Nat} (hd : 1 ≤ d) (v1 : Int32) (S0 : Mem)  (rv : Int32) (E : fx_counted  v1 S0 = some rv) : XG scr d 73 0 [(0, .inr (some (some 0))), (1, .inl v1)] [] S0 (some (.inl rv)) S0 := by
  unfold fx_counted at E
  refine g_aload rfl rfl ?_
  refine g_getR rfl ty_x (fR_7_0 ty_x) ?_
  refine g_iload rfl rfl ?_
  obtain ⟨x1, h1, E⟩ := ob E
  refine g_inv1 (dc := 0) rfl (by omega) fT_7_0 (Nat.le_of_ble_eq_true rfl) (fun d hd => tw_isActor hd 1 v1 S0 fT_7_0 _ h1) ?_
  rcases xif E with ⟨h2, E⟩ | ⟨h2, E⟩
  · refine g_ifeq_t rfl h2 ?_
    refine g_push rfl ?_
    obtain rfl := so1 E
    exact g_iret rfl
  · refine g_ifeq_f rfl h2 ?_
    refine g_aload rfl rfl ?_
    refine g_getR rfl ty_x (fR_7_0 ty_x) ?_
    refine g_getR rfl fT_7_0 (fR_6_0 fT_7_0) ?_
    refine g_iload rfl rfl ?_
    obtain ⟨i1, h3, E⟩ := ob E
    refine g_aald rfl (eK_a _ fT_7_0.1 fT_7_0.2).1.1 (eK_a _ fT_7_0.1 fT_7_0.2).1.2 (by decide) h3 (rA_a fT_7_0 h3) ?_
    refine g_getI rfl (eT_a fT_7_0 h3) ?_
    refine g_goto rfl ?_
    obtain rfl := so1 E
    exact g_iret rfl
def fx_drawn_36b (k36 : Int32 → Int32 → Int32 → Mem → Option (Int32 × Mem)) (v1 : Int32) (v2 : Int32) (v3 : Int32) (S0 : Mem) : Option (Int32 × Mem) := if v1 ≤ v3 then (some ((S0 1 8) - v2, S0)) else ((some (up2 S0 1 9 (((S0 1 9) * 1103515245) + 12345))).bind fun S1 => (nz (S1 1 4)).bind fun z1 => bd (fw_send 1 (irm ((iush (S1 1 9) 16) &&& 32767) (S1 1 4)) ((-1)) ((irm (((iush (S1 1 9) 16) &&& 32767) / 12) 199) - 99) S1) fun x1 S2 => k36 v1 v2 (v3 + 1) S2)
set_option maxRecDepth 20000 in
set_option maxHeartbeats 4000000 in
theorem tx_drawn_36b {scr : Nat × (Nat → Int32)} {d : Nat} (hd : 2 ≤ d) {k36 : Int32 → Int32 → Int32 → Mem → Option (Int32 × Mem)} (hk36 : ∀ (v1 : Int32) (v2 : Int32) (v3 : Int32) (S0 : Mem), ∀ (rv : Int32) (SR : Mem), k36 v1 v2 v3 S0 = some (rv, SR) → XG scr d 75 36 [(0, .inr (some (some 0))), (1, .inl v1), (2, .inl v2), (3, .inl v3)] [] S0 (some (.inl rv)) SR) (v1 : Int32) (v2 : Int32) (v3 : Int32) (S0 : Mem)  (rv : Int32) (SR : Mem) (E : fx_drawn_36b k36 v1 v2 v3 S0 = some (rv, SR)) : XG scr d 75 36 [(0, .inr (some (some 0))), (1, .inl v1), (2, .inl v2), (3, .inl v3)] [] S0 (some (.inl rv)) SR := by
  unfold fx_drawn_36b at E
  refine g_iload rfl rfl ?_
  refine g_iload rfl rfl ?_
  rcases xif E with ⟨h1, E⟩ | ⟨h1, E⟩
  · refine g_icge_t rfl h1 ?_
    refine g_aload rfl rfl ?_
    refine g_getR rfl ty_x (fR_7_0 ty_x) ?_
    refine g_getI rfl fT_7_0 ?_
    refine g_iload rfl rfl ?_
    refine g_isub rfl ?_
    obtain ⟨rfl, rfl⟩ := so2 E
    exact g_iret rfl
  · refine g_icge_f rfl h1 ?_
    refine g_aload rfl rfl ?_
    refine g_getR rfl ty_x (fR_7_0 ty_x) ?_
    refine g_aload rfl rfl ?_
    refine g_getR rfl ty_x (fR_7_0 ty_x) ?_
    refine g_getI rfl fT_7_0 ?_
    refine g_push rfl ?_
    refine g_imul rfl ?_
    refine g_push rfl ?_
    refine g_iadd rfl ?_
    obtain ⟨S1, hS1, E⟩ := ob E
    refine g_putI rfl fT_7_0 hS1 ?_
    refine g_aload rfl rfl ?_
    refine g_getR rfl ty_x (fR_7_0 ty_x) ?_
    refine g_getI rfl fT_7_0 ?_
    refine g_push rfl ?_
    refine g_iushr rfl ?_
    refine g_push rfl ?_
    refine g_iand rfl ?_
    refine g_istore (L2 := [(4, .inl ((iush (S1 1 9) 16) &&& 32767)), (0, .inr (some (some 0))), (1, .inl v1), (2, .inl v2), (3, .inl v3)]) rfl rfl ?_
    refine g_aload rfl rfl ?_
    refine g_getR rfl ty_x (fR_7_0 ty_x) ?_
    refine g_iload rfl rfl ?_
    refine g_aload rfl rfl ?_
    refine g_getR rfl ty_x (fR_7_0 ty_x) ?_
    refine g_getI rfl fT_7_0 ?_
    obtain ⟨z1, h2, E⟩ := ob E
    refine g_irem rfl (nz_of h2).1 ?_
    refine g_push rfl ?_
    refine g_iload rfl rfl ?_
    refine g_push rfl ?_
    refine g_idiv rfl (by decide) ?_
    refine g_push rfl ?_
    refine g_irem rfl (by decide) ?_
    refine g_push rfl ?_
    refine g_isub rfl ?_
    obtain ⟨x1, S2, h3, E⟩ := ob2 E
    refine g_inv3 (dc := 1) rfl (by omega) fT_7_0 (Nat.le_of_ble_eq_true rfl) (fun d hd => tw_send hd 1 (irm ((iush (S1 1 9) 16) &&& 32767) (S1 1 4)) ((-1)) ((irm (((iush (S1 1 9) 16) &&& 32767) / 12) 199) - 99) S1 fT_7_0 _ _ h3) ?_
    refine g_pop rfl ?_
    refine g_iinc (L2 := [(3, .inl (v3 + 1)), (4, .inl ((iush (S1 1 9) 16) &&& 32767)), (0, .inr (some (some 0))), (1, .inl v1), (2, .inl v2)]) rfl rfl rfl ?_
    refine g_goto rfl ?_
    exact g_loc (lsub_cons rfl (lsub_cons rfl (lsub_cons rfl (lsub_cons rfl lsub_nil)))) (hk36 v1 v2 (v3 + 1) S2 _ _ E)
def fx_drawn_36  : Nat → Int32 → Int32 → Int32 → Mem → Option (Int32 × Mem)
  | 0 => fun _ _ _ _ => none
  | n + 1 => fx_drawn_36b  (fx_drawn_36  n)
set_option maxRecDepth 20000 in
set_option maxHeartbeats 4000000 in
theorem tx_drawn_36 {scr : Nat × (Nat → Int32)} {d : Nat} (hd : 2 ≤ d)  : ∀ (n : Nat) (v1 : Int32) (v2 : Int32) (v3 : Int32) (S0 : Mem), ∀ (rv : Int32) (SR : Mem), fx_drawn_36  n v1 v2 v3 S0 = some (rv, SR) → XG scr d 75 36 [(0, .inr (some (some 0))), (1, .inl v1), (2, .inl v2), (3, .inl v3)] [] S0 (some (.inl rv)) SR
  | 0, v1, v2, v3, S0, rv, SR, E => nn E
  | n + 1, v1, v2, v3, S0, rv, SR, E => tx_drawn_36b hd  (tx_drawn_36 hd  n) v1 v2 v3 S0  rv SR E
def fx_drawn (v1 : Int32) (S0 : Mem) : Option (Int32 × Mem) := if v1 < 1 then (some ((-1), S0)) else (if v1 ≤ 40 then (if (S0 1 4) = 0 then (some ((-5), S0)) else (fx_drawn_36 LF v1 (S0 1 8) 0 S0)) else (some ((-1), S0)))
set_option maxRecDepth 20000 in
set_option maxHeartbeats 4000000 in
theorem tx_drawn {scr : Nat × (Nat → Int32)} {d : Nat} (hd : 2 ≤ d) (v1 : Int32) (S0 : Mem)  (rv : Int32) (SR : Mem) (E : fx_drawn  v1 S0 = some (rv, SR)) : XG scr d 75 0 [(0, .inr (some (some 0))), (1, .inl v1)] [] S0 (some (.inl rv)) SR := by
  unfold fx_drawn at E
  refine g_iload rfl rfl ?_
  refine g_push rfl ?_
  rcases xif E with ⟨h1, E⟩ | ⟨h1, E⟩
  · refine g_iclt_t rfl h1 ?_
    refine g_push rfl ?_
    obtain ⟨rfl, rfl⟩ := so2 E
    exact g_iret rfl
  · refine g_iclt_f rfl h1 ?_
    refine g_iload rfl rfl ?_
    refine g_push rfl ?_
    rcases xif E with ⟨h2, E⟩ | ⟨h2, E⟩
    · refine g_icle_t rfl h2 ?_
      refine g_aload rfl rfl ?_
      refine g_getR rfl ty_x (fR_7_0 ty_x) ?_
      refine g_getI rfl fT_7_0 ?_
      rcases xif E with ⟨h3, E⟩ | ⟨h3, E⟩
      · refine g_ifne_t rfl h3 ?_
        refine g_push rfl ?_
        obtain ⟨rfl, rfl⟩ := so2 E
        exact g_iret rfl
      · refine g_ifne_f rfl h3 ?_
        refine g_aload rfl rfl ?_
        refine g_getR rfl ty_x (fR_7_0 ty_x) ?_
        refine g_getI rfl fT_7_0 ?_
        refine g_istore (L2 := [(2, .inl (S0 1 8)), (0, .inr (some (some 0))), (1, .inl v1)]) rfl rfl ?_
        refine g_push rfl ?_
        refine g_istore (L2 := [(3, .inl 0), (2, .inl (S0 1 8)), (0, .inr (some (some 0))), (1, .inl v1)]) rfl rfl ?_
        exact g_loc (lsub_cons rfl (lsub_cons rfl (lsub_cons rfl (lsub_cons rfl lsub_nil)))) (tx_drawn_36 hd LF v1 (S0 1 8) 0 S0 _ _ E)
    · refine g_icle_f rfl h2 ?_
      refine g_push rfl ?_
      obtain ⟨rfl, rfl⟩ := so2 E
      exact g_iret rfl
def fx_isSteps (v0 : Int32) (S0 : Mem) : Option Int32 := if v0 < 1 then (some 0) else (if 200 < v0 then (some 0) else (some 1))
set_option maxRecDepth 20000 in
set_option maxHeartbeats 4000000 in
theorem tx_isSteps {scr : Nat × (Nat → Int32)} {d : Nat} (hd : 0 ≤ d) (v0 : Int32) (S0 : Mem)  (rv : Int32) (E : fx_isSteps  v0 S0 = some rv) : XG scr d 86 0 [(0, .inl v0)] [] S0 (some (.inl rv)) S0 := by
  unfold fx_isSteps at E
  refine g_iload rfl rfl ?_
  refine g_push rfl ?_
  rcases xif E with ⟨h1, E⟩ | ⟨h1, E⟩
  · refine g_iclt_t rfl h1 ?_
    refine g_push rfl ?_
    obtain rfl := so1 E
    exact g_zret rfl b00
  · refine g_iclt_f rfl h1 ?_
    refine g_iload rfl rfl ?_
    refine g_push rfl ?_
    rcases xif E with ⟨h2, E⟩ | ⟨h2, E⟩
    · refine g_icgt_t rfl h2 ?_
      refine g_push rfl ?_
      obtain rfl := so1 E
      exact g_zret rfl b00
    · refine g_icgt_f rfl h2 ?_
      refine g_push rfl ?_
      refine g_goto rfl ?_
      obtain rfl := so1 E
      exact g_zret rfl b01
def fx_dry_34  (v1 : Int32) (v2 : Int32) (s0 : Int32) (S0 : Mem) : Option (Int32 × Mem) := (fx_isSteps v1 S0).bind fun x1 => if x1 = 0 then (some ((-2000000000), S0)) else (if s0 = 0 then (some ((-2000000000), S0)) else ((fw_copyFrom 169 1 S0).bind fun S1 => bd (fw_makeSteps 169 v1 S1) fun x2 S2 => if v2 = 0 then (some (x2, S2)) else (if v2 = 1 then (some (S2 169 10, S2)) else (if v2 = 2 then ((fw_liveBits 169 S2).bind fun x3 => some (x3, S2)) else (if v2 = 3 then (some (S2 169 8, S2)) else (if v2 = 4 then (some (S2 169 7, S2)) else (if v2 = 5 then (some (S2 169 6, S2)) else ((fw_isActor 169 (v2 - 10) S2).bind fun x4 => if x4 = 0 then (some ((-2000000000), S2)) else ((ix (v2 - 10) 12).bind fun i1 => some (S2 (169 + 12 + 13 * i1) 5, S2))))))))))
set_option maxRecDepth 20000 in
set_option maxHeartbeats 4000000 in
theorem tx_dry_34 {scr : Nat × (Nat → Int32)} {d : Nat} (hd : 7 ≤ d)  (v1 : Int32) (v2 : Int32) (s0 : Int32) (S0 : Mem)  (rv : Int32) (SR : Mem) (E : fx_dry_34 v1 v2 s0 S0 = some (rv, SR)) : XG scr d 76 34 [(0, .inr (some (some 0))), (1, .inl v1), (2, .inl v2)] [.inl s0] S0 (some (.inl rv)) SR := by
  unfold fx_dry_34 at E
  refine g_istore (L2 := [(3, .inl s0), (0, .inr (some (some 0))), (1, .inl v1), (2, .inl v2)]) rfl rfl ?_
  refine g_iload rfl rfl ?_
  obtain ⟨x1, h1, E⟩ := ob E
  refine g_invS1 (dc := 0) rfl (by omega) (Nat.le_of_ble_eq_true rfl) (fun d hd => tx_isSteps hd v1 S0 _ h1) ?_
  rcases xif E with ⟨h2, E⟩ | ⟨h2, E⟩
  · refine g_ifeq_t rfl h2 ?_
    refine g_push rfl ?_
    obtain ⟨rfl, rfl⟩ := so2 E
    exact g_iret rfl
  · refine g_ifeq_f rfl h2 ?_
    refine g_iload rfl rfl ?_
    rcases xif E with ⟨h3, E⟩ | ⟨h3, E⟩
    · refine g_ifne_t rfl h3 ?_
      refine g_push rfl ?_
      obtain ⟨rfl, rfl⟩ := so2 E
      exact g_iret rfl
    · refine g_ifne_f rfl h3 ?_
      refine g_aload rfl rfl ?_
      refine g_getR rfl ty_x (fR_7_1 ty_x) ?_
      refine g_aload rfl rfl ?_
      refine g_getR rfl ty_x (fR_7_0 ty_x) ?_
      obtain ⟨S1, h4, E⟩ := ob E
      refine g_inv1 (dc := 2) rfl (by omega) fT_7_1 (Nat.le_of_ble_eq_true rfl) (fun d hd => tw_copyFrom hd 169 1 S0 fT_7_1 fT_7_0 _ h4) ?_
      refine g_aload rfl rfl ?_
      refine g_getR rfl ty_x (fR_7_1 ty_x) ?_
      refine g_iload rfl rfl ?_
      obtain ⟨x2, S2, h5, E⟩ := ob2 E
      refine g_inv1 (dc := 6) rfl (by omega) fT_7_1 (Nat.le_of_ble_eq_true rfl) (fun d hd => tw_makeSteps hd 169 v1 S1 fT_7_1 _ _ h5) ?_
      refine g_istore (L2 := [(4, .inl x2), (3, .inl s0), (0, .inr (some (some 0))), (1, .inl v1), (2, .inl v2)]) rfl rfl ?_
      refine g_iload rfl rfl ?_
      rcases xif E with ⟨h6, E⟩ | ⟨h6, E⟩
      · refine g_tsw (u := 108) rfl (by rw [h6]; decide +kernel) ?_
        refine g_iload rfl rfl ?_
        obtain ⟨rfl, rfl⟩ := so2 E
        exact g_iret rfl
      · rcases xif E with ⟨h7, E⟩ | ⟨h7, E⟩
        · refine g_tsw (u := 111) rfl (by rw [h7]; decide +kernel) ?_
          refine g_aload rfl rfl ?_
          refine g_getR rfl ty_x (fR_7_1 ty_x) ?_
          refine g_getI rfl fT_7_1 ?_
          obtain ⟨rfl, rfl⟩ := so2 E
          exact g_iret rfl
        · rcases xif E with ⟨h8, E⟩ | ⟨h8, E⟩
          · refine g_tsw (u := 119) rfl (by rw [h8]; decide +kernel) ?_
            refine g_aload rfl rfl ?_
            refine g_getR rfl ty_x (fR_7_1 ty_x) ?_
            obtain ⟨x3, h9, E⟩ := ob E
            refine g_inv0 (dc := 0) rfl (by omega) fT_7_1 (Nat.le_of_ble_eq_true rfl) (fun d hd => tw_liveBits hd 169 S2 fT_7_1 _ h9) ?_
            obtain ⟨rfl, rfl⟩ := so2 E
            exact g_iret rfl
          · rcases xif E with ⟨h10, E⟩ | ⟨h10, E⟩
            · refine g_tsw (u := 127) rfl (by rw [h10]; decide +kernel) ?_
              refine g_aload rfl rfl ?_
              refine g_getR rfl ty_x (fR_7_1 ty_x) ?_
              refine g_getI rfl fT_7_1 ?_
              obtain ⟨rfl, rfl⟩ := so2 E
              exact g_iret rfl
            · rcases xif E with ⟨h11, E⟩ | ⟨h11, E⟩
              · refine g_tsw (u := 135) rfl (by rw [h11]; decide +kernel) ?_
                refine g_aload rfl rfl ?_
                refine g_getR rfl ty_x (fR_7_1 ty_x) ?_
                refine g_getI rfl fT_7_1 ?_
                obtain ⟨rfl, rfl⟩ := so2 E
                exact g_iret rfl
              · rcases xif E with ⟨h12, E⟩ | ⟨h12, E⟩
                · refine g_tsw (u := 143) rfl (by rw [h12]; decide +kernel) ?_
                  refine g_aload rfl rfl ?_
                  refine g_getR rfl ty_x (fR_7_1 ty_x) ?_
                  refine g_getI rfl fT_7_1 ?_
                  obtain ⟨rfl, rfl⟩ := so2 E
                  exact g_iret rfl
                · refine g_tsw (u := 151) rfl (tsw_d (sw_def (n := 5) rfl _ (by decide +kernel) (fc h6 (fc h7 (fc h8 (fc h10 (fc h11 (fc h12 fn)))))))) ?_
                  refine g_aload rfl rfl ?_
                  refine g_getR rfl ty_x (fR_7_1 ty_x) ?_
                  refine g_iload rfl rfl ?_
                  refine g_push rfl ?_
                  refine g_isub rfl ?_
                  obtain ⟨x4, h13, E⟩ := ob E
                  refine g_inv1 (dc := 0) rfl (by omega) fT_7_1 (Nat.le_of_ble_eq_true rfl) (fun d hd => tw_isActor hd 169 (v2 - 10) S2 fT_7_1 _ h13) ?_
                  rcases xif E with ⟨h14, E⟩ | ⟨h14, E⟩
                  · refine g_ifeq_t rfl h14 ?_
                    refine g_push rfl ?_
                    obtain ⟨rfl, rfl⟩ := so2 E
                    exact g_iret rfl
                  · refine g_ifeq_f rfl h14 ?_
                    refine g_aload rfl rfl ?_
                    refine g_getR rfl ty_x (fR_7_1 ty_x) ?_
                    refine g_getR rfl fT_7_1 (fR_6_0 fT_7_1) ?_
                    refine g_iload rfl rfl ?_
                    refine g_push rfl ?_
                    refine g_isub rfl ?_
                    obtain ⟨i1, h15, E⟩ := ob E
                    refine g_aald rfl (eK_a _ fT_7_1.1 fT_7_1.2).1.1 (eK_a _ fT_7_1.1 fT_7_1.2).1.2 (by decide) h15 (rA_a fT_7_1 h15) ?_
                    refine g_getI rfl (eT_a fT_7_1 h15) ?_
                    refine g_goto rfl ?_
                    obtain ⟨rfl, rfl⟩ := so2 E
                    exact g_iret rfl
def fx_dry (v1 : Int32) (v2 : Int32) (S0 : Mem) : Option (Int32 × Mem) := if v2 < 0 then (if v2 < 10 then (fx_dry_34 v1 v2 0 S0) else ((fw_isActor 1 (v2 - 10) S0).bind fun x1 => if x1 = 0 then (fx_dry_34 v1 v2 0 S0) else (fx_dry_34 v1 v2 1 S0))) else (if v2 ≤ 5 then (fx_dry_34 v1 v2 1 S0) else (if v2 < 10 then (fx_dry_34 v1 v2 0 S0) else ((fw_isActor 1 (v2 - 10) S0).bind fun x2 => if x2 = 0 then (fx_dry_34 v1 v2 0 S0) else (fx_dry_34 v1 v2 1 S0))))
set_option maxRecDepth 20000 in
set_option maxHeartbeats 4000000 in
theorem tx_dry {scr : Nat × (Nat → Int32)} {d : Nat} (hd : 7 ≤ d) (v1 : Int32) (v2 : Int32) (S0 : Mem)  (rv : Int32) (SR : Mem) (E : fx_dry  v1 v2 S0 = some (rv, SR)) : XG scr d 76 0 [(0, .inr (some (some 0))), (1, .inl v1), (2, .inl v2)] [] S0 (some (.inl rv)) SR := by
  unfold fx_dry at E
  refine g_iload rfl rfl ?_
  rcases xif E with ⟨h1, E⟩ | ⟨h1, E⟩
  · refine g_iflt_t rfl h1 ?_
    refine g_iload rfl rfl ?_
    refine g_push rfl ?_
    rcases xif E with ⟨h2, E⟩ | ⟨h2, E⟩
    · refine g_iclt_t rfl h2 ?_
      refine g_push rfl ?_
      exact g_loc (lsub_cons rfl (lsub_cons rfl (lsub_cons rfl lsub_nil))) (tx_dry_34 hd v1 v2 0 S0 _ _ E)
    · refine g_iclt_f rfl h2 ?_
      refine g_aload rfl rfl ?_
      refine g_getR rfl ty_x (fR_7_0 ty_x) ?_
      refine g_iload rfl rfl ?_
      refine g_push rfl ?_
      refine g_isub rfl ?_
      obtain ⟨x1, h3, E⟩ := ob E
      refine g_inv1 (dc := 0) rfl (by omega) fT_7_0 (Nat.le_of_ble_eq_true rfl) (fun d hd => tw_isActor hd 1 (v2 - 10) S0 fT_7_0 _ h3) ?_
      rcases xif E with ⟨h4, E⟩ | ⟨h4, E⟩
      · refine g_ifeq_t rfl h4 ?_
        refine g_push rfl ?_
        exact g_loc (lsub_cons rfl (lsub_cons rfl (lsub_cons rfl lsub_nil))) (tx_dry_34 hd v1 v2 0 S0 _ _ E)
      · refine g_ifeq_f rfl h4 ?_
        refine g_push rfl ?_
        refine g_goto rfl ?_
        exact g_loc (lsub_cons rfl (lsub_cons rfl (lsub_cons rfl lsub_nil))) (tx_dry_34 hd v1 v2 1 S0 _ _ E)
  · refine g_iflt_f rfl h1 ?_
    refine g_iload rfl rfl ?_
    refine g_push rfl ?_
    rcases xif E with ⟨h5, E⟩ | ⟨h5, E⟩
    · refine g_icle_t rfl h5 ?_
      refine g_push rfl ?_
      refine g_goto rfl ?_
      exact g_loc (lsub_cons rfl (lsub_cons rfl (lsub_cons rfl lsub_nil))) (tx_dry_34 hd v1 v2 1 S0 _ _ E)
    · refine g_icle_f rfl h5 ?_
      refine g_iload rfl rfl ?_
      refine g_push rfl ?_
      rcases xif E with ⟨h6, E⟩ | ⟨h6, E⟩
      · refine g_iclt_t rfl h6 ?_
        refine g_push rfl ?_
        exact g_loc (lsub_cons rfl (lsub_cons rfl (lsub_cons rfl lsub_nil))) (tx_dry_34 hd v1 v2 0 S0 _ _ E)
      · refine g_iclt_f rfl h6 ?_
        refine g_aload rfl rfl ?_
        refine g_getR rfl ty_x (fR_7_0 ty_x) ?_
        refine g_iload rfl rfl ?_
        refine g_push rfl ?_
        refine g_isub rfl ?_
        obtain ⟨x2, h7, E⟩ := ob E
        refine g_inv1 (dc := 0) rfl (by omega) fT_7_0 (Nat.le_of_ble_eq_true rfl) (fun d hd => tw_isActor hd 1 (v2 - 10) S0 fT_7_0 _ h7) ?_
        rcases xif E with ⟨h8, E⟩ | ⟨h8, E⟩
        · refine g_ifeq_t rfl h8 ?_
          refine g_push rfl ?_
          exact g_loc (lsub_cons rfl (lsub_cons rfl (lsub_cons rfl lsub_nil))) (tx_dry_34 hd v1 v2 0 S0 _ _ E)
        · refine g_ifeq_f rfl h8 ?_
          refine g_push rfl ?_
          refine g_goto rfl ?_
          exact g_loc (lsub_cons rfl (lsub_cons rfl (lsub_cons rfl lsub_nil))) (tx_dry_34 hd v1 v2 1 S0 _ _ E)
def fx_ended  (S0 : Mem) : Option Int32 := some (S0 1 10)
set_option maxRecDepth 20000 in
set_option maxHeartbeats 4000000 in
theorem tx_ended {scr : Nat × (Nat → Int32)} {d : Nat} (hd : 0 ≤ d)  (S0 : Mem)  (rv : Int32) (E : fx_ended   S0 = some rv) : XG scr d 77 0 [(0, .inr (some (some 0)))] [] S0 (some (.inl rv)) S0 := by
  unfold fx_ended at E
  refine g_aload rfl rfl ?_
  refine g_getR rfl ty_x (fR_7_0 ty_x) ?_
  refine g_getI rfl fT_7_0 ?_
  obtain rfl := so1 E
  exact g_iret rfl
def fx_image  (S0 : Mem) : Option (Int32 × Mem) := (fw_copyFrom 337 1 S0).bind fun S1 => (some (up2 S1 0 6 1)).bind fun S2 => some (S2 337 4, S2)
set_option maxRecDepth 20000 in
set_option maxHeartbeats 4000000 in
theorem tx_image {scr : Nat × (Nat → Int32)} {d : Nat} (hd : 3 ≤ d)  (S0 : Mem)  (rv : Int32) (SR : Mem) (E : fx_image   S0 = some (rv, SR)) : XG scr d 82 0 [(0, .inr (some (some 0)))] [] S0 (some (.inl rv)) SR := by
  unfold fx_image at E
  refine g_aload rfl rfl ?_
  refine g_getR rfl ty_x (fR_7_2 ty_x) ?_
  refine g_aload rfl rfl ?_
  refine g_getR rfl ty_x (fR_7_0 ty_x) ?_
  obtain ⟨S1, h1, E⟩ := ob E
  refine g_inv1 (dc := 2) rfl (by omega) fT_7_2 (Nat.le_of_ble_eq_true rfl) (fun d hd => tw_copyFrom hd 337 1 S0 fT_7_2 fT_7_0 _ h1) ?_
  refine g_aload rfl rfl ?_
  refine g_push rfl ?_
  obtain ⟨S2, hS2, E⟩ := ob E
  refine g_putZ rfl ty_x b01 hS2 ?_
  refine g_aload rfl rfl ?_
  refine g_getR rfl ty_x (fR_7_2 ty_x) ?_
  refine g_getI rfl fT_7_2 ?_
  obtain ⟨rfl, rfl⟩ := so2 E
  exact g_iret rfl
def fx_isNumber (v0 : Int32) (S0 : Mem) : Option Int32 := if v0 < ((-99)) then (some 0) else (if 99 < v0 then (some 0) else (some 1))
set_option maxRecDepth 20000 in
set_option maxHeartbeats 4000000 in
theorem tx_isNumber {scr : Nat × (Nat → Int32)} {d : Nat} (hd : 0 ≤ d) (v0 : Int32) (S0 : Mem)  (rv : Int32) (E : fx_isNumber  v0 S0 = some rv) : XG scr d 85 0 [(0, .inl v0)] [] S0 (some (.inl rv)) S0 := by
  unfold fx_isNumber at E
  refine g_iload rfl rfl ?_
  refine g_push rfl ?_
  rcases xif E with ⟨h1, E⟩ | ⟨h1, E⟩
  · refine g_iclt_t rfl h1 ?_
    refine g_push rfl ?_
    obtain rfl := so1 E
    exact g_zret rfl b00
  · refine g_iclt_f rfl h1 ?_
    refine g_iload rfl rfl ?_
    refine g_push rfl ?_
    rcases xif E with ⟨h2, E⟩ | ⟨h2, E⟩
    · refine g_icgt_t rfl h2 ?_
      refine g_push rfl ?_
      obtain rfl := so1 E
      exact g_zret rfl b00
    · refine g_icgt_f rfl h2 ?_
      refine g_push rfl ?_
      refine g_goto rfl ?_
      obtain rfl := so1 E
      exact g_zret rfl b01
def fx_itemOf (v0 : Nat) (v1 : Int32) (S0 : Mem) : Option Int32 := if 0 ≤ v1 then (if (S0 v0 1) ≤ v1 then (some ((-2))) else ((fn_at v0 v1 S0).bind fun x1 => some x1)) else (some ((-1)))
set_option maxRecDepth 20000 in
set_option maxHeartbeats 4000000 in
theorem tx_itemOf {scr : Nat × (Nat → Int32)} {d : Nat} (hd : 1 ≤ d) (v0 : Nat) (v1 : Int32) (S0 : Mem) (tv0 : Ty 2 v0) (rv : Int32) (E : fx_itemOf  v0 v1 S0 = some rv) : XG scr d 87 0 [(0, .inr (some (some v0))), (1, .inl v1)] [] S0 (some (.inl rv)) S0 := by
  unfold fx_itemOf at E
  refine g_iload rfl rfl ?_
  rcases xif E with ⟨h1, E⟩ | ⟨h1, E⟩
  · refine g_ifge_t rfl h1 ?_
    refine g_iload rfl rfl ?_
    refine g_aload rfl rfl ?_
    refine g_getI rfl tv0 ?_
    rcases xif E with ⟨h2, E⟩ | ⟨h2, E⟩
    · refine g_icge_t rfl h2 ?_
      refine g_push rfl ?_
      obtain rfl := so1 E
      exact g_iret rfl
    · refine g_icge_f rfl h2 ?_
      refine g_aload rfl rfl ?_
      refine g_iload rfl rfl ?_
      obtain ⟨x1, h3, E⟩ := ob E
      refine g_inv1 (dc := 0) rfl (by omega) tv0 (Nat.le_of_ble_eq_true rfl) (fun d hd => tn_at hd v0 v1 S0 tv0 _ h3) ?_
      refine g_goto rfl ?_
      obtain rfl := so1 E
      exact g_iret rfl
  · refine g_ifge_f rfl h1 ?_
    refine g_push rfl ?_
    obtain rfl := so1 E
    exact g_iret rfl
def fx_of (v1 : Int32) (v2 : Int32) (S0 : Mem) : Option Int32 := (fw_isActor 1 v1 S0).bind fun x1 => if x1 = 0 then (some ((-1))) else ((ix v1 12).bind fun i1 => if v2 = 0 then (if (S0 (1 + 12 + 13 * i1) 0) = ((-1)) then (some ((-2))) else (some (S0 (1 + 12 + 13 * i1) 0))) else (if v2 = 1 then (some (S0 (1 + 12 + 13 * i1) 1)) else (if v2 = 2 then (some (S0 (1 + 12 + 13 * i1) 2)) else (if v2 = 3 then (some (S0 (1 + 12 + 13 * i1) 3)) else (if v2 = 4 then (some (S0 (1 + 12 + 13 * i1) 4)) else (if v2 = 5 then (if (S0 (1 + 12 + 13 * i1) 6) = 0 then (some 0) else (some 1)) else (if v2 = 6 then ((fn_at (1 + 12 + 13 * i1 + 1) ((S0 (1 + 12 + 13 * i1 + 1) 1) - 1) S0).bind fun x2 => some x2) else (if v2 = 7 then (some (S0 (1 + 12 + 13 * i1 + 1) 1)) else (if v2 = 8 then (some (S0 (1 + 12 + 13 * i1 + 3) 2)) else (if v2 = 9 then (some (S0 (1 + 12 + 13 * i1 + 6) 2)) else (if v2 = 10 then (some (S0 (1 + 12 + 13 * i1 + 9) 1)) else (if v2 = 11 then ((fc_countOf 3 v1 S0).bind fun x3 => some x3) else (if v2 = 12 then ((fn_countFrom (1 + 12 + 13 * i1 + 11) ((S0 1 6) - (S0 (1 + 12 + 13 * i1) 4)) S0).bind fun x4 => some x4) else (if v2 = 13 then ((fw_childBits 1 v1 S0).bind fun x5 => some x5) else (some ((-1)))))))))))))))))
set_option maxRecDepth 20000 in
set_option maxHeartbeats 4000000 in
theorem tx_of {scr : Nat × (Nat → Int32)} {d : Nat} (hd : 1 ≤ d) (v1 : Int32) (v2 : Int32) (S0 : Mem)  (rv : Int32) (E : fx_of  v1 v2 S0 = some rv) : XG scr d 90 0 [(0, .inr (some (some 0))), (1, .inl v1), (2, .inl v2)] [] S0 (some (.inl rv)) S0 := by
  unfold fx_of at E
  refine g_aload rfl rfl ?_
  refine g_getR rfl ty_x (fR_7_0 ty_x) ?_
  refine g_iload rfl rfl ?_
  obtain ⟨x1, h1, E⟩ := ob E
  refine g_inv1 (dc := 0) rfl (by omega) fT_7_0 (Nat.le_of_ble_eq_true rfl) (fun d hd => tw_isActor hd 1 v1 S0 fT_7_0 _ h1) ?_
  rcases xif E with ⟨h2, E⟩ | ⟨h2, E⟩
  · refine g_ifne_t rfl h2 ?_
    refine g_push rfl ?_
    obtain rfl := so1 E
    exact g_iret rfl
  · refine g_ifne_f rfl h2 ?_
    refine g_aload rfl rfl ?_
    refine g_getR rfl ty_x (fR_7_0 ty_x) ?_
    refine g_getR rfl fT_7_0 (fR_6_0 fT_7_0) ?_
    refine g_iload rfl rfl ?_
    obtain ⟨i1, h3, E⟩ := ob E
    refine g_aald rfl (eK_a _ fT_7_0.1 fT_7_0.2).1.1 (eK_a _ fT_7_0.1 fT_7_0.2).1.2 (by decide) h3 (rA_a fT_7_0 h3) ?_
    refine g_astore (L2 := [(3, .inr (some (some (1 + 12 + 13 * i1)))), (0, .inr (some (some 0))), (1, .inl v1), (2, .inl v2)]) rfl rfl ?_
    refine g_iload rfl rfl ?_
    rcases xif E with ⟨h4, E⟩ | ⟨h4, E⟩
    · refine g_tsw (u := 96) rfl (by rw [h4]; decide +kernel) ?_
      refine g_aload rfl rfl ?_
      refine g_getI rfl (eT_a fT_7_0 h3) ?_
      refine g_push rfl ?_
      rcases xif E with ⟨h5, E⟩ | ⟨h5, E⟩
      · refine g_icne_t rfl h5 ?_
        refine g_push rfl ?_
        refine g_goto rfl ?_
        obtain rfl := so1 E
        exact g_iret rfl
      · refine g_icne_f rfl h5 ?_
        refine g_aload rfl rfl ?_
        refine g_getI rfl (eT_a fT_7_0 h3) ?_
        obtain rfl := so1 E
        exact g_iret rfl
    · rcases xif E with ⟨h6, E⟩ | ⟨h6, E⟩
      · refine g_tsw (u := 114) rfl (by rw [h6]; decide +kernel) ?_
        refine g_aload rfl rfl ?_
        refine g_getI rfl (eT_a fT_7_0 h3) ?_
        obtain rfl := so1 E
        exact g_iret rfl
      · rcases xif E with ⟨h7, E⟩ | ⟨h7, E⟩
        · refine g_tsw (u := 119) rfl (by rw [h7]; decide +kernel) ?_
          refine g_aload rfl rfl ?_
          refine g_getI rfl (eT_a fT_7_0 h3) ?_
          obtain rfl := so1 E
          exact g_iret rfl
        · rcases xif E with ⟨h8, E⟩ | ⟨h8, E⟩
          · refine g_tsw (u := 124) rfl (by rw [h8]; decide +kernel) ?_
            refine g_aload rfl rfl ?_
            refine g_getI rfl (eT_a fT_7_0 h3) ?_
            obtain rfl := so1 E
            exact g_iret rfl
          · rcases xif E with ⟨h9, E⟩ | ⟨h9, E⟩
            · refine g_tsw (u := 129) rfl (by rw [h9]; decide +kernel) ?_
              refine g_aload rfl rfl ?_
              refine g_getI rfl (eT_a fT_7_0 h3) ?_
              obtain rfl := so1 E
              exact g_iret rfl
            · rcases xif E with ⟨h10, E⟩ | ⟨h10, E⟩
              · refine g_tsw (u := 134) rfl (by rw [h10]; decide +kernel) ?_
                refine g_aload rfl rfl ?_
                refine g_getI rfl (eT_a fT_7_0 h3) ?_
                rcases xif E with ⟨h11, E⟩ | ⟨h11, E⟩
                · refine g_ifeq_t rfl h11 ?_
                  refine g_push rfl ?_
                  obtain rfl := so1 E
                  exact g_iret rfl
                · refine g_ifeq_f rfl h11 ?_
                  refine g_push rfl ?_
                  refine g_goto rfl ?_
                  obtain rfl := so1 E
                  exact g_iret rfl
              · rcases xif E with ⟨h12, E⟩ | ⟨h12, E⟩
                · refine g_tsw (u := 147) rfl (by rw [h12]; decide +kernel) ?_
                  refine g_aload rfl rfl ?_
                  refine g_getR rfl (eT_a fT_7_0 h3) (fR_0_7 (eT_a fT_7_0 h3)) ?_
                  refine g_aload rfl rfl ?_
                  refine g_getR rfl (eT_a fT_7_0 h3) (fR_0_7 (eT_a fT_7_0 h3)) ?_
                  refine g_getI rfl (fT_0_7 (eT_a fT_7_0 h3)) ?_
                  refine g_push rfl ?_
                  refine g_isub rfl ?_
                  obtain ⟨x2, h13, E⟩ := ob E
                  refine g_inv1 (dc := 0) rfl (by omega) (fT_0_7 (eT_a fT_7_0 h3)) (Nat.le_of_ble_eq_true rfl) (fun d hd => tn_at hd (1 + 12 + 13 * i1 + 1) ((S0 (1 + 12 + 13 * i1 + 1) 1) - 1) S0 (fT_0_7 (eT_a fT_7_0 h3)) _ h13) ?_
                  obtain rfl := so1 E
                  exact g_iret rfl
                · rcases xif E with ⟨h14, E⟩ | ⟨h14, E⟩
                  · refine g_tsw (u := 164) rfl (by rw [h14]; decide +kernel) ?_
                    refine g_aload rfl rfl ?_
                    refine g_getR rfl (eT_a fT_7_0 h3) (fR_0_7 (eT_a fT_7_0 h3)) ?_
                    refine g_getI rfl (fT_0_7 (eT_a fT_7_0 h3)) ?_
                    obtain rfl := so1 E
                    exact g_iret rfl
                  · rcases xif E with ⟨h15, E⟩ | ⟨h15, E⟩
                    · refine g_tsw (u := 172) rfl (by rw [h15]; decide +kernel) ?_
                      refine g_aload rfl rfl ?_
                      refine g_getR rfl (eT_a fT_7_0 h3) (fR_0_8 (eT_a fT_7_0 h3)) ?_
                      refine g_getI rfl (fT_0_8 (eT_a fT_7_0 h3)) ?_
                      obtain rfl := so1 E
                      exact g_iret rfl
                    · rcases xif E with ⟨h16, E⟩ | ⟨h16, E⟩
                      · refine g_tsw (u := 180) rfl (by rw [h16]; decide +kernel) ?_
                        refine g_aload rfl rfl ?_
                        refine g_getR rfl (eT_a fT_7_0 h3) (fR_0_9 (eT_a fT_7_0 h3)) ?_
                        refine g_getI rfl (fT_0_9 (eT_a fT_7_0 h3)) ?_
                        obtain rfl := so1 E
                        exact g_iret rfl
                      · rcases xif E with ⟨h17, E⟩ | ⟨h17, E⟩
                        · refine g_tsw (u := 188) rfl (by rw [h17]; decide +kernel) ?_
                          refine g_aload rfl rfl ?_
                          refine g_getR rfl (eT_a fT_7_0 h3) (fR_0_10 (eT_a fT_7_0 h3)) ?_
                          refine g_getI rfl (fT_0_10 (eT_a fT_7_0 h3)) ?_
                          obtain rfl := so1 E
                          exact g_iret rfl
                        · rcases xif E with ⟨h18, E⟩ | ⟨h18, E⟩
                          · refine g_tsw (u := 196) rfl (by rw [h18]; decide +kernel) ?_
                            refine g_aload rfl rfl ?_
                            refine g_getR rfl ty_x (fR_7_0 ty_x) ?_
                            refine g_getR rfl fT_7_0 (fR_6_1 fT_7_0) ?_
                            refine g_iload rfl rfl ?_
                            obtain ⟨x3, h19, E⟩ := ob E
                            refine g_inv1 (dc := 0) rfl (by omega) (fT_6_1 fT_7_0) (Nat.le_of_ble_eq_true rfl) (fun d hd => tc_countOf hd 3 v1 S0 (fT_6_1 fT_7_0) _ h19) ?_
                            obtain rfl := so1 E
                            exact g_iret rfl
                          · rcases xif E with ⟨h20, E⟩ | ⟨h20, E⟩
                            · refine g_tsw (u := 208) rfl (by rw [h20]; decide +kernel) ?_
                              refine g_aload rfl rfl ?_
                              refine g_getR rfl (eT_a fT_7_0 h3) (fR_0_11 (eT_a fT_7_0 h3)) ?_
                              refine g_aload rfl rfl ?_
                              refine g_getR rfl ty_x (fR_7_0 ty_x) ?_
                              refine g_getI rfl fT_7_0 ?_
                              refine g_aload rfl rfl ?_
                              refine g_getI rfl (eT_a fT_7_0 h3) ?_
                              refine g_isub rfl ?_
                              obtain ⟨x4, h21, E⟩ := ob E
                              refine g_inv1 (dc := 0) rfl (by omega) (fT_0_11 (eT_a fT_7_0 h3)) (Nat.le_of_ble_eq_true rfl) (fun d hd => tn_countFrom hd (1 + 12 + 13 * i1 + 11) ((S0 1 6) - (S0 (1 + 12 + 13 * i1) 4)) S0 (fT_0_11 (eT_a fT_7_0 h3)) _ h21) ?_
                              obtain rfl := so1 E
                              exact g_iret rfl
                            · rcases xif E with ⟨h22, E⟩ | ⟨h22, E⟩
                              · refine g_tsw (u := 228) rfl (by rw [h22]; decide +kernel) ?_
                                refine g_aload rfl rfl ?_
                                refine g_getR rfl ty_x (fR_7_0 ty_x) ?_
                                refine g_iload rfl rfl ?_
                                obtain ⟨x5, h23, E⟩ := ob E
                                refine g_inv1 (dc := 0) rfl (by omega) fT_7_0 (Nat.le_of_ble_eq_true rfl) (fun d hd => tw_childBits hd 1 v1 S0 fT_7_0 _ h23) ?_
                                obtain rfl := so1 E
                                exact g_iret rfl
                              · refine g_tsw (u := 237) rfl (tsw_d (sw_def (n := 13) rfl _ (by decide +kernel) (fc h4 (fc h6 (fc h7 (fc h8 (fc h9 (fc h10 (fc h12 (fc h14 (fc h15 (fc h16 (fc h17 (fc h18 (fc h20 (fc h22 fn)))))))))))))))) ?_
                                refine g_push rfl ?_
                                obtain rfl := so1 E
                                exact g_iret rfl
def fx_quiet_13b (k13 : Int32 → Mem → Option (Int32 × Mem)) (v1 : Int32) (S0 : Mem) : Option (Int32 × Mem) := if 200 ≤ v1 then ((fw_hasStep 169 S0).bind fun x1 => if x1 = 0 then (some (200, S0)) else (some ((-2), S0))) else (bd (fw_step 169 S0) fun x2 S1 => if x2 = 0 then (some (v1, S1)) else (k13 (v1 + 1) S1))
set_option maxRecDepth 20000 in
set_option maxHeartbeats 4000000 in
theorem tx_quiet_13b {scr : Nat × (Nat → Int32)} {d : Nat} (hd : 6 ≤ d) {k13 : Int32 → Mem → Option (Int32 × Mem)} (hk13 : ∀ (v1 : Int32) (S0 : Mem), ∀ (rv : Int32) (SR : Mem), k13 v1 S0 = some (rv, SR) → XG scr d 93 13 [(0, .inr (some (some 0))), (1, .inl v1)] [] S0 (some (.inl rv)) SR) (v1 : Int32) (S0 : Mem)  (rv : Int32) (SR : Mem) (E : fx_quiet_13b k13 v1 S0 = some (rv, SR)) : XG scr d 93 13 [(0, .inr (some (some 0))), (1, .inl v1)] [] S0 (some (.inl rv)) SR := by
  unfold fx_quiet_13b at E
  refine g_iload rfl rfl ?_
  refine g_push rfl ?_
  rcases xif E with ⟨h1, E⟩ | ⟨h1, E⟩
  · refine g_icge_t rfl h1 ?_
    refine g_aload rfl rfl ?_
    refine g_getR rfl ty_x (fR_7_1 ty_x) ?_
    obtain ⟨x1, h2, E⟩ := ob E
    refine g_inv0 (dc := 2) rfl (by omega) fT_7_1 (Nat.le_of_ble_eq_true rfl) (fun d hd => tw_hasStep hd 169 S0 fT_7_1 _ h2) ?_
    rcases xif E with ⟨h3, E⟩ | ⟨h3, E⟩
    · refine g_ifeq_t rfl h3 ?_
      refine g_push rfl ?_
      obtain ⟨rfl, rfl⟩ := so2 E
      exact g_iret rfl
    · refine g_ifeq_f rfl h3 ?_
      refine g_push rfl ?_
      refine g_goto rfl ?_
      obtain ⟨rfl, rfl⟩ := so2 E
      exact g_iret rfl
  · refine g_icge_f rfl h1 ?_
    refine g_aload rfl rfl ?_
    refine g_getR rfl ty_x (fR_7_1 ty_x) ?_
    obtain ⟨x2, S1, h4, E⟩ := ob2 E
    refine g_inv0 (dc := 5) rfl (by omega) fT_7_1 (Nat.le_of_ble_eq_true rfl) (fun d hd => tw_step hd 169 S0 fT_7_1 _ _ h4) ?_
    rcases xif E with ⟨h5, E⟩ | ⟨h5, E⟩
    · refine g_ifne_t rfl h5 ?_
      refine g_iload rfl rfl ?_
      obtain ⟨rfl, rfl⟩ := so2 E
      exact g_iret rfl
    · refine g_ifne_f rfl h5 ?_
      refine g_iinc (L2 := [(1, .inl (v1 + 1)), (0, .inr (some (some 0)))]) rfl rfl rfl ?_
      refine g_goto rfl ?_
      exact g_loc (lsub_cons rfl (lsub_cons rfl lsub_nil)) (hk13 (v1 + 1) S1 _ _ E)
def fx_quiet_13  : Nat → Int32 → Mem → Option (Int32 × Mem)
  | 0 => fun _ _ => none
  | n + 1 => fx_quiet_13b  (fx_quiet_13  n)
set_option maxRecDepth 20000 in
set_option maxHeartbeats 4000000 in
theorem tx_quiet_13 {scr : Nat × (Nat → Int32)} {d : Nat} (hd : 6 ≤ d)  : ∀ (n : Nat) (v1 : Int32) (S0 : Mem), ∀ (rv : Int32) (SR : Mem), fx_quiet_13  n v1 S0 = some (rv, SR) → XG scr d 93 13 [(0, .inr (some (some 0))), (1, .inl v1)] [] S0 (some (.inl rv)) SR
  | 0, v1, S0, rv, SR, E => nn E
  | n + 1, v1, S0, rv, SR, E => tx_quiet_13b hd  (tx_quiet_13 hd  n) v1 S0  rv SR E
def fx_quiet  (S0 : Mem) : Option (Int32 × Mem) := (fw_copyFrom 169 1 S0).bind fun S1 => fx_quiet_13 LF 0 S1
set_option maxRecDepth 20000 in
set_option maxHeartbeats 4000000 in
theorem tx_quiet {scr : Nat × (Nat → Int32)} {d : Nat} (hd : 6 ≤ d)  (S0 : Mem)  (rv : Int32) (SR : Mem) (E : fx_quiet   S0 = some (rv, SR)) : XG scr d 93 0 [(0, .inr (some (some 0)))] [] S0 (some (.inl rv)) SR := by
  unfold fx_quiet at E
  refine g_aload rfl rfl ?_
  refine g_getR rfl ty_x (fR_7_1 ty_x) ?_
  refine g_aload rfl rfl ?_
  refine g_getR rfl ty_x (fR_7_0 ty_x) ?_
  obtain ⟨S1, h1, E⟩ := ob E
  refine g_inv1 (dc := 2) rfl (by omega) fT_7_1 (Nat.le_of_ble_eq_true rfl) (fun d hd => tw_copyFrom hd 169 1 S0 fT_7_1 fT_7_0 _ h1) ?_
  refine g_push rfl ?_
  refine g_istore (L2 := [(1, .inl 0), (0, .inr (some (some 0)))]) rfl rfl ?_
  exact g_loc (lsub_cons rfl (lsub_cons rfl lsub_nil)) (tx_quiet_13 hd LF 0 S1 _ _ E)
def fx_run (v1 : Int32) (S0 : Mem) : Option (Int32 × Mem) := (fx_isSteps v1 S0).bind fun x1 => if x1 = 0 then (some ((-1), S0)) else (bd (fw_makeSteps 1 v1 S0) fun x2 S1 => some (x2, S1))
set_option maxRecDepth 20000 in
set_option maxHeartbeats 4000000 in
theorem tx_run {scr : Nat × (Nat → Int32)} {d : Nat} (hd : 7 ≤ d) (v1 : Int32) (S0 : Mem)  (rv : Int32) (SR : Mem) (E : fx_run  v1 S0 = some (rv, SR)) : XG scr d 96 0 [(0, .inr (some (some 0))), (1, .inl v1)] [] S0 (some (.inl rv)) SR := by
  unfold fx_run at E
  refine g_iload rfl rfl ?_
  obtain ⟨x1, h1, E⟩ := ob E
  refine g_invS1 (dc := 0) rfl (by omega) (Nat.le_of_ble_eq_true rfl) (fun d hd => tx_isSteps hd v1 S0 _ h1) ?_
  rcases xif E with ⟨h2, E⟩ | ⟨h2, E⟩
  · refine g_ifeq_t rfl h2 ?_
    refine g_push rfl ?_
    obtain ⟨rfl, rfl⟩ := so2 E
    exact g_iret rfl
  · refine g_ifeq_f rfl h2 ?_
    refine g_aload rfl rfl ?_
    refine g_getR rfl ty_x (fR_7_0 ty_x) ?_
    refine g_iload rfl rfl ?_
    obtain ⟨x2, S1, h3, E⟩ := ob2 E
    refine g_inv1 (dc := 6) rfl (by omega) fT_7_0 (Nat.le_of_ble_eq_true rfl) (fun d hd => tw_makeSteps hd 1 v1 S0 fT_7_0 _ _ h3) ?_
    refine g_goto rfl ?_
    obtain ⟨rfl, rfl⟩ := so2 E
    exact g_iret rfl
def fx_seed (v1 : Int32) (S0 : Mem) : Option (Int32 × Mem) := (some (up2 S0 1 9 v1)).bind fun S1 => some (S0 1 9, S1)
set_option maxRecDepth 20000 in
set_option maxHeartbeats 4000000 in
theorem tx_seed {scr : Nat × (Nat → Int32)} {d : Nat} (hd : 0 ≤ d) (v1 : Int32) (S0 : Mem)  (rv : Int32) (SR : Mem) (E : fx_seed  v1 S0 = some (rv, SR)) : XG scr d 98 0 [(0, .inr (some (some 0))), (1, .inl v1)] [] S0 (some (.inl rv)) SR := by
  unfold fx_seed at E
  refine g_aload rfl rfl ?_
  refine g_getR rfl ty_x (fR_7_0 ty_x) ?_
  refine g_getI rfl fT_7_0 ?_
  refine g_istore (L2 := [(2, .inl (S0 1 9)), (0, .inr (some (some 0))), (1, .inl v1)]) rfl rfl ?_
  refine g_aload rfl rfl ?_
  refine g_getR rfl ty_x (fR_7_0 ty_x) ?_
  refine g_iload rfl rfl ?_
  obtain ⟨S1, hS1, E⟩ := ob E
  refine g_putI rfl fT_7_0 hS1 ?_
  refine g_iload rfl rfl ?_
  obtain ⟨rfl, rfl⟩ := so2 E
  exact g_iret rfl
def fx_stop (v1 : Int32) (S0 : Mem) : Option (Int32 × Mem) := (fw_isActor 1 v1 S0).bind fun x1 => if x1 = 0 then (some ((-1), S0)) else ((fw_isLive 1 v1 S0).bind fun x2 => if x2 = 0 then (some ((-5), S0)) else (bd (fw_halt 1 v1 S0) fun x3 S1 => some (x3, S1)))
set_option maxRecDepth 20000 in
set_option maxHeartbeats 4000000 in
theorem tx_stop {scr : Nat × (Nat → Int32)} {d : Nat} (hd : 3 ≤ d) (v1 : Int32) (S0 : Mem)  (rv : Int32) (SR : Mem) (E : fx_stop  v1 S0 = some (rv, SR)) : XG scr d 101 0 [(0, .inr (some (some 0))), (1, .inl v1)] [] S0 (some (.inl rv)) SR := by
  unfold fx_stop at E
  refine g_aload rfl rfl ?_
  refine g_getR rfl ty_x (fR_7_0 ty_x) ?_
  refine g_iload rfl rfl ?_
  obtain ⟨x1, h1, E⟩ := ob E
  refine g_inv1 (dc := 0) rfl (by omega) fT_7_0 (Nat.le_of_ble_eq_true rfl) (fun d hd => tw_isActor hd 1 v1 S0 fT_7_0 _ h1) ?_
  rcases xif E with ⟨h2, E⟩ | ⟨h2, E⟩
  · refine g_ifne_t rfl h2 ?_
    refine g_push rfl ?_
    obtain ⟨rfl, rfl⟩ := so2 E
    exact g_iret rfl
  · refine g_ifne_f rfl h2 ?_
    refine g_aload rfl rfl ?_
    refine g_getR rfl ty_x (fR_7_0 ty_x) ?_
    refine g_iload rfl rfl ?_
    obtain ⟨x2, h3, E⟩ := ob E
    refine g_inv1 (dc := 0) rfl (by omega) fT_7_0 (Nat.le_of_ble_eq_true rfl) (fun d hd => tw_isLive hd 1 v1 S0 fT_7_0 _ h3) ?_
    rcases xif E with ⟨h4, E⟩ | ⟨h4, E⟩
    · refine g_ifeq_t rfl h4 ?_
      refine g_push rfl ?_
      obtain ⟨rfl, rfl⟩ := so2 E
      exact g_iret rfl
    · refine g_ifeq_f rfl h4 ?_
      refine g_aload rfl rfl ?_
      refine g_getR rfl ty_x (fR_7_0 ty_x) ?_
      refine g_iload rfl rfl ?_
      obtain ⟨x3, S1, h5, E⟩ := ob2 E
      refine g_inv1 (dc := 2) rfl (by omega) fT_7_0 (Nat.le_of_ble_eq_true rfl) (fun d hd => tw_halt hd 1 v1 S0 fT_7_0 _ _ h5) ?_
      refine g_goto rfl ?_
      obtain ⟨rfl, rfl⟩ := so2 E
      exact g_iret rfl
def fx_tell (v1 : Int32) (v2 : Int32) (v3 : Int32) (S0 : Mem) : Option (Int32 × Mem) := (fw_isActor 1 v1 S0).bind fun x1 => if x1 = 0 then (some ((-1), S0)) else (if v2 = ((-1)) then ((fx_isNumber v3 S0).bind fun x2 => if x2 = 0 then (some ((-1), S0)) else (bd (fw_send 1 v1 v2 v3 S0) fun x3 S1 => if x3 = 0 then (some ((-5), S1)) else ((ix v1 12).bind fun i1 => some (S1 (1 + 12 + 13 * i1 + 3) 2, S1)))) else ((fw_isActor 1 v2 S0).bind fun x4 => if x4 = 0 then (some ((-1), S0)) else ((fx_isNumber v3 S0).bind fun x5 => if x5 = 0 then (some ((-1), S0)) else (bd (fw_send 1 v1 v2 v3 S0) fun x6 S2 => if x6 = 0 then (some ((-5), S2)) else ((ix v1 12).bind fun i2 => some (S2 (1 + 12 + 13 * i2 + 3) 2, S2))))))
set_option maxRecDepth 20000 in
set_option maxHeartbeats 4000000 in
theorem tx_tell {scr : Nat × (Nat → Int32)} {d : Nat} (hd : 2 ≤ d) (v1 : Int32) (v2 : Int32) (v3 : Int32) (S0 : Mem)  (rv : Int32) (SR : Mem) (E : fx_tell  v1 v2 v3 S0 = some (rv, SR)) : XG scr d 102 0 [(0, .inr (some (some 0))), (1, .inl v1), (2, .inl v2), (3, .inl v3)] [] S0 (some (.inl rv)) SR := by
  unfold fx_tell at E
  refine g_aload rfl rfl ?_
  refine g_getR rfl ty_x (fR_7_0 ty_x) ?_
  refine g_iload rfl rfl ?_
  obtain ⟨x1, h1, E⟩ := ob E
  refine g_inv1 (dc := 0) rfl (by omega) fT_7_0 (Nat.le_of_ble_eq_true rfl) (fun d hd => tw_isActor hd 1 v1 S0 fT_7_0 _ h1) ?_
  rcases xif E with ⟨h2, E⟩ | ⟨h2, E⟩
  · refine g_ifeq_t rfl h2 ?_
    refine g_push rfl ?_
    obtain ⟨rfl, rfl⟩ := so2 E
    exact g_iret rfl
  · refine g_ifeq_f rfl h2 ?_
    refine g_iload rfl rfl ?_
    refine g_push rfl ?_
    rcases xif E with ⟨h3, E⟩ | ⟨h3, E⟩
    · refine g_iceq_t rfl h3 ?_
      refine g_iload rfl rfl ?_
      obtain ⟨x2, h4, E⟩ := ob E
      refine g_invS1 (dc := 0) rfl (by omega) (Nat.le_of_ble_eq_true rfl) (fun d hd => tx_isNumber hd v3 S0 _ h4) ?_
      rcases xif E with ⟨h5, E⟩ | ⟨h5, E⟩
      · refine g_ifne_t rfl h5 ?_
        refine g_push rfl ?_
        obtain ⟨rfl, rfl⟩ := so2 E
        exact g_iret rfl
      · refine g_ifne_f rfl h5 ?_
        refine g_aload rfl rfl ?_
        refine g_getR rfl ty_x (fR_7_0 ty_x) ?_
        refine g_iload rfl rfl ?_
        refine g_iload rfl rfl ?_
        refine g_iload rfl rfl ?_
        obtain ⟨x3, S1, h6, E⟩ := ob2 E
        refine g_inv3 (dc := 1) rfl (by omega) fT_7_0 (Nat.le_of_ble_eq_true rfl) (fun d hd => tw_send hd 1 v1 v2 v3 S0 fT_7_0 _ _ h6) ?_
        rcases xif E with ⟨h7, E⟩ | ⟨h7, E⟩
        · refine g_ifeq_t rfl h7 ?_
          refine g_push rfl ?_
          obtain ⟨rfl, rfl⟩ := so2 E
          exact g_iret rfl
        · refine g_ifeq_f rfl h7 ?_
          refine g_aload rfl rfl ?_
          refine g_getR rfl ty_x (fR_7_0 ty_x) ?_
          refine g_getR rfl fT_7_0 (fR_6_0 fT_7_0) ?_
          refine g_iload rfl rfl ?_
          obtain ⟨i1, h8, E⟩ := ob E
          refine g_aald rfl (eK_a _ fT_7_0.1 fT_7_0.2).1.1 (eK_a _ fT_7_0.1 fT_7_0.2).1.2 (by decide) h8 (rA_a fT_7_0 h8) ?_
          refine g_getR rfl (eT_a fT_7_0 h8) (fR_0_8 (eT_a fT_7_0 h8)) ?_
          refine g_getI rfl (fT_0_8 (eT_a fT_7_0 h8)) ?_
          refine g_goto rfl ?_
          obtain ⟨rfl, rfl⟩ := so2 E
          exact g_iret rfl
    · refine g_iceq_f rfl h3 ?_
      refine g_aload rfl rfl ?_
      refine g_getR rfl ty_x (fR_7_0 ty_x) ?_
      refine g_iload rfl rfl ?_
      obtain ⟨x4, h9, E⟩ := ob E
      refine g_inv1 (dc := 0) rfl (by omega) fT_7_0 (Nat.le_of_ble_eq_true rfl) (fun d hd => tw_isActor hd 1 v2 S0 fT_7_0 _ h9) ?_
      rcases xif E with ⟨h10, E⟩ | ⟨h10, E⟩
      · refine g_ifeq_t rfl h10 ?_
        refine g_push rfl ?_
        obtain ⟨rfl, rfl⟩ := so2 E
        exact g_iret rfl
      · refine g_ifeq_f rfl h10 ?_
        refine g_iload rfl rfl ?_
        obtain ⟨x5, h11, E⟩ := ob E
        refine g_invS1 (dc := 0) rfl (by omega) (Nat.le_of_ble_eq_true rfl) (fun d hd => tx_isNumber hd v3 S0 _ h11) ?_
        rcases xif E with ⟨h12, E⟩ | ⟨h12, E⟩
        · refine g_ifne_t rfl h12 ?_
          refine g_push rfl ?_
          obtain ⟨rfl, rfl⟩ := so2 E
          exact g_iret rfl
        · refine g_ifne_f rfl h12 ?_
          refine g_aload rfl rfl ?_
          refine g_getR rfl ty_x (fR_7_0 ty_x) ?_
          refine g_iload rfl rfl ?_
          refine g_iload rfl rfl ?_
          refine g_iload rfl rfl ?_
          obtain ⟨x6, S2, h13, E⟩ := ob2 E
          refine g_inv3 (dc := 1) rfl (by omega) fT_7_0 (Nat.le_of_ble_eq_true rfl) (fun d hd => tw_send hd 1 v1 v2 v3 S0 fT_7_0 _ _ h13) ?_
          rcases xif E with ⟨h14, E⟩ | ⟨h14, E⟩
          · refine g_ifeq_t rfl h14 ?_
            refine g_push rfl ?_
            obtain ⟨rfl, rfl⟩ := so2 E
            exact g_iret rfl
          · refine g_ifeq_f rfl h14 ?_
            refine g_aload rfl rfl ?_
            refine g_getR rfl ty_x (fR_7_0 ty_x) ?_
            refine g_getR rfl fT_7_0 (fR_6_0 fT_7_0) ?_
            refine g_iload rfl rfl ?_
            obtain ⟨i2, h15, E⟩ := ob E
            refine g_aald rfl (eK_a _ fT_7_0.1 fT_7_0.2).1.1 (eK_a _ fT_7_0.1 fT_7_0.2).1.2 (by decide) h15 (rA_a fT_7_0 h15) ?_
            refine g_getR rfl (eT_a fT_7_0 h15) (fR_0_8 (eT_a fT_7_0 h15)) ?_
            refine g_getI rfl (fT_0_8 (eT_a fT_7_0 h15)) ?_
            refine g_goto rfl ?_
            obtain ⟨rfl, rfl⟩ := so2 E
            exact g_iret rfl
def fx_timer (v1 : Int32) (v2 : Int32) (S0 : Mem) : Option Int32 := if v1 < 0 then (some ((-1))) else (if v2 < 0 then (some ((-1))) else (if v2 ≤ 2 then (if v1 < (S0 3 3) then (if v2 = 0 then ((fc_ownerAt 3 v1 S0).bind fun x1 => some x1) else (if v2 = 1 then ((fc_dueAt 3 v1 S0).bind fun x2 => some x2) else ((fc_numberAt 3 v1 S0).bind fun x3 => some (100 + x3)))) else (some ((-2)))) else (some ((-1)))))
set_option maxRecDepth 20000 in
set_option maxHeartbeats 4000000 in
theorem tx_timer {scr : Nat × (Nat → Int32)} {d : Nat} (hd : 1 ≤ d) (v1 : Int32) (v2 : Int32) (S0 : Mem)  (rv : Int32) (E : fx_timer  v1 v2 S0 = some rv) : XG scr d 104 0 [(0, .inr (some (some 0))), (1, .inl v1), (2, .inl v2)] [] S0 (some (.inl rv)) S0 := by
  unfold fx_timer at E
  refine g_iload rfl rfl ?_
  rcases xif E with ⟨h1, E⟩ | ⟨h1, E⟩
  · refine g_iflt_t rfl h1 ?_
    refine g_push rfl ?_
    obtain rfl := so1 E
    exact g_iret rfl
  · refine g_iflt_f rfl h1 ?_
    refine g_iload rfl rfl ?_
    rcases xif E with ⟨h2, E⟩ | ⟨h2, E⟩
    · refine g_iflt_t rfl h2 ?_
      refine g_push rfl ?_
      obtain rfl := so1 E
      exact g_iret rfl
    · refine g_iflt_f rfl h2 ?_
      refine g_iload rfl rfl ?_
      refine g_push rfl ?_
      rcases xif E with ⟨h3, E⟩ | ⟨h3, E⟩
      · refine g_icle_t rfl h3 ?_
        refine g_aload rfl rfl ?_
        refine g_getR rfl ty_x (fR_7_0 ty_x) ?_
        refine g_getR rfl fT_7_0 (fR_6_1 fT_7_0) ?_
        refine g_astore (L2 := [(3, .inr (some (some 3))), (0, .inr (some (some 0))), (1, .inl v1), (2, .inl v2)]) rfl rfl ?_
        refine g_iload rfl rfl ?_
        refine g_aload rfl rfl ?_
        refine g_getI rfl (fT_6_1 fT_7_0) ?_
        rcases xif E with ⟨h4, E⟩ | ⟨h4, E⟩
        · refine g_iclt_t rfl h4 ?_
          refine g_iload rfl rfl ?_
          rcases xif E with ⟨h5, E⟩ | ⟨h5, E⟩
          · refine g_ifne_t rfl h5 ?_
            refine g_aload rfl rfl ?_
            refine g_iload rfl rfl ?_
            obtain ⟨x1, h6, E⟩ := ob E
            refine g_inv1 (dc := 0) rfl (by omega) (fT_6_1 fT_7_0) (Nat.le_of_ble_eq_true rfl) (fun d hd => tc_ownerAt hd 3 v1 S0 (fT_6_1 fT_7_0) _ h6) ?_
            refine g_goto rfl ?_
            obtain rfl := so1 E
            exact g_iret rfl
          · refine g_ifne_f rfl h5 ?_
            refine g_iload rfl rfl ?_
            refine g_push rfl ?_
            rcases xif E with ⟨h7, E⟩ | ⟨h7, E⟩
            · refine g_icne_t rfl h7 ?_
              refine g_aload rfl rfl ?_
              refine g_iload rfl rfl ?_
              obtain ⟨x2, h8, E⟩ := ob E
              refine g_inv1 (dc := 0) rfl (by omega) (fT_6_1 fT_7_0) (Nat.le_of_ble_eq_true rfl) (fun d hd => tc_dueAt hd 3 v1 S0 (fT_6_1 fT_7_0) _ h8) ?_
              refine g_goto rfl ?_
              obtain rfl := so1 E
              exact g_iret rfl
            · refine g_icne_f rfl h7 ?_
              refine g_push rfl ?_
              refine g_aload rfl rfl ?_
              refine g_iload rfl rfl ?_
              obtain ⟨x3, h9, E⟩ := ob E
              refine g_inv1 (dc := 0) rfl (by omega) (fT_6_1 fT_7_0) (Nat.le_of_ble_eq_true rfl) (fun d hd => tc_numberAt hd 3 v1 S0 (fT_6_1 fT_7_0) _ h9) ?_
              refine g_iadd rfl ?_
              obtain rfl := so1 E
              exact g_iret rfl
        · refine g_iclt_f rfl h4 ?_
          refine g_push rfl ?_
          obtain rfl := so1 E
          exact g_iret rfl
      · refine g_icle_f rfl h3 ?_
        refine g_push rfl ?_
        obtain rfl := so1 E
        exact g_iret rfl
def fx_watcher (v1 : Int32) (v2 : Int32) (S0 : Mem) : Option Int32 := (fw_isActor 1 v1 S0).bind fun x1 => if x1 = 0 then (some ((-1))) else ((ix v1 12).bind fun i1 => (fx_itemOf (1 + 12 + 13 * i1 + 9) v2 S0).bind fun x2 => some x2)
set_option maxRecDepth 20000 in
set_option maxHeartbeats 4000000 in
theorem tx_watcher {scr : Nat × (Nat → Int32)} {d : Nat} (hd : 2 ≤ d) (v1 : Int32) (v2 : Int32) (S0 : Mem)  (rv : Int32) (E : fx_watcher  v1 v2 S0 = some rv) : XG scr d 105 0 [(0, .inr (some (some 0))), (1, .inl v1), (2, .inl v2)] [] S0 (some (.inl rv)) S0 := by
  unfold fx_watcher at E
  refine g_aload rfl rfl ?_
  refine g_getR rfl ty_x (fR_7_0 ty_x) ?_
  refine g_iload rfl rfl ?_
  obtain ⟨x1, h1, E⟩ := ob E
  refine g_inv1 (dc := 0) rfl (by omega) fT_7_0 (Nat.le_of_ble_eq_true rfl) (fun d hd => tw_isActor hd 1 v1 S0 fT_7_0 _ h1) ?_
  rcases xif E with ⟨h2, E⟩ | ⟨h2, E⟩
  · refine g_ifeq_t rfl h2 ?_
    refine g_push rfl ?_
    obtain rfl := so1 E
    exact g_iret rfl
  · refine g_ifeq_f rfl h2 ?_
    refine g_aload rfl rfl ?_
    refine g_getR rfl ty_x (fR_7_0 ty_x) ?_
    refine g_getR rfl fT_7_0 (fR_6_0 fT_7_0) ?_
    refine g_iload rfl rfl ?_
    obtain ⟨i1, h3, E⟩ := ob E
    refine g_aald rfl (eK_a _ fT_7_0.1 fT_7_0.2).1.1 (eK_a _ fT_7_0.1 fT_7_0.2).1.2 (by decide) h3 (rA_a fT_7_0 h3) ?_
    refine g_getR rfl (eT_a fT_7_0 h3) (fR_0_10 (eT_a fT_7_0 h3)) ?_
    refine g_iload rfl rfl ?_
    obtain ⟨x2, h4, E⟩ := ob E
    refine g_invS2 (dc := 1) rfl (by omega) (Nat.le_of_ble_eq_true rfl) (fun d hd => tx_itemOf hd (1 + 12 + 13 * i1 + 9) v2 S0 (fT_0_10 (eT_a fT_7_0 h3)) _ h4) ?_
    refine g_goto rfl ?_
    obtain rfl := so1 E
    exact g_iret rfl
def fl_cell (scr : Nat × (Nat → Int32)) (v1 : Int32) (S0 : Mem) : Option Int32 := if (Int32.ofNat scr.1) = 0 then (some ((367 : Int32) * v1)) else ((nz (Int32.ofNat scr.1)).bind fun z1 => (sld scr (irm (v1 &&& (65535 : Int32)) (Int32.ofNat scr.1))).bind fun x1 => some x1)
set_option maxRecDepth 20000 in
set_option maxHeartbeats 4000000 in
theorem tl_cell {scr : Nat × (Nat → Int32)} {d : Nat} (hd : 0 ≤ d) (v1 : Int32) (S0 : Mem)  (rv : Int32) (E : fl_cell scr v1 S0 = some rv) : XG scr d 191 0 [(0, .inr (some none)), (1, .inl v1)] [] S0 (some (.inl rv)) S0 := by
  unfold fl_cell at E
  refine g_aload rfl rfl ?_
  refine g_slen rfl ?_
  rcases xif E with ⟨h1, E⟩ | ⟨h1, E⟩
  · refine g_ifne_t rfl h1 ?_
    refine g_push rfl ?_
    refine g_iload rfl rfl ?_
    refine g_imul rfl ?_
    refine g_goto rfl ?_
    obtain rfl := so1 E
    exact g_iret rfl
  · refine g_ifne_f rfl h1 ?_
    refine g_aload rfl rfl ?_
    refine g_iload rfl rfl ?_
    refine g_push rfl ?_
    refine g_iand rfl ?_
    refine g_aload rfl rfl ?_
    refine g_slen rfl ?_
    obtain ⟨z1, h2, E⟩ := ob E
    refine g_irem rfl (nz_of h2).1 ?_
    obtain ⟨x1, h3, E⟩ := ob E
    refine g_sld rfl h3 ?_
    obtain rfl := so1 E
    exact g_iret rfl
def fl_act_116 (scr : Nat × (Nat → Int32))  (v4 : Int32) (s0 : Int32) (S0 : Mem) : Option Mem := bd (fx_actor s0 (irm ((v4 >>> ((4 : Int32) &&& 31)) &&& (15 : Int32)) 10) (((((1000 : Int32) * (irm ((v4 >>> ((8 : Int32) &&& 31)) &&& (3 : Int32)) 3)) + ((100 : Int32) * ((v4 >>> ((10 : Int32) &&& 31)) &&& (3 : Int32)))) + (1 : Int32)) + ((v4 >>> ((12 : Int32) &&& 31)) &&& (15 : Int32))) S0) fun x1 S1 => some S1
set_option maxRecDepth 20000 in
set_option maxHeartbeats 4000000 in
theorem tl_act_116 {scr : Nat × (Nat → Int32)} {d : Nat} (hd : 8 ≤ d)  (v4 : Int32) (s0 : Int32) (S0 : Mem)  (SR : Mem) (E : fl_act_116 scr v4 s0 S0 = some SR) : XG scr d 192 116 [(4, .inl v4)] [.inl s0, .inr (some (some 0))] S0 none SR := by
  unfold fl_act_116 at E
  refine g_iload rfl rfl ?_
  refine g_push rfl ?_
  refine g_ishr rfl ?_
  refine g_push rfl ?_
  refine g_iand rfl ?_
  refine g_push rfl ?_
  refine g_irem rfl (by decide) ?_
  refine g_push rfl ?_
  refine g_iload rfl rfl ?_
  refine g_push rfl ?_
  refine g_ishr rfl ?_
  refine g_push rfl ?_
  refine g_iand rfl ?_
  refine g_push rfl ?_
  refine g_irem rfl (by decide) ?_
  refine g_imul rfl ?_
  refine g_push rfl ?_
  refine g_iload rfl rfl ?_
  refine g_push rfl ?_
  refine g_ishr rfl ?_
  refine g_push rfl ?_
  refine g_iand rfl ?_
  refine g_imul rfl ?_
  refine g_iadd rfl ?_
  refine g_push rfl ?_
  refine g_iadd rfl ?_
  refine g_iload rfl rfl ?_
  refine g_push rfl ?_
  refine g_ishr rfl ?_
  refine g_push rfl ?_
  refine g_iand rfl ?_
  refine g_iadd rfl ?_
  obtain ⟨x1, S1, h1, E⟩ := ob2 E
  refine g_inv3 (dc := 4) rfl (by omega) ty_x (Nat.le_of_ble_eq_true rfl) (fun d hd => tx_actor hd s0 (irm ((v4 >>> ((4 : Int32) &&& 31)) &&& (15 : Int32)) 10) (((((1000 : Int32) * (irm ((v4 >>> ((8 : Int32) &&& 31)) &&& (3 : Int32)) 3)) + ((100 : Int32) * ((v4 >>> ((10 : Int32) &&& 31)) &&& (3 : Int32)))) + (1 : Int32)) + ((v4 >>> ((12 : Int32) &&& 31)) &&& (15 : Int32))) S0 _ _ h1) ?_
  refine g_pop rfl ?_
  refine g_goto rfl ?_
  obtain rfl := so1 E
  exact g_ret rfl
def fl_act (scr : Nat × (Nat → Int32)) (v2 : Int32) (S0 : Mem) : Option Mem := (fl_cell scr v2 S0).bind fun x1 => if (x1 &&& (15 : Int32)) = 0 then ((fx_count 0 S0).bind fun x2 => if x2 = 0 then (fl_act_116 scr ((x1 >>> ((4 : Int32) &&& 31)) &&& (65535 : Int32)) ((-1)) S0) else ((fx_count 0 S0).bind fun x3 => (nz x3).bind fun z1 => fl_act_116 scr ((x1 >>> ((4 : Int32) &&& 31)) &&& (65535 : Int32)) (irm (((x1 >>> ((4 : Int32) &&& 31)) &&& (65535 : Int32)) &&& (15 : Int32)) x3) S0)) else (if (x1 &&& (15 : Int32)) = 1 then ((fx_count 0 S0).bind fun x4 => if x4 = 0 then (fl_act_116 scr ((x1 >>> ((4 : Int32) &&& 31)) &&& (65535 : Int32)) ((-1)) S0) else ((fx_count 0 S0).bind fun x5 => (nz x5).bind fun z2 => fl_act_116 scr ((x1 >>> ((4 : Int32) &&& 31)) &&& (65535 : Int32)) (irm (((x1 >>> ((4 : Int32) &&& 31)) &&& (65535 : Int32)) &&& (15 : Int32)) x5) S0)) else (if (x1 &&& (15 : Int32)) = 2 then ((fx_count 0 S0).bind fun x6 => if x6 = 0 then (fl_act_116 scr ((x1 >>> ((4 : Int32) &&& 31)) &&& (65535 : Int32)) ((-1)) S0) else ((fx_count 0 S0).bind fun x7 => (nz x7).bind fun z3 => fl_act_116 scr ((x1 >>> ((4 : Int32) &&& 31)) &&& (65535 : Int32)) (irm (((x1 >>> ((4 : Int32) &&& 31)) &&& (65535 : Int32)) &&& (15 : Int32)) x7) S0)) else (if (x1 &&& (15 : Int32)) = 3 then (bd (fx_tell (irm (((x1 >>> ((4 : Int32) &&& 31)) &&& (65535 : Int32)) &&& (15 : Int32)) 12) (((((x1 >>> ((4 : Int32) &&& 31)) &&& (65535 : Int32)) >>> ((4 : Int32) &&& 31)) &&& (15 : Int32)) - (1 : Int32)) (((((x1 >>> ((4 : Int32) &&& 31)) &&& (65535 : Int32)) >>> ((8 : Int32) &&& 31)) &&& (127 : Int32)) - (60 : Int32)) S0) fun x8 S1 => some S1) else (if (x1 &&& (15 : Int32)) = 4 then (bd (fx_tell (irm (((x1 >>> ((4 : Int32) &&& 31)) &&& (65535 : Int32)) &&& (15 : Int32)) 12) (((((x1 >>> ((4 : Int32) &&& 31)) &&& (65535 : Int32)) >>> ((4 : Int32) &&& 31)) &&& (15 : Int32)) - (1 : Int32)) (((((x1 >>> ((4 : Int32) &&& 31)) &&& (65535 : Int32)) >>> ((8 : Int32) &&& 31)) &&& (127 : Int32)) - (60 : Int32)) S0) fun x9 S2 => some S2) else (if (x1 &&& (15 : Int32)) = 5 then (bd (fx_tell (irm (((x1 >>> ((4 : Int32) &&& 31)) &&& (65535 : Int32)) &&& (15 : Int32)) 12) (((((x1 >>> ((4 : Int32) &&& 31)) &&& (65535 : Int32)) >>> ((4 : Int32) &&& 31)) &&& (15 : Int32)) - (1 : Int32)) (((((x1 >>> ((4 : Int32) &&& 31)) &&& (65535 : Int32)) >>> ((8 : Int32) &&& 31)) &&& (127 : Int32)) - (60 : Int32)) S0) fun x10 S3 => some S3) else (if (x1 &&& (15 : Int32)) = 6 then (bd (fx_tell (irm (((x1 >>> ((4 : Int32) &&& 31)) &&& (65535 : Int32)) &&& (15 : Int32)) 12) (((((x1 >>> ((4 : Int32) &&& 31)) &&& (65535 : Int32)) >>> ((4 : Int32) &&& 31)) &&& (15 : Int32)) - (1 : Int32)) (((((x1 >>> ((4 : Int32) &&& 31)) &&& (65535 : Int32)) >>> ((8 : Int32) &&& 31)) &&& (127 : Int32)) - (60 : Int32)) S0) fun x11 S4 => some S4) else (if (x1 &&& (15 : Int32)) = 7 then ((fx_count 0 S0).bind fun x12 => if x12 ≤ 0 then (some S0) else (bd (fx_drawn ((1 : Int32) + (((x1 >>> ((4 : Int32) &&& 31)) &&& (65535 : Int32)) &&& (15 : Int32))) S0) fun x13 S5 => some S5)) else (if (x1 &&& (15 : Int32)) = 8 then (if (((x1 >>> ((4 : Int32) &&& 31)) &&& (65535 : Int32)) &&& (7 : Int32)) = 0 then (bd (fx_stop ((((x1 >>> ((4 : Int32) &&& 31)) &&& (65535 : Int32)) >>> ((3 : Int32) &&& 31)) &&& (15 : Int32)) S0) fun x14 S6 => some S6) else (some S0)) else (if (x1 &&& (15 : Int32)) = 9 then (bd (fx_run ((1 : Int32) + (((x1 >>> ((4 : Int32) &&& 31)) &&& (65535 : Int32)) &&& (15 : Int32))) S0) fun x15 S7 => some S7) else (if (x1 &&& (15 : Int32)) = 10 then (bd (fx_run ((1 : Int32) + (((x1 >>> ((4 : Int32) &&& 31)) &&& (65535 : Int32)) &&& (15 : Int32))) S0) fun x16 S8 => some S8) else (if (x1 &&& (15 : Int32)) = 11 then (bd (fx_run ((1 : Int32) + (((x1 >>> ((4 : Int32) &&& 31)) &&& (65535 : Int32)) &&& (15 : Int32))) S0) fun x17 S9 => some S9) else (if (x1 &&& (15 : Int32)) = 12 then (bd (fx_run 1 S0) fun x18 S10 => some S10) else (if (x1 &&& (15 : Int32)) = 13 then (bd (fx_image S0) fun x19 S11 => some S11) else (if (x1 &&& (15 : Int32)) = 14 then (if (((x1 >>> ((4 : Int32) &&& 31)) &&& (65535 : Int32)) &&& (3 : Int32)) = 0 then (bd (fx_back S0) fun x20 S12 => some S12) else (some S0)) else (bd (fx_seed ((x1 >>> ((4 : Int32) &&& 31)) &&& (65535 : Int32)) S0) fun x21 S13 => some S13)))))))))))))))
set_option maxRecDepth 20000 in
set_option maxHeartbeats 4000000 in
theorem tl_act {scr : Nat × (Nat → Int32)} {d : Nat} (hd : 8 ≤ d) (v2 : Int32) (S0 : Mem)  (SR : Mem) (E : fl_act scr v2 S0 = some SR) : XG scr d 192 0 [(0, .inr (some (some 0))), (1, .inr (some none)), (2, .inl v2)] [] S0 none SR := by
  unfold fl_act at E
  refine g_aload rfl rfl ?_
  refine g_iload rfl rfl ?_
  obtain ⟨x1, h1, E⟩ := ob E
  refine g_invS2 (dc := 0) rfl (by omega) (Nat.le_of_ble_eq_true rfl) (fun d hd => tl_cell hd v2 S0 _ h1) ?_
  refine g_istore (L2 := [(3, .inl x1), (0, .inr (some (some 0))), (1, .inr (some none)), (2, .inl v2)]) rfl rfl ?_
  refine g_iload rfl rfl ?_
  refine g_push rfl ?_
  refine g_ishr rfl ?_
  refine g_push rfl ?_
  refine g_iand rfl ?_
  refine g_istore (L2 := [(4, .inl ((x1 >>> ((4 : Int32) &&& 31)) &&& (65535 : Int32))), (3, .inl x1), (0, .inr (some (some 0))), (1, .inr (some none)), (2, .inl v2)]) rfl rfl ?_
  refine g_iload rfl rfl ?_
  refine g_push rfl ?_
  refine g_iand rfl ?_
  rcases xif E with ⟨h2, E⟩ | ⟨h2, E⟩
  · refine g_tsw (u := 92) rfl (by rw [h2]; decide +kernel) ?_
    refine g_aload rfl rfl ?_
    refine g_aload rfl rfl ?_
    refine g_push rfl ?_
    obtain ⟨x2, h3, E⟩ := ob E
    refine g_inv1 (dc := 1) rfl (by omega) ty_x (Nat.le_of_ble_eq_true rfl) (fun d hd => tx_count hd 0 S0 _ h3) ?_
    rcases xif E with ⟨h4, E⟩ | ⟨h4, E⟩
    · refine g_ifne_t rfl h4 ?_
      refine g_push rfl ?_
      refine g_goto rfl ?_
      exact g_loc (lsub_cons rfl lsub_nil) (tl_act_116 hd ((x1 >>> ((4 : Int32) &&& 31)) &&& (65535 : Int32)) ((-1)) S0 _ E)
    · refine g_ifne_f rfl h4 ?_
      refine g_iload rfl rfl ?_
      refine g_push rfl ?_
      refine g_iand rfl ?_
      refine g_aload rfl rfl ?_
      refine g_push rfl ?_
      obtain ⟨x3, h5, E⟩ := ob E
      refine g_inv1 (dc := 1) rfl (by omega) ty_x (Nat.le_of_ble_eq_true rfl) (fun d hd => tx_count hd 0 S0 _ h5) ?_
      obtain ⟨z1, h6, E⟩ := ob E
      refine g_irem rfl (nz_of h6).1 ?_
      exact g_loc (lsub_cons rfl lsub_nil) (tl_act_116 hd ((x1 >>> ((4 : Int32) &&& 31)) &&& (65535 : Int32)) (irm (((x1 >>> ((4 : Int32) &&& 31)) &&& (65535 : Int32)) &&& (15 : Int32)) x3) S0 _ E)
  · rcases xif E with ⟨h7, E⟩ | ⟨h7, E⟩
    · refine g_tsw (u := 92) rfl (by rw [h7]; decide +kernel) ?_
      refine g_aload rfl rfl ?_
      refine g_aload rfl rfl ?_
      refine g_push rfl ?_
      obtain ⟨x4, h8, E⟩ := ob E
      refine g_inv1 (dc := 1) rfl (by omega) ty_x (Nat.le_of_ble_eq_true rfl) (fun d hd => tx_count hd 0 S0 _ h8) ?_
      rcases xif E with ⟨h9, E⟩ | ⟨h9, E⟩
      · refine g_ifne_t rfl h9 ?_
        refine g_push rfl ?_
        refine g_goto rfl ?_
        exact g_loc (lsub_cons rfl lsub_nil) (tl_act_116 hd ((x1 >>> ((4 : Int32) &&& 31)) &&& (65535 : Int32)) ((-1)) S0 _ E)
      · refine g_ifne_f rfl h9 ?_
        refine g_iload rfl rfl ?_
        refine g_push rfl ?_
        refine g_iand rfl ?_
        refine g_aload rfl rfl ?_
        refine g_push rfl ?_
        obtain ⟨x5, h10, E⟩ := ob E
        refine g_inv1 (dc := 1) rfl (by omega) ty_x (Nat.le_of_ble_eq_true rfl) (fun d hd => tx_count hd 0 S0 _ h10) ?_
        obtain ⟨z2, h11, E⟩ := ob E
        refine g_irem rfl (nz_of h11).1 ?_
        exact g_loc (lsub_cons rfl lsub_nil) (tl_act_116 hd ((x1 >>> ((4 : Int32) &&& 31)) &&& (65535 : Int32)) (irm (((x1 >>> ((4 : Int32) &&& 31)) &&& (65535 : Int32)) &&& (15 : Int32)) x5) S0 _ E)
    · rcases xif E with ⟨h12, E⟩ | ⟨h12, E⟩
      · refine g_tsw (u := 92) rfl (by rw [h12]; decide +kernel) ?_
        refine g_aload rfl rfl ?_
        refine g_aload rfl rfl ?_
        refine g_push rfl ?_
        obtain ⟨x6, h13, E⟩ := ob E
        refine g_inv1 (dc := 1) rfl (by omega) ty_x (Nat.le_of_ble_eq_true rfl) (fun d hd => tx_count hd 0 S0 _ h13) ?_
        rcases xif E with ⟨h14, E⟩ | ⟨h14, E⟩
        · refine g_ifne_t rfl h14 ?_
          refine g_push rfl ?_
          refine g_goto rfl ?_
          exact g_loc (lsub_cons rfl lsub_nil) (tl_act_116 hd ((x1 >>> ((4 : Int32) &&& 31)) &&& (65535 : Int32)) ((-1)) S0 _ E)
        · refine g_ifne_f rfl h14 ?_
          refine g_iload rfl rfl ?_
          refine g_push rfl ?_
          refine g_iand rfl ?_
          refine g_aload rfl rfl ?_
          refine g_push rfl ?_
          obtain ⟨x7, h15, E⟩ := ob E
          refine g_inv1 (dc := 1) rfl (by omega) ty_x (Nat.le_of_ble_eq_true rfl) (fun d hd => tx_count hd 0 S0 _ h15) ?_
          obtain ⟨z3, h16, E⟩ := ob E
          refine g_irem rfl (nz_of h16).1 ?_
          exact g_loc (lsub_cons rfl lsub_nil) (tl_act_116 hd ((x1 >>> ((4 : Int32) &&& 31)) &&& (65535 : Int32)) (irm (((x1 >>> ((4 : Int32) &&& 31)) &&& (65535 : Int32)) &&& (15 : Int32)) x7) S0 _ E)
      · rcases xif E with ⟨h17, E⟩ | ⟨h17, E⟩
        · refine g_tsw (u := 168) rfl (by rw [h17]; decide +kernel) ?_
          refine g_aload rfl rfl ?_
          refine g_iload rfl rfl ?_
          refine g_push rfl ?_
          refine g_iand rfl ?_
          refine g_push rfl ?_
          refine g_irem rfl (by decide) ?_
          refine g_iload rfl rfl ?_
          refine g_push rfl ?_
          refine g_ishr rfl ?_
          refine g_push rfl ?_
          refine g_iand rfl ?_
          refine g_push rfl ?_
          refine g_isub rfl ?_
          refine g_iload rfl rfl ?_
          refine g_push rfl ?_
          refine g_ishr rfl ?_
          refine g_push rfl ?_
          refine g_iand rfl ?_
          refine g_push rfl ?_
          refine g_isub rfl ?_
          obtain ⟨x8, S1, h18, E⟩ := ob2 E
          refine g_inv3 (dc := 2) rfl (by omega) ty_x (Nat.le_of_ble_eq_true rfl) (fun d hd => tx_tell hd (irm (((x1 >>> ((4 : Int32) &&& 31)) &&& (65535 : Int32)) &&& (15 : Int32)) 12) (((((x1 >>> ((4 : Int32) &&& 31)) &&& (65535 : Int32)) >>> ((4 : Int32) &&& 31)) &&& (15 : Int32)) - (1 : Int32)) (((((x1 >>> ((4 : Int32) &&& 31)) &&& (65535 : Int32)) >>> ((8 : Int32) &&& 31)) &&& (127 : Int32)) - (60 : Int32)) S0 _ _ h18) ?_
          refine g_pop rfl ?_
          refine g_goto rfl ?_
          obtain rfl := so1 E
          exact g_ret rfl
        · rcases xif E with ⟨h19, E⟩ | ⟨h19, E⟩
          · refine g_tsw (u := 168) rfl (by rw [h19]; decide +kernel) ?_
            refine g_aload rfl rfl ?_
            refine g_iload rfl rfl ?_
            refine g_push rfl ?_
            refine g_iand rfl ?_
            refine g_push rfl ?_
            refine g_irem rfl (by decide) ?_
            refine g_iload rfl rfl ?_
            refine g_push rfl ?_
            refine g_ishr rfl ?_
            refine g_push rfl ?_
            refine g_iand rfl ?_
            refine g_push rfl ?_
            refine g_isub rfl ?_
            refine g_iload rfl rfl ?_
            refine g_push rfl ?_
            refine g_ishr rfl ?_
            refine g_push rfl ?_
            refine g_iand rfl ?_
            refine g_push rfl ?_
            refine g_isub rfl ?_
            obtain ⟨x9, S2, h20, E⟩ := ob2 E
            refine g_inv3 (dc := 2) rfl (by omega) ty_x (Nat.le_of_ble_eq_true rfl) (fun d hd => tx_tell hd (irm (((x1 >>> ((4 : Int32) &&& 31)) &&& (65535 : Int32)) &&& (15 : Int32)) 12) (((((x1 >>> ((4 : Int32) &&& 31)) &&& (65535 : Int32)) >>> ((4 : Int32) &&& 31)) &&& (15 : Int32)) - (1 : Int32)) (((((x1 >>> ((4 : Int32) &&& 31)) &&& (65535 : Int32)) >>> ((8 : Int32) &&& 31)) &&& (127 : Int32)) - (60 : Int32)) S0 _ _ h20) ?_
            refine g_pop rfl ?_
            refine g_goto rfl ?_
            obtain rfl := so1 E
            exact g_ret rfl
          · rcases xif E with ⟨h21, E⟩ | ⟨h21, E⟩
            · refine g_tsw (u := 168) rfl (by rw [h21]; decide +kernel) ?_
              refine g_aload rfl rfl ?_
              refine g_iload rfl rfl ?_
              refine g_push rfl ?_
              refine g_iand rfl ?_
              refine g_push rfl ?_
              refine g_irem rfl (by decide) ?_
              refine g_iload rfl rfl ?_
              refine g_push rfl ?_
              refine g_ishr rfl ?_
              refine g_push rfl ?_
              refine g_iand rfl ?_
              refine g_push rfl ?_
              refine g_isub rfl ?_
              refine g_iload rfl rfl ?_
              refine g_push rfl ?_
              refine g_ishr rfl ?_
              refine g_push rfl ?_
              refine g_iand rfl ?_
              refine g_push rfl ?_
              refine g_isub rfl ?_
              obtain ⟨x10, S3, h22, E⟩ := ob2 E
              refine g_inv3 (dc := 2) rfl (by omega) ty_x (Nat.le_of_ble_eq_true rfl) (fun d hd => tx_tell hd (irm (((x1 >>> ((4 : Int32) &&& 31)) &&& (65535 : Int32)) &&& (15 : Int32)) 12) (((((x1 >>> ((4 : Int32) &&& 31)) &&& (65535 : Int32)) >>> ((4 : Int32) &&& 31)) &&& (15 : Int32)) - (1 : Int32)) (((((x1 >>> ((4 : Int32) &&& 31)) &&& (65535 : Int32)) >>> ((8 : Int32) &&& 31)) &&& (127 : Int32)) - (60 : Int32)) S0 _ _ h22) ?_
              refine g_pop rfl ?_
              refine g_goto rfl ?_
              obtain rfl := so1 E
              exact g_ret rfl
            · rcases xif E with ⟨h23, E⟩ | ⟨h23, E⟩
              · refine g_tsw (u := 168) rfl (by rw [h23]; decide +kernel) ?_
                refine g_aload rfl rfl ?_
                refine g_iload rfl rfl ?_
                refine g_push rfl ?_
                refine g_iand rfl ?_
                refine g_push rfl ?_
                refine g_irem rfl (by decide) ?_
                refine g_iload rfl rfl ?_
                refine g_push rfl ?_
                refine g_ishr rfl ?_
                refine g_push rfl ?_
                refine g_iand rfl ?_
                refine g_push rfl ?_
                refine g_isub rfl ?_
                refine g_iload rfl rfl ?_
                refine g_push rfl ?_
                refine g_ishr rfl ?_
                refine g_push rfl ?_
                refine g_iand rfl ?_
                refine g_push rfl ?_
                refine g_isub rfl ?_
                obtain ⟨x11, S4, h24, E⟩ := ob2 E
                refine g_inv3 (dc := 2) rfl (by omega) ty_x (Nat.le_of_ble_eq_true rfl) (fun d hd => tx_tell hd (irm (((x1 >>> ((4 : Int32) &&& 31)) &&& (65535 : Int32)) &&& (15 : Int32)) 12) (((((x1 >>> ((4 : Int32) &&& 31)) &&& (65535 : Int32)) >>> ((4 : Int32) &&& 31)) &&& (15 : Int32)) - (1 : Int32)) (((((x1 >>> ((4 : Int32) &&& 31)) &&& (65535 : Int32)) >>> ((8 : Int32) &&& 31)) &&& (127 : Int32)) - (60 : Int32)) S0 _ _ h24) ?_
                refine g_pop rfl ?_
                refine g_goto rfl ?_
                obtain rfl := so1 E
                exact g_ret rfl
              · rcases xif E with ⟨h25, E⟩ | ⟨h25, E⟩
                · refine g_tsw (u := 204) rfl (by rw [h25]; decide +kernel) ?_
                  refine g_aload rfl rfl ?_
                  refine g_push rfl ?_
                  obtain ⟨x12, h26, E⟩ := ob E
                  refine g_inv1 (dc := 1) rfl (by omega) ty_x (Nat.le_of_ble_eq_true rfl) (fun d hd => tx_count hd 0 S0 _ h26) ?_
                  rcases xif E with ⟨h27, E⟩ | ⟨h27, E⟩
                  · refine g_ifle_t rfl h27 ?_
                    obtain rfl := so1 E
                    exact g_ret rfl
                  · refine g_ifle_f rfl h27 ?_
                    refine g_aload rfl rfl ?_
                    refine g_push rfl ?_
                    refine g_iload rfl rfl ?_
                    refine g_push rfl ?_
                    refine g_iand rfl ?_
                    refine g_iadd rfl ?_
                    obtain ⟨x13, S5, h28, E⟩ := ob2 E
                    refine g_inv1 (dc := 2) rfl (by omega) ty_x (Nat.le_of_ble_eq_true rfl) (fun d hd => tx_drawn hd ((1 : Int32) + (((x1 >>> ((4 : Int32) &&& 31)) &&& (65535 : Int32)) &&& (15 : Int32))) S0 _ _ h28) ?_
                    refine g_pop rfl ?_
                    refine g_goto rfl ?_
                    obtain rfl := so1 E
                    exact g_ret rfl
                · rcases xif E with ⟨h29, E⟩ | ⟨h29, E⟩
                  · refine g_tsw (u := 227) rfl (by rw [h29]; decide +kernel) ?_
                    refine g_iload rfl rfl ?_
                    refine g_push rfl ?_
                    refine g_iand rfl ?_
                    rcases xif E with ⟨h30, E⟩ | ⟨h30, E⟩
                    · refine g_ifne_t rfl h30 ?_
                      refine g_aload rfl rfl ?_
                      refine g_iload rfl rfl ?_
                      refine g_push rfl ?_
                      refine g_ishr rfl ?_
                      refine g_push rfl ?_
                      refine g_iand rfl ?_
                      obtain ⟨x14, S6, h31, E⟩ := ob2 E
                      refine g_inv1 (dc := 3) rfl (by omega) ty_x (Nat.le_of_ble_eq_true rfl) (fun d hd => tx_stop hd ((((x1 >>> ((4 : Int32) &&& 31)) &&& (65535 : Int32)) >>> ((3 : Int32) &&& 31)) &&& (15 : Int32)) S0 _ _ h31) ?_
                      refine g_pop rfl ?_
                      refine g_goto rfl ?_
                      obtain rfl := so1 E
                      exact g_ret rfl
                    · refine g_ifne_f rfl h30 ?_
                      obtain rfl := so1 E
                      exact g_ret rfl
                  · rcases xif E with ⟨h32, E⟩ | ⟨h32, E⟩
                    · refine g_tsw (u := 250) rfl (by rw [h32]; decide +kernel) ?_
                      refine g_aload rfl rfl ?_
                      refine g_push rfl ?_
                      refine g_iload rfl rfl ?_
                      refine g_push rfl ?_
                      refine g_iand rfl ?_
                      refine g_iadd rfl ?_
                      obtain ⟨x15, S7, h33, E⟩ := ob2 E
                      refine g_inv1 (dc := 7) rfl (by omega) ty_x (Nat.le_of_ble_eq_true rfl) (fun d hd => tx_run hd ((1 : Int32) + (((x1 >>> ((4 : Int32) &&& 31)) &&& (65535 : Int32)) &&& (15 : Int32))) S0 _ _ h33) ?_
                      refine g_pop rfl ?_
                      refine g_goto rfl ?_
                      obtain rfl := so1 E
                      exact g_ret rfl
                    · rcases xif E with ⟨h34, E⟩ | ⟨h34, E⟩
                      · refine g_tsw (u := 250) rfl (by rw [h34]; decide +kernel) ?_
                        refine g_aload rfl rfl ?_
                        refine g_push rfl ?_
                        refine g_iload rfl rfl ?_
                        refine g_push rfl ?_
                        refine g_iand rfl ?_
                        refine g_iadd rfl ?_
                        obtain ⟨x16, S8, h35, E⟩ := ob2 E
                        refine g_inv1 (dc := 7) rfl (by omega) ty_x (Nat.le_of_ble_eq_true rfl) (fun d hd => tx_run hd ((1 : Int32) + (((x1 >>> ((4 : Int32) &&& 31)) &&& (65535 : Int32)) &&& (15 : Int32))) S0 _ _ h35) ?_
                        refine g_pop rfl ?_
                        refine g_goto rfl ?_
                        obtain rfl := so1 E
                        exact g_ret rfl
                      · rcases xif E with ⟨h36, E⟩ | ⟨h36, E⟩
                        · refine g_tsw (u := 250) rfl (by rw [h36]; decide +kernel) ?_
                          refine g_aload rfl rfl ?_
                          refine g_push rfl ?_
                          refine g_iload rfl rfl ?_
                          refine g_push rfl ?_
                          refine g_iand rfl ?_
                          refine g_iadd rfl ?_
                          obtain ⟨x17, S9, h37, E⟩ := ob2 E
                          refine g_inv1 (dc := 7) rfl (by omega) ty_x (Nat.le_of_ble_eq_true rfl) (fun d hd => tx_run hd ((1 : Int32) + (((x1 >>> ((4 : Int32) &&& 31)) &&& (65535 : Int32)) &&& (15 : Int32))) S0 _ _ h37) ?_
                          refine g_pop rfl ?_
                          refine g_goto rfl ?_
                          obtain rfl := so1 E
                          exact g_ret rfl
                        · rcases xif E with ⟨h38, E⟩ | ⟨h38, E⟩
                          · refine g_tsw (u := 265) rfl (by rw [h38]; decide +kernel) ?_
                            refine g_aload rfl rfl ?_
                            refine g_push rfl ?_
                            obtain ⟨x18, S10, h39, E⟩ := ob2 E
                            refine g_inv1 (dc := 7) rfl (by omega) ty_x (Nat.le_of_ble_eq_true rfl) (fun d hd => tx_run hd 1 S0 _ _ h39) ?_
                            refine g_pop rfl ?_
                            refine g_goto rfl ?_
                            obtain rfl := so1 E
                            exact g_ret rfl
                          · rcases xif E with ⟨h40, E⟩ | ⟨h40, E⟩
                            · refine g_tsw (u := 274) rfl (by rw [h40]; decide +kernel) ?_
                              refine g_aload rfl rfl ?_
                              obtain ⟨x19, S11, h41, E⟩ := ob2 E
                              refine g_inv0 (dc := 3) rfl (by omega) ty_x (Nat.le_of_ble_eq_true rfl) (fun d hd => tx_image hd S0 _ _ h41) ?_
                              refine g_pop rfl ?_
                              refine g_goto rfl ?_
                              obtain rfl := so1 E
                              exact g_ret rfl
                            · rcases xif E with ⟨h42, E⟩ | ⟨h42, E⟩
                              · refine g_tsw (u := 282) rfl (by rw [h42]; decide +kernel) ?_
                                refine g_iload rfl rfl ?_
                                refine g_push rfl ?_
                                refine g_iand rfl ?_
                                rcases xif E with ⟨h43, E⟩ | ⟨h43, E⟩
                                · refine g_ifne_t rfl h43 ?_
                                  refine g_aload rfl rfl ?_
                                  obtain ⟨x20, S12, h44, E⟩ := ob2 E
                                  refine g_inv0 (dc := 3) rfl (by omega) ty_x (Nat.le_of_ble_eq_true rfl) (fun d hd => tx_back hd S0 _ _ h44) ?_
                                  refine g_pop rfl ?_
                                  refine g_goto rfl ?_
                                  obtain rfl := so1 E
                                  exact g_ret rfl
                                · refine g_ifne_f rfl h43 ?_
                                  obtain rfl := so1 E
                                  exact g_ret rfl
                              · refine g_tsw (u := 297) rfl (tsw_d (sw_def (n := 14) rfl _ (by decide +kernel) (fc h2 (fc h7 (fc h12 (fc h17 (fc h19 (fc h21 (fc h23 (fc h25 (fc h29 (fc h32 (fc h34 (fc h36 (fc h38 (fc h40 (fc h42 fn))))))))))))))))) ?_
                                refine g_aload rfl rfl ?_
                                refine g_iload rfl rfl ?_
                                obtain ⟨x21, S13, h45, E⟩ := ob2 E
                                refine g_inv1 (dc := 0) rfl (by omega) ty_x (Nat.le_of_ble_eq_true rfl) (fun d hd => tx_seed hd ((x1 >>> ((4 : Int32) &&& 31)) &&& (65535 : Int32)) S0 _ _ h45) ?_
                                refine g_pop rfl ?_
                                obtain rfl := so1 E
                                exact g_ret rfl
def fl_isFair_317b (k317 : Int32 → Int32 → Int32 → Int32 → Mem → Option Int32) (v1 : Int32) (v2 : Int32) (v3 : Int32) (v4 : Int32) (S0 : Mem) : Option Int32 := if v3 ≤ v4 then ((fx_count 1 S0).bind fun x1 => if v1 = x1 then ((fx_count 2 S0).bind fun x2 => if v2 = x2 then ((fx_count 3 S0).bind fun x3 => if v3 = x3 then (if 10 < v3 then (some 0) else ((fx_count 8 S0).bind fun x4 => if 30 < x4 then (some 0) else ((fx_count 0 S0).bind fun x5 => if x5 = 0 then (some 1) else ((fx_count 1 S0).bind fun x6 => if x6 = 0 then (some 1) else ((fx_of 0 5 S0).bind fun x7 => if x7 = 1 then (some 1) else (some 0)))))) else (some 0)) else (some 0)) else (some 0)) else ((fx_timer v4 1 S0).bind fun x8 => (fx_count 6 S0).bind fun x9 => if x8 < x9 then (some 0) else (if v4 ≤ 0 then (k317 v1 v2 v3 (v4 + 1) S0) else ((fx_timer v4 1 S0).bind fun x10 => (fx_timer (v4 - (1 : Int32)) 1 S0).bind fun x11 => if x11 ≤ x10 then (k317 v1 v2 v3 (v4 + 1) S0) else (some 0))))
set_option maxRecDepth 20000 in
set_option maxHeartbeats 4000000 in
theorem tl_isFair_317b {scr : Nat × (Nat → Int32)} {d : Nat} (hd : 3 ≤ d) {k317 : Int32 → Int32 → Int32 → Int32 → Mem → Option Int32} (hk317 : ∀ (v1 : Int32) (v2 : Int32) (v3 : Int32) (v4 : Int32) (S0 : Mem), ∀ (rv : Int32), k317 v1 v2 v3 v4 S0 = some rv → XG scr d 193 317 [(0, .inr (some (some 0))), (1, .inl v1), (2, .inl v2), (3, .inl v3), (4, .inl v4)] [] S0 (some (.inl rv)) S0) (v1 : Int32) (v2 : Int32) (v3 : Int32) (v4 : Int32) (S0 : Mem)  (rv : Int32) (E : fl_isFair_317b k317 v1 v2 v3 v4 S0 = some rv) : XG scr d 193 317 [(0, .inr (some (some 0))), (1, .inl v1), (2, .inl v2), (3, .inl v3), (4, .inl v4)] [] S0 (some (.inl rv)) S0 := by
  unfold fl_isFair_317b at E
  refine g_iload rfl rfl ?_
  refine g_iload rfl rfl ?_
  rcases xif E with ⟨h1, E⟩ | ⟨h1, E⟩
  · refine g_icge_t rfl h1 ?_
    refine g_iload rfl rfl ?_
    refine g_aload rfl rfl ?_
    refine g_push rfl ?_
    obtain ⟨x1, h2, E⟩ := ob E
    refine g_inv1 (dc := 1) rfl (by omega) ty_x (Nat.le_of_ble_eq_true rfl) (fun d hd => tx_count hd 1 S0 _ h2) ?_
    rcases xif E with ⟨h3, E⟩ | ⟨h3, E⟩
    · refine g_icne_t rfl h3 ?_
      refine g_iload rfl rfl ?_
      refine g_aload rfl rfl ?_
      refine g_push rfl ?_
      obtain ⟨x2, h4, E⟩ := ob E
      refine g_inv1 (dc := 1) rfl (by omega) ty_x (Nat.le_of_ble_eq_true rfl) (fun d hd => tx_count hd 2 S0 _ h4) ?_
      rcases xif E with ⟨h5, E⟩ | ⟨h5, E⟩
      · refine g_icne_t rfl h5 ?_
        refine g_iload rfl rfl ?_
        refine g_aload rfl rfl ?_
        refine g_push rfl ?_
        obtain ⟨x3, h6, E⟩ := ob E
        refine g_inv1 (dc := 1) rfl (by omega) ty_x (Nat.le_of_ble_eq_true rfl) (fun d hd => tx_count hd 3 S0 _ h6) ?_
        rcases xif E with ⟨h7, E⟩ | ⟨h7, E⟩
        · refine g_icne_t rfl h7 ?_
          refine g_iload rfl rfl ?_
          refine g_push rfl ?_
          rcases xif E with ⟨h8, E⟩ | ⟨h8, E⟩
          · refine g_icgt_t rfl h8 ?_
            refine g_push rfl ?_
            obtain rfl := so1 E
            exact g_zret rfl b00
          · refine g_icgt_f rfl h8 ?_
            refine g_aload rfl rfl ?_
            refine g_push rfl ?_
            obtain ⟨x4, h9, E⟩ := ob E
            refine g_inv1 (dc := 1) rfl (by omega) ty_x (Nat.le_of_ble_eq_true rfl) (fun d hd => tx_count hd 8 S0 _ h9) ?_
            refine g_push rfl ?_
            rcases xif E with ⟨h10, E⟩ | ⟨h10, E⟩
            · refine g_icgt_t rfl h10 ?_
              refine g_push rfl ?_
              obtain rfl := so1 E
              exact g_zret rfl b00
            · refine g_icgt_f rfl h10 ?_
              refine g_aload rfl rfl ?_
              refine g_push rfl ?_
              obtain ⟨x5, h11, E⟩ := ob E
              refine g_inv1 (dc := 1) rfl (by omega) ty_x (Nat.le_of_ble_eq_true rfl) (fun d hd => tx_count hd 0 S0 _ h11) ?_
              rcases xif E with ⟨h12, E⟩ | ⟨h12, E⟩
              · refine g_ifeq_t rfl h12 ?_
                refine g_push rfl ?_
                refine g_goto rfl ?_
                obtain rfl := so1 E
                exact g_zret rfl b01
              · refine g_ifeq_f rfl h12 ?_
                refine g_aload rfl rfl ?_
                refine g_push rfl ?_
                obtain ⟨x6, h13, E⟩ := ob E
                refine g_inv1 (dc := 1) rfl (by omega) ty_x (Nat.le_of_ble_eq_true rfl) (fun d hd => tx_count hd 1 S0 _ h13) ?_
                rcases xif E with ⟨h14, E⟩ | ⟨h14, E⟩
                · refine g_ifeq_t rfl h14 ?_
                  refine g_push rfl ?_
                  refine g_goto rfl ?_
                  obtain rfl := so1 E
                  exact g_zret rfl b01
                · refine g_ifeq_f rfl h14 ?_
                  refine g_aload rfl rfl ?_
                  refine g_push rfl ?_
                  refine g_push rfl ?_
                  obtain ⟨x7, h15, E⟩ := ob E
                  refine g_inv2 (dc := 1) rfl (by omega) ty_x (Nat.le_of_ble_eq_true rfl) (fun d hd => tx_of hd 0 5 S0 _ h15) ?_
                  refine g_push rfl ?_
                  rcases xif E with ⟨h16, E⟩ | ⟨h16, E⟩
                  · refine g_icne_t rfl h16 ?_
                    refine g_push rfl ?_
                    refine g_goto rfl ?_
                    obtain rfl := so1 E
                    exact g_zret rfl b01
                  · refine g_icne_f rfl h16 ?_
                    refine g_push rfl ?_
                    obtain rfl := so1 E
                    exact g_zret rfl b00
        · refine g_icne_f rfl h7 ?_
          refine g_push rfl ?_
          obtain rfl := so1 E
          exact g_zret rfl b00
      · refine g_icne_f rfl h5 ?_
        refine g_push rfl ?_
        obtain rfl := so1 E
        exact g_zret rfl b00
    · refine g_icne_f rfl h3 ?_
      refine g_push rfl ?_
      obtain rfl := so1 E
      exact g_zret rfl b00
  · refine g_icge_f rfl h1 ?_
    refine g_aload rfl rfl ?_
    refine g_iload rfl rfl ?_
    refine g_push rfl ?_
    obtain ⟨x8, h17, E⟩ := ob E
    refine g_inv2 (dc := 1) rfl (by omega) ty_x (Nat.le_of_ble_eq_true rfl) (fun d hd => tx_timer hd v4 1 S0 _ h17) ?_
    refine g_aload rfl rfl ?_
    refine g_push rfl ?_
    obtain ⟨x9, h18, E⟩ := ob E
    refine g_inv1 (dc := 1) rfl (by omega) ty_x (Nat.le_of_ble_eq_true rfl) (fun d hd => tx_count hd 6 S0 _ h18) ?_
    rcases xif E with ⟨h19, E⟩ | ⟨h19, E⟩
    · refine g_iclt_t rfl h19 ?_
      refine g_push rfl ?_
      obtain rfl := so1 E
      exact g_zret rfl b00
    · refine g_iclt_f rfl h19 ?_
      refine g_iload rfl rfl ?_
      rcases xif E with ⟨h20, E⟩ | ⟨h20, E⟩
      · refine g_ifle_t rfl h20 ?_
        refine g_iinc (L2 := [(4, .inl (v4 + 1)), (0, .inr (some (some 0))), (1, .inl v1), (2, .inl v2), (3, .inl v3)]) rfl rfl rfl ?_
        refine g_goto rfl ?_
        exact g_loc (lsub_cons rfl (lsub_cons rfl (lsub_cons rfl (lsub_cons rfl (lsub_cons rfl lsub_nil))))) (hk317 v1 v2 v3 (v4 + 1) S0 _ E)
      · refine g_ifle_f rfl h20 ?_
        refine g_aload rfl rfl ?_
        refine g_iload rfl rfl ?_
        refine g_push rfl ?_
        obtain ⟨x10, h21, E⟩ := ob E
        refine g_inv2 (dc := 1) rfl (by omega) ty_x (Nat.le_of_ble_eq_true rfl) (fun d hd => tx_timer hd v4 1 S0 _ h21) ?_
        refine g_aload rfl rfl ?_
        refine g_iload rfl rfl ?_
        refine g_push rfl ?_
        refine g_isub rfl ?_
        refine g_push rfl ?_
        obtain ⟨x11, h22, E⟩ := ob E
        refine g_inv2 (dc := 1) rfl (by omega) ty_x (Nat.le_of_ble_eq_true rfl) (fun d hd => tx_timer hd (v4 - (1 : Int32)) 1 S0 _ h22) ?_
        rcases xif E with ⟨h23, E⟩ | ⟨h23, E⟩
        · refine g_icge_t rfl h23 ?_
          refine g_iinc (L2 := [(4, .inl (v4 + 1)), (0, .inr (some (some 0))), (1, .inl v1), (2, .inl v2), (3, .inl v3)]) rfl rfl rfl ?_
          refine g_goto rfl ?_
          exact g_loc (lsub_cons rfl (lsub_cons rfl (lsub_cons rfl (lsub_cons rfl (lsub_cons rfl lsub_nil))))) (hk317 v1 v2 v3 (v4 + 1) S0 _ E)
        · refine g_icge_f rfl h23 ?_
          refine g_push rfl ?_
          obtain rfl := so1 E
          exact g_zret rfl b00
def fl_isFair_317  : Nat → Int32 → Int32 → Int32 → Int32 → Mem → Option Int32
  | 0 => fun _ _ _ _ _ => none
  | n + 1 => fl_isFair_317b  (fl_isFair_317  n)
set_option maxRecDepth 20000 in
set_option maxHeartbeats 4000000 in
theorem tl_isFair_317 {scr : Nat × (Nat → Int32)} {d : Nat} (hd : 3 ≤ d)  : ∀ (n : Nat) (v1 : Int32) (v2 : Int32) (v3 : Int32) (v4 : Int32) (S0 : Mem), ∀ (rv : Int32), fl_isFair_317  n v1 v2 v3 v4 S0 = some rv → XG scr d 193 317 [(0, .inr (some (some 0))), (1, .inl v1), (2, .inl v2), (3, .inl v3), (4, .inl v4)] [] S0 (some (.inl rv)) S0
  | 0, v1, v2, v3, v4, S0, rv, E => nn E
  | n + 1, v1, v2, v3, v4, S0, rv, E => tl_isFair_317b hd  (tl_isFair_317 hd  n) v1 v2 v3 v4 S0  rv E
def fl_isFair_270b (k9 : Int32 → Int32 → Int32 → Int32 → Mem → Option Int32) (k270 : Int32 → Int32 → Int32 → Int32 → Int32 → Mem → Option Int32) (v1 : Int32) (v2 : Int32) (v3 : Int32) (v4 : Int32) (v7 : Int32) (S0 : Mem) : Option Int32 := (fx_of v4 10 S0).bind fun x1 => if x1 ≤ v7 then (k9 v1 v2 v3 (v4 + 1) S0) else ((fx_watcher v4 v7 S0).bind fun x2 => (fx_of x2 5 S0).bind fun x3 => if x3 = 1 then (k270 v1 v2 v3 v4 (v7 + 1) S0) else (some 0))
set_option maxRecDepth 20000 in
set_option maxHeartbeats 4000000 in
theorem tl_isFair_270b {scr : Nat × (Nat → Int32)} {d : Nat} (hd : 3 ≤ d) {k9 : Int32 → Int32 → Int32 → Int32 → Mem → Option Int32} (hk9 : ∀ (v1 : Int32) (v2 : Int32) (v3 : Int32) (v4 : Int32) (S0 : Mem), ∀ (rv : Int32), k9 v1 v2 v3 v4 S0 = some rv → XG scr d 193 9 [(0, .inr (some (some 0))), (1, .inl v1), (2, .inl v2), (3, .inl v3), (4, .inl v4)] [] S0 (some (.inl rv)) S0) {k270 : Int32 → Int32 → Int32 → Int32 → Int32 → Mem → Option Int32} (hk270 : ∀ (v1 : Int32) (v2 : Int32) (v3 : Int32) (v4 : Int32) (v7 : Int32) (S0 : Mem), ∀ (rv : Int32), k270 v1 v2 v3 v4 v7 S0 = some rv → XG scr d 193 270 [(0, .inr (some (some 0))), (1, .inl v1), (2, .inl v2), (3, .inl v3), (4, .inl v4), (7, .inl v7)] [] S0 (some (.inl rv)) S0) (v1 : Int32) (v2 : Int32) (v3 : Int32) (v4 : Int32) (v7 : Int32) (S0 : Mem)  (rv : Int32) (E : fl_isFair_270b k9 k270 v1 v2 v3 v4 v7 S0 = some rv) : XG scr d 193 270 [(0, .inr (some (some 0))), (1, .inl v1), (2, .inl v2), (3, .inl v3), (4, .inl v4), (7, .inl v7)] [] S0 (some (.inl rv)) S0 := by
  unfold fl_isFair_270b at E
  refine g_iload rfl rfl ?_
  refine g_aload rfl rfl ?_
  refine g_iload rfl rfl ?_
  refine g_push rfl ?_
  obtain ⟨x1, h1, E⟩ := ob E
  refine g_inv2 (dc := 1) rfl (by omega) ty_x (Nat.le_of_ble_eq_true rfl) (fun d hd => tx_of hd v4 10 S0 _ h1) ?_
  rcases xif E with ⟨h2, E⟩ | ⟨h2, E⟩
  · refine g_icge_t rfl h2 ?_
    refine g_iinc (L2 := [(4, .inl (v4 + 1)), (0, .inr (some (some 0))), (1, .inl v1), (2, .inl v2), (3, .inl v3), (7, .inl v7)]) rfl rfl rfl ?_
    refine g_goto rfl ?_
    exact g_loc (lsub_cons rfl (lsub_cons rfl (lsub_cons rfl (lsub_cons rfl (lsub_cons rfl lsub_nil))))) (hk9 v1 v2 v3 (v4 + 1) S0 _ E)
  · refine g_icge_f rfl h2 ?_
    refine g_aload rfl rfl ?_
    refine g_aload rfl rfl ?_
    refine g_iload rfl rfl ?_
    refine g_iload rfl rfl ?_
    obtain ⟨x2, h3, E⟩ := ob E
    refine g_inv2 (dc := 2) rfl (by omega) ty_x (Nat.le_of_ble_eq_true rfl) (fun d hd => tx_watcher hd v4 v7 S0 _ h3) ?_
    refine g_push rfl ?_
    obtain ⟨x3, h4, E⟩ := ob E
    refine g_inv2 (dc := 1) rfl (by omega) ty_x (Nat.le_of_ble_eq_true rfl) (fun d hd => tx_of hd x2 5 S0 _ h4) ?_
    refine g_push rfl ?_
    rcases xif E with ⟨h5, E⟩ | ⟨h5, E⟩
    · refine g_iceq_t rfl h5 ?_
      refine g_iinc (L2 := [(7, .inl (v7 + 1)), (0, .inr (some (some 0))), (1, .inl v1), (2, .inl v2), (3, .inl v3), (4, .inl v4)]) rfl rfl rfl ?_
      refine g_goto rfl ?_
      exact g_loc (lsub_cons rfl (lsub_cons rfl (lsub_cons rfl (lsub_cons rfl (lsub_cons rfl (lsub_cons rfl lsub_nil)))))) (hk270 v1 v2 v3 v4 (v7 + 1) S0 _ E)
    · refine g_iceq_f rfl h5 ?_
      refine g_push rfl ?_
      obtain rfl := so1 E
      exact g_zret rfl b00
def fl_isFair_270 (k9 : Int32 → Int32 → Int32 → Int32 → Mem → Option Int32) : Nat → Int32 → Int32 → Int32 → Int32 → Int32 → Mem → Option Int32
  | 0 => fun _ _ _ _ _ _ => none
  | n + 1 => fl_isFair_270b  k9 (fl_isFair_270 k9 n)
set_option maxRecDepth 20000 in
set_option maxHeartbeats 4000000 in
theorem tl_isFair_270 {scr : Nat × (Nat → Int32)} {d : Nat} (hd : 3 ≤ d) {k9 : Int32 → Int32 → Int32 → Int32 → Mem → Option Int32} (hk9 : ∀ (v1 : Int32) (v2 : Int32) (v3 : Int32) (v4 : Int32) (S0 : Mem), ∀ (rv : Int32), k9 v1 v2 v3 v4 S0 = some rv → XG scr d 193 9 [(0, .inr (some (some 0))), (1, .inl v1), (2, .inl v2), (3, .inl v3), (4, .inl v4)] [] S0 (some (.inl rv)) S0) : ∀ (n : Nat) (v1 : Int32) (v2 : Int32) (v3 : Int32) (v4 : Int32) (v7 : Int32) (S0 : Mem), ∀ (rv : Int32), fl_isFair_270 k9 n v1 v2 v3 v4 v7 S0 = some rv → XG scr d 193 270 [(0, .inr (some (some 0))), (1, .inl v1), (2, .inl v2), (3, .inl v3), (4, .inl v4), (7, .inl v7)] [] S0 (some (.inl rv)) S0
  | 0, v1, v2, v3, v4, v7, S0, rv, E => nn E
  | n + 1, v1, v2, v3, v4, v7, S0, rv, E => tl_isFair_270b hd  hk9 (tl_isFair_270 hd hk9 n) v1 v2 v3 v4 v7 S0  rv E
def fl_isFair_171 (k9 : Int32 → Int32 → Int32 → Int32 → Mem → Option Int32) (v1 : Int32) (v2 : Int32) (v3 : Int32) (v4 : Int32) (v5 : Int32) (s0 : Int32) (s1 : Int32) (S0 : Mem) : Option Int32 := if s1 = s0 then (if v5 = 0 then ((fx_of v4 8 S0).bind fun x1 => (fx_of v4 9 S0).bind fun x2 => (fx_of v4 10 S0).bind fun x3 => (fx_of v4 11 S0).bind fun x4 => (fx_of v4 12 S0).bind fun x5 => if ((((x1 + x2) + x3) + x4) + x5) = 0 then ((fx_of v4 7 S0).bind fun x6 => if x6 = 1 then (if v5 = 0 then (fl_isFair_270 k9 LF v1 v2 v3 v4 0 S0) else ((fx_of v4 12 S0).bind fun x7 => (fx_of v4 3 S0).bind fun x8 => if x7 ≤ x8 then (fl_isFair_270 k9 LF v1 v2 v3 v4 0 S0) else (some 0))) else (some 0)) else (some 0)) else (if v5 = 0 then (fl_isFair_270 k9 LF v1 v2 v3 v4 0 S0) else ((fx_of v4 12 S0).bind fun x9 => (fx_of v4 3 S0).bind fun x10 => if x9 ≤ x10 then (fl_isFair_270 k9 LF v1 v2 v3 v4 0 S0) else (some 0)))) else (some 0)
set_option maxRecDepth 20000 in
set_option maxHeartbeats 4000000 in
theorem tl_isFair_171 {scr : Nat × (Nat → Int32)} {d : Nat} (hd : 3 ≤ d) {k9 : Int32 → Int32 → Int32 → Int32 → Mem → Option Int32} (hk9 : ∀ (v1 : Int32) (v2 : Int32) (v3 : Int32) (v4 : Int32) (S0 : Mem), ∀ (rv : Int32), k9 v1 v2 v3 v4 S0 = some rv → XG scr d 193 9 [(0, .inr (some (some 0))), (1, .inl v1), (2, .inl v2), (3, .inl v3), (4, .inl v4)] [] S0 (some (.inl rv)) S0) (v1 : Int32) (v2 : Int32) (v3 : Int32) (v4 : Int32) (v5 : Int32) (s0 : Int32) (s1 : Int32) (S0 : Mem)  (rv : Int32) (E : fl_isFair_171 k9 v1 v2 v3 v4 v5 s0 s1 S0 = some rv) : XG scr d 193 171 [(0, .inr (some (some 0))), (1, .inl v1), (2, .inl v2), (3, .inl v3), (4, .inl v4), (5, .inl v5)] [.inl s0, .inl s1] S0 (some (.inl rv)) S0 := by
  unfold fl_isFair_171 at E
  rcases xif E with ⟨h1, E⟩ | ⟨h1, E⟩
  · refine g_iceq_t rfl h1 ?_
    refine g_iload rfl rfl ?_
    rcases xif E with ⟨h2, E⟩ | ⟨h2, E⟩
    · refine g_ifne_t rfl h2 ?_
      refine g_aload rfl rfl ?_
      refine g_iload rfl rfl ?_
      refine g_push rfl ?_
      obtain ⟨x1, h3, E⟩ := ob E
      refine g_inv2 (dc := 1) rfl (by omega) ty_x (Nat.le_of_ble_eq_true rfl) (fun d hd => tx_of hd v4 8 S0 _ h3) ?_
      refine g_aload rfl rfl ?_
      refine g_iload rfl rfl ?_
      refine g_push rfl ?_
      obtain ⟨x2, h4, E⟩ := ob E
      refine g_inv2 (dc := 1) rfl (by omega) ty_x (Nat.le_of_ble_eq_true rfl) (fun d hd => tx_of hd v4 9 S0 _ h4) ?_
      refine g_iadd rfl ?_
      refine g_aload rfl rfl ?_
      refine g_iload rfl rfl ?_
      refine g_push rfl ?_
      obtain ⟨x3, h5, E⟩ := ob E
      refine g_inv2 (dc := 1) rfl (by omega) ty_x (Nat.le_of_ble_eq_true rfl) (fun d hd => tx_of hd v4 10 S0 _ h5) ?_
      refine g_iadd rfl ?_
      refine g_aload rfl rfl ?_
      refine g_iload rfl rfl ?_
      refine g_push rfl ?_
      obtain ⟨x4, h6, E⟩ := ob E
      refine g_inv2 (dc := 1) rfl (by omega) ty_x (Nat.le_of_ble_eq_true rfl) (fun d hd => tx_of hd v4 11 S0 _ h6) ?_
      refine g_iadd rfl ?_
      refine g_aload rfl rfl ?_
      refine g_iload rfl rfl ?_
      refine g_push rfl ?_
      obtain ⟨x5, h7, E⟩ := ob E
      refine g_inv2 (dc := 1) rfl (by omega) ty_x (Nat.le_of_ble_eq_true rfl) (fun d hd => tx_of hd v4 12 S0 _ h7) ?_
      refine g_iadd rfl ?_
      rcases xif E with ⟨h8, E⟩ | ⟨h8, E⟩
      · refine g_ifne_t rfl h8 ?_
        refine g_aload rfl rfl ?_
        refine g_iload rfl rfl ?_
        refine g_push rfl ?_
        obtain ⟨x6, h9, E⟩ := ob E
        refine g_inv2 (dc := 1) rfl (by omega) ty_x (Nat.le_of_ble_eq_true rfl) (fun d hd => tx_of hd v4 7 S0 _ h9) ?_
        refine g_push rfl ?_
        rcases xif E with ⟨h10, E⟩ | ⟨h10, E⟩
        · refine g_iceq_t rfl h10 ?_
          refine g_iload rfl rfl ?_
          rcases xif E with ⟨h11, E⟩ | ⟨h11, E⟩
          · refine g_ifeq_t rfl h11 ?_
            refine g_push rfl ?_
            refine g_istore (L2 := [(7, .inl 0), (0, .inr (some (some 0))), (1, .inl v1), (2, .inl v2), (3, .inl v3), (4, .inl v4), (5, .inl v5)]) rfl rfl ?_
            exact g_loc (lsub_cons rfl (lsub_cons rfl (lsub_cons rfl (lsub_cons rfl (lsub_cons rfl (lsub_cons rfl lsub_nil)))))) (tl_isFair_270 hd hk9 LF v1 v2 v3 v4 0 S0 _ E)
          · refine g_ifeq_f rfl h11 ?_
            refine g_aload rfl rfl ?_
            refine g_iload rfl rfl ?_
            refine g_push rfl ?_
            obtain ⟨x7, h12, E⟩ := ob E
            refine g_inv2 (dc := 1) rfl (by omega) ty_x (Nat.le_of_ble_eq_true rfl) (fun d hd => tx_of hd v4 12 S0 _ h12) ?_
            refine g_aload rfl rfl ?_
            refine g_iload rfl rfl ?_
            refine g_push rfl ?_
            obtain ⟨x8, h13, E⟩ := ob E
            refine g_inv2 (dc := 1) rfl (by omega) ty_x (Nat.le_of_ble_eq_true rfl) (fun d hd => tx_of hd v4 3 S0 _ h13) ?_
            rcases xif E with ⟨h14, E⟩ | ⟨h14, E⟩
            · refine g_icle_t rfl h14 ?_
              refine g_push rfl ?_
              refine g_istore (L2 := [(7, .inl 0), (0, .inr (some (some 0))), (1, .inl v1), (2, .inl v2), (3, .inl v3), (4, .inl v4), (5, .inl v5)]) rfl rfl ?_
              exact g_loc (lsub_cons rfl (lsub_cons rfl (lsub_cons rfl (lsub_cons rfl (lsub_cons rfl (lsub_cons rfl lsub_nil)))))) (tl_isFair_270 hd hk9 LF v1 v2 v3 v4 0 S0 _ E)
            · refine g_icle_f rfl h14 ?_
              refine g_push rfl ?_
              obtain rfl := so1 E
              exact g_zret rfl b00
        · refine g_iceq_f rfl h10 ?_
          refine g_push rfl ?_
          obtain rfl := so1 E
          exact g_zret rfl b00
      · refine g_ifne_f rfl h8 ?_
        refine g_push rfl ?_
        obtain rfl := so1 E
        exact g_zret rfl b00
    · refine g_ifne_f rfl h2 ?_
      refine g_iload rfl rfl ?_
      rcases xif E with ⟨h15, E⟩ | ⟨h15, E⟩
      · refine g_ifeq_t rfl h15 ?_
        refine g_push rfl ?_
        refine g_istore (L2 := [(7, .inl 0), (0, .inr (some (some 0))), (1, .inl v1), (2, .inl v2), (3, .inl v3), (4, .inl v4), (5, .inl v5)]) rfl rfl ?_
        exact g_loc (lsub_cons rfl (lsub_cons rfl (lsub_cons rfl (lsub_cons rfl (lsub_cons rfl (lsub_cons rfl lsub_nil)))))) (tl_isFair_270 hd hk9 LF v1 v2 v3 v4 0 S0 _ E)
      · refine g_ifeq_f rfl h15 ?_
        refine g_aload rfl rfl ?_
        refine g_iload rfl rfl ?_
        refine g_push rfl ?_
        obtain ⟨x9, h16, E⟩ := ob E
        refine g_inv2 (dc := 1) rfl (by omega) ty_x (Nat.le_of_ble_eq_true rfl) (fun d hd => tx_of hd v4 12 S0 _ h16) ?_
        refine g_aload rfl rfl ?_
        refine g_iload rfl rfl ?_
        refine g_push rfl ?_
        obtain ⟨x10, h17, E⟩ := ob E
        refine g_inv2 (dc := 1) rfl (by omega) ty_x (Nat.le_of_ble_eq_true rfl) (fun d hd => tx_of hd v4 3 S0 _ h17) ?_
        rcases xif E with ⟨h18, E⟩ | ⟨h18, E⟩
        · refine g_icle_t rfl h18 ?_
          refine g_push rfl ?_
          refine g_istore (L2 := [(7, .inl 0), (0, .inr (some (some 0))), (1, .inl v1), (2, .inl v2), (3, .inl v3), (4, .inl v4), (5, .inl v5)]) rfl rfl ?_
          exact g_loc (lsub_cons rfl (lsub_cons rfl (lsub_cons rfl (lsub_cons rfl (lsub_cons rfl (lsub_cons rfl lsub_nil)))))) (tl_isFair_270 hd hk9 LF v1 v2 v3 v4 0 S0 _ E)
        · refine g_icle_f rfl h18 ?_
          refine g_push rfl ?_
          obtain rfl := so1 E
          exact g_zret rfl b00
  · refine g_iceq_f rfl h1 ?_
    refine g_push rfl ?_
    obtain rfl := so1 E
    exact g_zret rfl b00
def fl_isFair_48 (k9 : Int32 → Int32 → Int32 → Int32 → Mem → Option Int32) (v2 : Int32) (v3 : Int32) (v4 : Int32) (v5 : Int32) (s0 : Int32) (s1 : Int32) (S0 : Mem) : Option Int32 := (fx_of v4 8 S0).bind fun x1 => (fx_of v4 11 S0).bind fun x2 => (fx_of v4 0 S0).bind fun x3 => (fx_of v4 8 S0).bind fun x4 => if 12 < x4 then (some 0) else ((fx_of v4 9 S0).bind fun x5 => if 6 < x5 then (some 0) else ((fx_of v4 7 S0).bind fun x6 => if x6 < 1 then (some 0) else ((fx_of v4 7 S0).bind fun x7 => if 5 < x7 then (some 0) else (if v5 = 0 then (if 0 ≤ x3 then (if v4 = 0 then (fl_isFair_171 k9 (s1 + s0) (v2 + x1) (v3 + x2) v4 v5 1 0 S0) else (fl_isFair_171 k9 (s1 + s0) (v2 + x1) (v3 + x2) v4 v5 0 0 S0)) else (if v4 = 0 then (fl_isFair_171 k9 (s1 + s0) (v2 + x1) (v3 + x2) v4 v5 1 1 S0) else (fl_isFair_171 k9 (s1 + s0) (v2 + x1) (v3 + x2) v4 v5 0 1 S0))) else (if x3 < 0 then (if 0 ≤ x3 then (if v4 = 0 then (fl_isFair_171 k9 (s1 + s0) (v2 + x1) (v3 + x2) v4 v5 1 0 S0) else (fl_isFair_171 k9 (s1 + s0) (v2 + x1) (v3 + x2) v4 v5 0 0 S0)) else (if v4 = 0 then (fl_isFair_171 k9 (s1 + s0) (v2 + x1) (v3 + x2) v4 v5 1 1 S0) else (fl_isFair_171 k9 (s1 + s0) (v2 + x1) (v3 + x2) v4 v5 0 1 S0))) else ((fx_of x3 5 S0).bind fun x8 => if x8 = 0 then (some 0) else (if 0 ≤ x3 then (if v4 = 0 then (fl_isFair_171 k9 (s1 + s0) (v2 + x1) (v3 + x2) v4 v5 1 0 S0) else (fl_isFair_171 k9 (s1 + s0) (v2 + x1) (v3 + x2) v4 v5 0 0 S0)) else (if v4 = 0 then (fl_isFair_171 k9 (s1 + s0) (v2 + x1) (v3 + x2) v4 v5 1 1 S0) else (fl_isFair_171 k9 (s1 + s0) (v2 + x1) (v3 + x2) v4 v5 0 1 S0)))))))))
set_option maxRecDepth 20000 in
set_option maxHeartbeats 4000000 in
theorem tl_isFair_48 {scr : Nat × (Nat → Int32)} {d : Nat} (hd : 3 ≤ d) {k9 : Int32 → Int32 → Int32 → Int32 → Mem → Option Int32} (hk9 : ∀ (v1 : Int32) (v2 : Int32) (v3 : Int32) (v4 : Int32) (S0 : Mem), ∀ (rv : Int32), k9 v1 v2 v3 v4 S0 = some rv → XG scr d 193 9 [(0, .inr (some (some 0))), (1, .inl v1), (2, .inl v2), (3, .inl v3), (4, .inl v4)] [] S0 (some (.inl rv)) S0) (v2 : Int32) (v3 : Int32) (v4 : Int32) (v5 : Int32) (s0 : Int32) (s1 : Int32) (S0 : Mem)  (rv : Int32) (E : fl_isFair_48 k9 v2 v3 v4 v5 s0 s1 S0 = some rv) : XG scr d 193 48 [(0, .inr (some (some 0))), (2, .inl v2), (3, .inl v3), (4, .inl v4), (5, .inl v5)] [.inl s0, .inl s1] S0 (some (.inl rv)) S0 := by
  unfold fl_isFair_48 at E
  refine g_iadd rfl ?_
  refine g_istore (L2 := [(1, .inl (s1 + s0)), (0, .inr (some (some 0))), (2, .inl v2), (3, .inl v3), (4, .inl v4), (5, .inl v5)]) rfl rfl ?_
  refine g_iload rfl rfl ?_
  refine g_aload rfl rfl ?_
  refine g_iload rfl rfl ?_
  refine g_push rfl ?_
  obtain ⟨x1, h1, E⟩ := ob E
  refine g_inv2 (dc := 1) rfl (by omega) ty_x (Nat.le_of_ble_eq_true rfl) (fun d hd => tx_of hd v4 8 S0 _ h1) ?_
  refine g_iadd rfl ?_
  refine g_istore (L2 := [(2, .inl (v2 + x1)), (1, .inl (s1 + s0)), (0, .inr (some (some 0))), (3, .inl v3), (4, .inl v4), (5, .inl v5)]) rfl rfl ?_
  refine g_iload rfl rfl ?_
  refine g_aload rfl rfl ?_
  refine g_iload rfl rfl ?_
  refine g_push rfl ?_
  obtain ⟨x2, h2, E⟩ := ob E
  refine g_inv2 (dc := 1) rfl (by omega) ty_x (Nat.le_of_ble_eq_true rfl) (fun d hd => tx_of hd v4 11 S0 _ h2) ?_
  refine g_iadd rfl ?_
  refine g_istore (L2 := [(3, .inl (v3 + x2)), (2, .inl (v2 + x1)), (1, .inl (s1 + s0)), (0, .inr (some (some 0))), (4, .inl v4), (5, .inl v5)]) rfl rfl ?_
  refine g_aload rfl rfl ?_
  refine g_iload rfl rfl ?_
  refine g_push rfl ?_
  obtain ⟨x3, h3, E⟩ := ob E
  refine g_inv2 (dc := 1) rfl (by omega) ty_x (Nat.le_of_ble_eq_true rfl) (fun d hd => tx_of hd v4 0 S0 _ h3) ?_
  refine g_istore (L2 := [(6, .inl x3), (3, .inl (v3 + x2)), (2, .inl (v2 + x1)), (1, .inl (s1 + s0)), (0, .inr (some (some 0))), (4, .inl v4), (5, .inl v5)]) rfl rfl ?_
  refine g_aload rfl rfl ?_
  refine g_iload rfl rfl ?_
  refine g_push rfl ?_
  obtain ⟨x4, h4, E⟩ := ob E
  refine g_inv2 (dc := 1) rfl (by omega) ty_x (Nat.le_of_ble_eq_true rfl) (fun d hd => tx_of hd v4 8 S0 _ h4) ?_
  refine g_push rfl ?_
  rcases xif E with ⟨h5, E⟩ | ⟨h5, E⟩
  · refine g_icgt_t rfl h5 ?_
    refine g_push rfl ?_
    obtain rfl := so1 E
    exact g_zret rfl b00
  · refine g_icgt_f rfl h5 ?_
    refine g_aload rfl rfl ?_
    refine g_iload rfl rfl ?_
    refine g_push rfl ?_
    obtain ⟨x5, h6, E⟩ := ob E
    refine g_inv2 (dc := 1) rfl (by omega) ty_x (Nat.le_of_ble_eq_true rfl) (fun d hd => tx_of hd v4 9 S0 _ h6) ?_
    refine g_push rfl ?_
    rcases xif E with ⟨h7, E⟩ | ⟨h7, E⟩
    · refine g_icgt_t rfl h7 ?_
      refine g_push rfl ?_
      obtain rfl := so1 E
      exact g_zret rfl b00
    · refine g_icgt_f rfl h7 ?_
      refine g_aload rfl rfl ?_
      refine g_iload rfl rfl ?_
      refine g_push rfl ?_
      obtain ⟨x6, h8, E⟩ := ob E
      refine g_inv2 (dc := 1) rfl (by omega) ty_x (Nat.le_of_ble_eq_true rfl) (fun d hd => tx_of hd v4 7 S0 _ h8) ?_
      refine g_push rfl ?_
      rcases xif E with ⟨h9, E⟩ | ⟨h9, E⟩
      · refine g_iclt_t rfl h9 ?_
        refine g_push rfl ?_
        obtain rfl := so1 E
        exact g_zret rfl b00
      · refine g_iclt_f rfl h9 ?_
        refine g_aload rfl rfl ?_
        refine g_iload rfl rfl ?_
        refine g_push rfl ?_
        obtain ⟨x7, h10, E⟩ := ob E
        refine g_inv2 (dc := 1) rfl (by omega) ty_x (Nat.le_of_ble_eq_true rfl) (fun d hd => tx_of hd v4 7 S0 _ h10) ?_
        refine g_push rfl ?_
        rcases xif E with ⟨h11, E⟩ | ⟨h11, E⟩
        · refine g_icgt_t rfl h11 ?_
          refine g_push rfl ?_
          obtain rfl := so1 E
          exact g_zret rfl b00
        · refine g_icgt_f rfl h11 ?_
          refine g_iload rfl rfl ?_
          rcases xif E with ⟨h12, E⟩ | ⟨h12, E⟩
          · refine g_ifeq_t rfl h12 ?_
            refine g_iload rfl rfl ?_
            rcases xif E with ⟨h13, E⟩ | ⟨h13, E⟩
            · refine g_ifge_t rfl h13 ?_
              refine g_push rfl ?_
              refine g_iload rfl rfl ?_
              rcases xif E with ⟨h14, E⟩ | ⟨h14, E⟩
              · refine g_ifne_t rfl h14 ?_
                refine g_push rfl ?_
                refine g_goto rfl ?_
                exact g_loc (lsub_cons rfl (lsub_cons rfl (lsub_cons rfl (lsub_cons rfl (lsub_cons rfl (lsub_cons rfl lsub_nil)))))) (tl_isFair_171 hd hk9 (s1 + s0) (v2 + x1) (v3 + x2) v4 v5 1 0 S0 _ E)
              · refine g_ifne_f rfl h14 ?_
                refine g_push rfl ?_
                exact g_loc (lsub_cons rfl (lsub_cons rfl (lsub_cons rfl (lsub_cons rfl (lsub_cons rfl (lsub_cons rfl lsub_nil)))))) (tl_isFair_171 hd hk9 (s1 + s0) (v2 + x1) (v3 + x2) v4 v5 0 0 S0 _ E)
            · refine g_ifge_f rfl h13 ?_
              refine g_push rfl ?_
              refine g_goto rfl ?_
              refine g_iload rfl rfl ?_
              rcases xif E with ⟨h15, E⟩ | ⟨h15, E⟩
              · refine g_ifne_t rfl h15 ?_
                refine g_push rfl ?_
                refine g_goto rfl ?_
                exact g_loc (lsub_cons rfl (lsub_cons rfl (lsub_cons rfl (lsub_cons rfl (lsub_cons rfl (lsub_cons rfl lsub_nil)))))) (tl_isFair_171 hd hk9 (s1 + s0) (v2 + x1) (v3 + x2) v4 v5 1 1 S0 _ E)
              · refine g_ifne_f rfl h15 ?_
                refine g_push rfl ?_
                exact g_loc (lsub_cons rfl (lsub_cons rfl (lsub_cons rfl (lsub_cons rfl (lsub_cons rfl (lsub_cons rfl lsub_nil)))))) (tl_isFair_171 hd hk9 (s1 + s0) (v2 + x1) (v3 + x2) v4 v5 0 1 S0 _ E)
          · refine g_ifeq_f rfl h12 ?_
            refine g_iload rfl rfl ?_
            rcases xif E with ⟨h16, E⟩ | ⟨h16, E⟩
            · refine g_iflt_t rfl h16 ?_
              refine g_iload rfl rfl ?_
              rcases xif E with ⟨h17, E⟩ | ⟨h17, E⟩
              · refine g_ifge_t rfl h17 ?_
                refine g_push rfl ?_
                refine g_iload rfl rfl ?_
                rcases xif E with ⟨h18, E⟩ | ⟨h18, E⟩
                · refine g_ifne_t rfl h18 ?_
                  refine g_push rfl ?_
                  refine g_goto rfl ?_
                  exact g_loc (lsub_cons rfl (lsub_cons rfl (lsub_cons rfl (lsub_cons rfl (lsub_cons rfl (lsub_cons rfl lsub_nil)))))) (tl_isFair_171 hd hk9 (s1 + s0) (v2 + x1) (v3 + x2) v4 v5 1 0 S0 _ E)
                · refine g_ifne_f rfl h18 ?_
                  refine g_push rfl ?_
                  exact g_loc (lsub_cons rfl (lsub_cons rfl (lsub_cons rfl (lsub_cons rfl (lsub_cons rfl (lsub_cons rfl lsub_nil)))))) (tl_isFair_171 hd hk9 (s1 + s0) (v2 + x1) (v3 + x2) v4 v5 0 0 S0 _ E)
              · refine g_ifge_f rfl h17 ?_
                refine g_push rfl ?_
                refine g_goto rfl ?_
                refine g_iload rfl rfl ?_
                rcases xif E with ⟨h19, E⟩ | ⟨h19, E⟩
                · refine g_ifne_t rfl h19 ?_
                  refine g_push rfl ?_
                  refine g_goto rfl ?_
                  exact g_loc (lsub_cons rfl (lsub_cons rfl (lsub_cons rfl (lsub_cons rfl (lsub_cons rfl (lsub_cons rfl lsub_nil)))))) (tl_isFair_171 hd hk9 (s1 + s0) (v2 + x1) (v3 + x2) v4 v5 1 1 S0 _ E)
                · refine g_ifne_f rfl h19 ?_
                  refine g_push rfl ?_
                  exact g_loc (lsub_cons rfl (lsub_cons rfl (lsub_cons rfl (lsub_cons rfl (lsub_cons rfl (lsub_cons rfl lsub_nil)))))) (tl_isFair_171 hd hk9 (s1 + s0) (v2 + x1) (v3 + x2) v4 v5 0 1 S0 _ E)
            · refine g_iflt_f rfl h16 ?_
              refine g_aload rfl rfl ?_
              refine g_iload rfl rfl ?_
              refine g_push rfl ?_
              obtain ⟨x8, h20, E⟩ := ob E
              refine g_inv2 (dc := 1) rfl (by omega) ty_x (Nat.le_of_ble_eq_true rfl) (fun d hd => tx_of hd x3 5 S0 _ h20) ?_
              rcases xif E with ⟨h21, E⟩ | ⟨h21, E⟩
              · refine g_ifeq_t rfl h21 ?_
                refine g_push rfl ?_
                obtain rfl := so1 E
                exact g_zret rfl b00
              · refine g_ifeq_f rfl h21 ?_
                refine g_iload rfl rfl ?_
                rcases xif E with ⟨h22, E⟩ | ⟨h22, E⟩
                · refine g_ifge_t rfl h22 ?_
                  refine g_push rfl ?_
                  refine g_iload rfl rfl ?_
                  rcases xif E with ⟨h23, E⟩ | ⟨h23, E⟩
                  · refine g_ifne_t rfl h23 ?_
                    refine g_push rfl ?_
                    refine g_goto rfl ?_
                    exact g_loc (lsub_cons rfl (lsub_cons rfl (lsub_cons rfl (lsub_cons rfl (lsub_cons rfl (lsub_cons rfl lsub_nil)))))) (tl_isFair_171 hd hk9 (s1 + s0) (v2 + x1) (v3 + x2) v4 v5 1 0 S0 _ E)
                  · refine g_ifne_f rfl h23 ?_
                    refine g_push rfl ?_
                    exact g_loc (lsub_cons rfl (lsub_cons rfl (lsub_cons rfl (lsub_cons rfl (lsub_cons rfl (lsub_cons rfl lsub_nil)))))) (tl_isFair_171 hd hk9 (s1 + s0) (v2 + x1) (v3 + x2) v4 v5 0 0 S0 _ E)
                · refine g_ifge_f rfl h22 ?_
                  refine g_push rfl ?_
                  refine g_goto rfl ?_
                  refine g_iload rfl rfl ?_
                  rcases xif E with ⟨h24, E⟩ | ⟨h24, E⟩
                  · refine g_ifne_t rfl h24 ?_
                    refine g_push rfl ?_
                    refine g_goto rfl ?_
                    exact g_loc (lsub_cons rfl (lsub_cons rfl (lsub_cons rfl (lsub_cons rfl (lsub_cons rfl (lsub_cons rfl lsub_nil)))))) (tl_isFair_171 hd hk9 (s1 + s0) (v2 + x1) (v3 + x2) v4 v5 1 1 S0 _ E)
                  · refine g_ifne_f rfl h24 ?_
                    refine g_push rfl ?_
                    exact g_loc (lsub_cons rfl (lsub_cons rfl (lsub_cons rfl (lsub_cons rfl (lsub_cons rfl (lsub_cons rfl lsub_nil)))))) (tl_isFair_171 hd hk9 (s1 + s0) (v2 + x1) (v3 + x2) v4 v5 0 1 S0 _ E)
def fl_isFair_9b (k9 : Int32 → Int32 → Int32 → Int32 → Mem → Option Int32) (v1 : Int32) (v2 : Int32) (v3 : Int32) (v4 : Int32) (S0 : Mem) : Option Int32 := (fx_count 0 S0).bind fun x1 => if x1 ≤ v4 then (fl_isFair_317 LF v1 v2 v3 0 S0) else ((fx_of v4 5 S0).bind fun x2 => if x2 = 1 then (fl_isFair_48 k9 v2 v3 v4 1 1 v1 S0) else (fl_isFair_48 k9 v2 v3 v4 0 0 v1 S0))
set_option maxRecDepth 20000 in
set_option maxHeartbeats 4000000 in
theorem tl_isFair_9b {scr : Nat × (Nat → Int32)} {d : Nat} (hd : 3 ≤ d) {k9 : Int32 → Int32 → Int32 → Int32 → Mem → Option Int32} (hk9 : ∀ (v1 : Int32) (v2 : Int32) (v3 : Int32) (v4 : Int32) (S0 : Mem), ∀ (rv : Int32), k9 v1 v2 v3 v4 S0 = some rv → XG scr d 193 9 [(0, .inr (some (some 0))), (1, .inl v1), (2, .inl v2), (3, .inl v3), (4, .inl v4)] [] S0 (some (.inl rv)) S0) (v1 : Int32) (v2 : Int32) (v3 : Int32) (v4 : Int32) (S0 : Mem)  (rv : Int32) (E : fl_isFair_9b k9 v1 v2 v3 v4 S0 = some rv) : XG scr d 193 9 [(0, .inr (some (some 0))), (1, .inl v1), (2, .inl v2), (3, .inl v3), (4, .inl v4)] [] S0 (some (.inl rv)) S0 := by
  unfold fl_isFair_9b at E
  refine g_iload rfl rfl ?_
  refine g_aload rfl rfl ?_
  refine g_push rfl ?_
  obtain ⟨x1, h1, E⟩ := ob E
  refine g_inv1 (dc := 1) rfl (by omega) ty_x (Nat.le_of_ble_eq_true rfl) (fun d hd => tx_count hd 0 S0 _ h1) ?_
  rcases xif E with ⟨h2, E⟩ | ⟨h2, E⟩
  · refine g_icge_t rfl h2 ?_
    refine g_push rfl ?_
    refine g_istore (L2 := [(4, .inl 0), (0, .inr (some (some 0))), (1, .inl v1), (2, .inl v2), (3, .inl v3)]) rfl rfl ?_
    exact g_loc (lsub_cons rfl (lsub_cons rfl (lsub_cons rfl (lsub_cons rfl (lsub_cons rfl lsub_nil))))) (tl_isFair_317 hd LF v1 v2 v3 0 S0 _ E)
  · refine g_icge_f rfl h2 ?_
    refine g_aload rfl rfl ?_
    refine g_iload rfl rfl ?_
    refine g_push rfl ?_
    obtain ⟨x2, h3, E⟩ := ob E
    refine g_inv2 (dc := 1) rfl (by omega) ty_x (Nat.le_of_ble_eq_true rfl) (fun d hd => tx_of hd v4 5 S0 _ h3) ?_
    refine g_push rfl ?_
    rcases xif E with ⟨h4, E⟩ | ⟨h4, E⟩
    · refine g_icne_t rfl h4 ?_
      refine g_push rfl ?_
      refine g_goto rfl ?_
      refine g_istore (L2 := [(5, .inl 1), (0, .inr (some (some 0))), (1, .inl v1), (2, .inl v2), (3, .inl v3), (4, .inl v4)]) rfl rfl ?_
      refine g_iload rfl rfl ?_
      refine g_iload rfl rfl ?_
      refine g_ifeq_f rfl (by decide) ?_
      refine g_push rfl ?_
      refine g_goto rfl ?_
      exact g_loc (lsub_cons rfl (lsub_cons rfl (lsub_cons rfl (lsub_cons rfl (lsub_cons rfl lsub_nil))))) (tl_isFair_48 hd hk9 v2 v3 v4 1 1 v1 S0 _ E)
    · refine g_icne_f rfl h4 ?_
      refine g_push rfl ?_
      refine g_istore (L2 := [(5, .inl 0), (0, .inr (some (some 0))), (1, .inl v1), (2, .inl v2), (3, .inl v3), (4, .inl v4)]) rfl rfl ?_
      refine g_iload rfl rfl ?_
      refine g_iload rfl rfl ?_
      refine g_ifeq_t rfl (by decide) ?_
      refine g_push rfl ?_
      exact g_loc (lsub_cons rfl (lsub_cons rfl (lsub_cons rfl (lsub_cons rfl (lsub_cons rfl lsub_nil))))) (tl_isFair_48 hd hk9 v2 v3 v4 0 0 v1 S0 _ E)
def fl_isFair_9  : Nat → Int32 → Int32 → Int32 → Int32 → Mem → Option Int32
  | 0 => fun _ _ _ _ _ => none
  | n + 1 => fl_isFair_9b  (fl_isFair_9  n)
set_option maxRecDepth 20000 in
set_option maxHeartbeats 4000000 in
theorem tl_isFair_9 {scr : Nat × (Nat → Int32)} {d : Nat} (hd : 3 ≤ d)  : ∀ (n : Nat) (v1 : Int32) (v2 : Int32) (v3 : Int32) (v4 : Int32) (S0 : Mem), ∀ (rv : Int32), fl_isFair_9  n v1 v2 v3 v4 S0 = some rv → XG scr d 193 9 [(0, .inr (some (some 0))), (1, .inl v1), (2, .inl v2), (3, .inl v3), (4, .inl v4)] [] S0 (some (.inl rv)) S0
  | 0, v1, v2, v3, v4, S0, rv, E => nn E
  | n + 1, v1, v2, v3, v4, S0, rv, E => tl_isFair_9b hd  (tl_isFair_9 hd  n) v1 v2 v3 v4 S0  rv E
def fl_isFair  (S0 : Mem) : Option Int32 := fl_isFair_9 LF 0 0 0 0 S0
set_option maxRecDepth 20000 in
set_option maxHeartbeats 4000000 in
theorem tl_isFair {scr : Nat × (Nat → Int32)} {d : Nat} (hd : 3 ≤ d)  (S0 : Mem)  (rv : Int32) (E : fl_isFair   S0 = some rv) : XG scr d 193 0 [(0, .inr (some (some 0)))] [] S0 (some (.inl rv)) S0 := by
  unfold fl_isFair at E
  refine g_push rfl ?_
  refine g_istore (L2 := [(1, .inl 0), (0, .inr (some (some 0)))]) rfl rfl ?_
  refine g_push rfl ?_
  refine g_istore (L2 := [(2, .inl 0), (1, .inl 0), (0, .inr (some (some 0)))]) rfl rfl ?_
  refine g_push rfl ?_
  refine g_istore (L2 := [(3, .inl 0), (2, .inl 0), (1, .inl 0), (0, .inr (some (some 0)))]) rfl rfl ?_
  refine g_push rfl ?_
  refine g_istore (L2 := [(4, .inl 0), (3, .inl 0), (2, .inl 0), (1, .inl 0), (0, .inr (some (some 0)))]) rfl rfl ?_
  exact g_loc (lsub_cons rfl (lsub_cons rfl (lsub_cons rfl (lsub_cons rfl (lsub_cons rfl lsub_nil))))) (tl_isFair_9 hd LF 0 0 0 0 S0 _ E)
