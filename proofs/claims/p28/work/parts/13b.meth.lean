/-! 13b: the methods as functions over the cells -/
def fw_dealLater (v0 : Nat) (v1 : Int32) (v2 : Int32) (v3 : Int32) (S0 : Mem) : Option (Int32 × Mem) := (ix v1 12).bind fun i1 => if v2 = 5 then (if (S0 (v0 + 12 + 13 * i1) 5) ≤ v3 then ((some (up2 S0 (v0 + 12 + 13 * i1) 5 v3)).bind fun S1 => some (0, S1)) else (some (1, S0))) else (if v2 = 6 then (if v3 ≤ 0 then (some (0, S0)) else ((fc_set (v0 + 2) v1 (((S0 v0 6) + 1) + (irm v3 8)) (v3 - 1) S0).bind fun S2 => some (0, S2))) else (if v2 = 7 then ((fw_sendDown v0 v1 v3 12 S0).bind fun S3 => some (0, S3)) else (if v2 = 8 then (if 0 ≤ v3 then ((fw_watch v0 v1 v3 S0).bind fun S4 => some (0, S4)) else ((fw_watch v0 v1 (v3 + 99) S0).bind fun S5 => some (0, S5))) else (if v2 = 9 then (bd (fw_halt v0 v1 S0) fun x1 S6 => some (0, S6)) else (some (0, S0))))))
set_option maxRecDepth 20000 in
set_option maxHeartbeats 4000000 in
theorem tw_dealLater {scr : Nat × (Nat → Int32)} {d : Nat} (hd : 3 ≤ d) (v0 : Nat) (v1 : Int32) (v2 : Int32) (v3 : Int32) (S0 : Mem) (tv0 : Ty 6 v0) (rv : Int32) (SR : Mem) (E : fw_dealLater  v0 v1 v2 v3 S0 = some (rv, SR)) : XG scr d 45 0 [(0, .inr (some (some v0))), (1, .inl v1), (2, .inl v2), (3, .inl v3)] [] S0 (some (.inl rv)) SR := by
  unfold fw_dealLater at E
  refine g_aload rfl rfl ?_
  refine g_getR rfl tv0 (fR_6_0 tv0) ?_
  refine g_iload rfl rfl ?_
  obtain ⟨i1, h1, E⟩ := ob E
  refine g_aald rfl (eK_a _ tv0.1 tv0.2).1.1 (eK_a _ tv0.1 tv0.2).1.2 (by decide) h1 (rA_a tv0 h1) ?_
  refine g_astore (L2 := [(4, .inr (some (some (v0 + 12 + 13 * i1)))), (0, .inr (some (some v0))), (1, .inl v1), (2, .inl v2), (3, .inl v3)]) rfl rfl ?_
  refine g_iload rfl rfl ?_
  rcases xif E with ⟨h2, E⟩ | ⟨h2, E⟩
  · refine g_tsw (u := 44) rfl (by rw [h2]; decide +kernel) ?_
    refine g_iload rfl rfl ?_
    refine g_aload rfl rfl ?_
    refine g_getI rfl (eT_a tv0 h1) ?_
    rcases xif E with ⟨h3, E⟩ | ⟨h3, E⟩
    · refine g_icge_t rfl h3 ?_
      refine g_aload rfl rfl ?_
      refine g_iload rfl rfl ?_
      obtain ⟨S1, hS1, E⟩ := ob E
      refine g_putI rfl (eT_a tv0 h1) hS1 ?_
      refine g_push rfl ?_
      obtain ⟨rfl, rfl⟩ := so2 E
      exact g_iret rfl
    · refine g_icge_f rfl h3 ?_
      refine g_push rfl ?_
      obtain ⟨rfl, rfl⟩ := so2 E
      exact g_iret rfl
  · rcases xif E with ⟨h4, E⟩ | ⟨h4, E⟩
    · refine g_tsw (u := 63) rfl (by rw [h4]; decide +kernel) ?_
      refine g_iload rfl rfl ?_
      rcases xif E with ⟨h5, E⟩ | ⟨h5, E⟩
      · refine g_ifle_t rfl h5 ?_
        refine g_push rfl ?_
        obtain ⟨rfl, rfl⟩ := so2 E
        exact g_iret rfl
      · refine g_ifle_f rfl h5 ?_
        refine g_aload rfl rfl ?_
        refine g_getR rfl tv0 (fR_6_1 tv0) ?_
        refine g_iload rfl rfl ?_
        refine g_aload rfl rfl ?_
        refine g_getI rfl tv0 ?_
        refine g_push rfl ?_
        refine g_iadd rfl ?_
        refine g_iload rfl rfl ?_
        refine g_push rfl ?_
        refine g_irem rfl (by decide) ?_
        refine g_iadd rfl ?_
        refine g_iload rfl rfl ?_
        refine g_push rfl ?_
        refine g_isub rfl ?_
        obtain ⟨S2, h6, E⟩ := ob E
        refine g_inv3 (dc := 1) rfl (by omega) (fT_6_1 tv0) (Nat.le_of_ble_eq_true rfl) (fun d hd => tc_set hd (v0 + 2) v1 (((S0 v0 6) + 1) + (irm v3 8)) (v3 - 1) S0 (fT_6_1 tv0) _ h6) ?_
        refine g_push rfl ?_
        obtain ⟨rfl, rfl⟩ := so2 E
        exact g_iret rfl
    · rcases xif E with ⟨h7, E⟩ | ⟨h7, E⟩
      · refine g_tsw (u := 91) rfl (by rw [h7]; decide +kernel) ?_
        refine g_aload rfl rfl ?_
        refine g_iload rfl rfl ?_
        refine g_iload rfl rfl ?_
        refine g_push rfl ?_
        obtain ⟨S3, h8, E⟩ := ob E
        refine g_inv3 (dc := 2) rfl (by omega) tv0 (Nat.le_of_ble_eq_true rfl) (fun d hd => tw_sendDown hd v0 v1 v3 12 S0 tv0 _ h8) ?_
        refine g_push rfl ?_
        obtain ⟨rfl, rfl⟩ := so2 E
        exact g_iret rfl
      · rcases xif E with ⟨h9, E⟩ | ⟨h9, E⟩
        · refine g_tsw (u := 101) rfl (by rw [h9]; decide +kernel) ?_
          refine g_aload rfl rfl ?_
          refine g_iload rfl rfl ?_
          refine g_iload rfl rfl ?_
          rcases xif E with ⟨h10, E⟩ | ⟨h10, E⟩
          · refine g_ifge_t rfl h10 ?_
            refine g_iload rfl rfl ?_
            obtain ⟨S4, h11, E⟩ := ob E
            refine g_inv2 (dc := 2) rfl (by omega) tv0 (Nat.le_of_ble_eq_true rfl) (fun d hd => tw_watch hd v0 v1 v3 S0 tv0 _ h11) ?_
            refine g_push rfl ?_
            obtain ⟨rfl, rfl⟩ := so2 E
            exact g_iret rfl
          · refine g_ifge_f rfl h10 ?_
            refine g_iload rfl rfl ?_
            refine g_push rfl ?_
            refine g_iadd rfl ?_
            refine g_goto rfl ?_
            obtain ⟨S5, h12, E⟩ := ob E
            refine g_inv2 (dc := 2) rfl (by omega) tv0 (Nat.le_of_ble_eq_true rfl) (fun d hd => tw_watch hd v0 v1 (v3 + 99) S0 tv0 _ h12) ?_
            refine g_push rfl ?_
            obtain ⟨rfl, rfl⟩ := so2 E
            exact g_iret rfl
        · rcases xif E with ⟨h13, E⟩ | ⟨h13, E⟩
          · refine g_tsw (u := 120) rfl (by rw [h13]; decide +kernel) ?_
            refine g_aload rfl rfl ?_
            refine g_iload rfl rfl ?_
            obtain ⟨x1, S6, h14, E⟩ := ob2 E
            refine g_inv1 (dc := 2) rfl (by omega) tv0 (Nat.le_of_ble_eq_true rfl) (fun d hd => tw_halt hd v0 v1 S0 tv0 _ _ h14) ?_
            refine g_pop rfl ?_
            refine g_push rfl ?_
            obtain ⟨rfl, rfl⟩ := so2 E
            exact g_iret rfl
          · refine g_tsw (u := 128) rfl (tsw_d (sw_def (n := 4) rfl _ (by decide +kernel) (fc h2 (fc h4 (fc h7 (fc h9 (fc h13 fn))))))) ?_
            refine g_push rfl ?_
            obtain ⟨rfl, rfl⟩ := so2 E
            exact g_iret rfl
def fw_unstash (v0 : Nat) (v1 : Nat) (S0 : Mem) : Option Mem := bd (fp_putAhead (v1 + 3) (v1 + 6) S0) fun x1 S1 => (some (up2 S1 v0 8 ((S0 v0 8) + ((S0 (v1 + 6) 2) - x1)))).bind fun S2 => (some (up2 S2 (v1 + 6) 2 0)).bind fun S3 => some S3
set_option maxRecDepth 20000 in
set_option maxHeartbeats 4000000 in
theorem tw_unstash {scr : Nat × (Nat → Int32)} {d : Nat} (hd : 1 ≤ d) (v0 : Nat) (v1 : Nat) (S0 : Mem) (tv0 : Ty 6 v0) (tv1 : Ty 0 v1) (SR : Mem) (E : fw_unstash  v0 v1 S0 = some SR) : XG scr d 66 0 [(0, .inr (some (some v0))), (1, .inr (some (some v1)))] [] S0 none SR := by
  unfold fw_unstash at E
  refine g_aload rfl rfl ?_
  refine g_dup rfl ?_
  refine g_getI rfl tv0 ?_
  refine g_aload rfl rfl ?_
  refine g_getR rfl tv1 (fR_0_9 tv1) ?_
  refine g_getI rfl (fT_0_9 tv1) ?_
  refine g_aload rfl rfl ?_
  refine g_getR rfl tv1 (fR_0_8 tv1) ?_
  refine g_aload rfl rfl ?_
  refine g_getR rfl tv1 (fR_0_9 tv1) ?_
  obtain ⟨x1, S1, h1, E⟩ := ob2 E
  refine g_inv1 (dc := 0) rfl (by omega) (fT_0_8 tv1) (Nat.le_of_ble_eq_true rfl) (fun d hd => tp_putAhead hd (v1 + 3) (v1 + 6) S0 (fT_0_8 tv1) (fT_0_9 tv1) _ _ h1) ?_
  refine g_isub rfl ?_
  refine g_iadd rfl ?_
  obtain ⟨S2, hS2, E⟩ := ob E
  refine g_putI rfl tv0 hS2 ?_
  refine g_aload rfl rfl ?_
  refine g_getR rfl tv1 (fR_0_9 tv1) ?_
  refine g_push rfl ?_
  obtain ⟨S3, hS3, E⟩ := ob E
  refine g_putI rfl (fT_0_9 tv1) hS3 ?_
  obtain rfl := so1 E
  exact g_ret rfl
def fw_dealEarlier (v0 : Nat) (v1 : Int32) (v2 : Int32) (v3 : Int32) (v4 : Int32) (S0 : Mem) : Option (Int32 × Mem) := (ix v1 12).bind fun i1 => if v2 = 0 then ((some (up2 S0 (v0 + 12 + 13 * i1) 5 ((S0 (v0 + 12 + 13 * i1) 5) + v4))).bind fun S1 => some (0, S1)) else (if v2 = 1 then ((fw_sendDown v0 v1 v4 1 S0).bind fun S2 => some (0, S2)) else (if v2 = 2 then (if v4 ≤ 0 then (some (0, S0)) else ((fw_isActor v0 v3 S0).bind fun x1 => if x1 = 0 then (some (0, S0)) else (bd (fw_send v0 v3 v1 (v4 - 1) S0) fun x2 S3 => some (0, S3)))) else (if v2 = 3 then (if (irm v4 2) = 0 then ((fw_unstash v0 (v0 + 12 + 13 * i1) S0).bind fun S4 => some (0, S4)) else (bd (fp_add (v0 + 12 + 13 * i1 + 6) v3 v4 S0) fun x3 S5 => if x3 = 0 then (some (3, S5)) else (some (0, S5)))) else (if v2 = 4 then (if v4 < 0 then (if (S0 (v0 + 12 + 13 * i1 + 1) 1) ≤ 1 then ((some (up2 S0 (v0 + 12 + 13 * i1 + 1) 1 ((S0 (v0 + 12 + 13 * i1 + 1) 1) - 0))).bind fun S6 => some (0, S6)) else ((some (up2 S0 (v0 + 12 + 13 * i1 + 1) 1 ((S0 (v0 + 12 + 13 * i1 + 1) 1) - 1))).bind fun S7 => some (0, S7))) else (bd (fn_add (v0 + 12 + 13 * i1 + 1) (irm v4 10) S0) fun x4 S8 => if x4 = 0 then (some (4, S8)) else (some (0, S8)))) else (some (0, S0))))))
set_option maxRecDepth 20000 in
set_option maxHeartbeats 4000000 in
theorem tw_dealEarlier {scr : Nat × (Nat → Int32)} {d : Nat} (hd : 3 ≤ d) (v0 : Nat) (v1 : Int32) (v2 : Int32) (v3 : Int32) (v4 : Int32) (S0 : Mem) (tv0 : Ty 6 v0) (rv : Int32) (SR : Mem) (E : fw_dealEarlier  v0 v1 v2 v3 v4 S0 = some (rv, SR)) : XG scr d 44 0 [(0, .inr (some (some v0))), (1, .inl v1), (2, .inl v2), (3, .inl v3), (4, .inl v4)] [] S0 (some (.inl rv)) SR := by
  unfold fw_dealEarlier at E
  refine g_aload rfl rfl ?_
  refine g_getR rfl tv0 (fR_6_0 tv0) ?_
  refine g_iload rfl rfl ?_
  obtain ⟨i1, h1, E⟩ := ob E
  refine g_aald rfl (eK_a _ tv0.1 tv0.2).1.1 (eK_a _ tv0.1 tv0.2).1.2 (by decide) h1 (rA_a tv0 h1) ?_
  refine g_astore (L2 := [(5, .inr (some (some (v0 + 12 + 13 * i1)))), (0, .inr (some (some v0))), (1, .inl v1), (2, .inl v2), (3, .inl v3), (4, .inl v4)]) rfl rfl ?_
  refine g_iload rfl rfl ?_
  rcases xif E with ⟨h2, E⟩ | ⟨h2, E⟩
  · refine g_tsw (u := 44) rfl (by rw [h2]; decide +kernel) ?_
    refine g_aload rfl rfl ?_
    refine g_dup rfl ?_
    refine g_getI rfl (eT_a tv0 h1) ?_
    refine g_iload rfl rfl ?_
    refine g_iadd rfl ?_
    obtain ⟨S1, hS1, E⟩ := ob E
    refine g_putI rfl (eT_a tv0 h1) hS1 ?_
    refine g_push rfl ?_
    obtain ⟨rfl, rfl⟩ := so2 E
    exact g_iret rfl
  · rcases xif E with ⟨h3, E⟩ | ⟨h3, E⟩
    · refine g_tsw (u := 58) rfl (by rw [h3]; decide +kernel) ?_
      refine g_aload rfl rfl ?_
      refine g_iload rfl rfl ?_
      refine g_iload rfl rfl ?_
      refine g_push rfl ?_
      obtain ⟨S2, h4, E⟩ := ob E
      refine g_inv3 (dc := 2) rfl (by omega) tv0 (Nat.le_of_ble_eq_true rfl) (fun d hd => tw_sendDown hd v0 v1 v4 1 S0 tv0 _ h4) ?_
      refine g_push rfl ?_
      obtain ⟨rfl, rfl⟩ := so2 E
      exact g_iret rfl
    · rcases xif E with ⟨h5, E⟩ | ⟨h5, E⟩
      · refine g_tsw (u := 68) rfl (by rw [h5]; decide +kernel) ?_
        refine g_iload rfl rfl ?_
        rcases xif E with ⟨h6, E⟩ | ⟨h6, E⟩
        · refine g_ifle_t rfl h6 ?_
          refine g_push rfl ?_
          obtain ⟨rfl, rfl⟩ := so2 E
          exact g_iret rfl
        · refine g_ifle_f rfl h6 ?_
          refine g_aload rfl rfl ?_
          refine g_iload rfl rfl ?_
          obtain ⟨x1, h7, E⟩ := ob E
          refine g_inv1 (dc := 0) rfl (by omega) tv0 (Nat.le_of_ble_eq_true rfl) (fun d hd => tw_isActor hd v0 v3 S0 tv0 _ h7) ?_
          rcases xif E with ⟨h8, E⟩ | ⟨h8, E⟩
          · refine g_ifeq_t rfl h8 ?_
            refine g_push rfl ?_
            obtain ⟨rfl, rfl⟩ := so2 E
            exact g_iret rfl
          · refine g_ifeq_f rfl h8 ?_
            refine g_aload rfl rfl ?_
            refine g_iload rfl rfl ?_
            refine g_iload rfl rfl ?_
            refine g_iload rfl rfl ?_
            refine g_push rfl ?_
            refine g_isub rfl ?_
            obtain ⟨x2, S3, h9, E⟩ := ob2 E
            refine g_inv3 (dc := 1) rfl (by omega) tv0 (Nat.le_of_ble_eq_true rfl) (fun d hd => tw_send hd v0 v3 v1 (v4 - 1) S0 tv0 _ _ h9) ?_
            refine g_pop rfl ?_
            refine g_push rfl ?_
            obtain ⟨rfl, rfl⟩ := so2 E
            exact g_iret rfl
      · rcases xif E with ⟨h10, E⟩ | ⟨h10, E⟩
        · refine g_tsw (u := 94) rfl (by rw [h10]; decide +kernel) ?_
          refine g_iload rfl rfl ?_
          refine g_push rfl ?_
          refine g_irem rfl (by decide) ?_
          rcases xif E with ⟨h11, E⟩ | ⟨h11, E⟩
          · refine g_ifeq_t rfl h11 ?_
            refine g_aload rfl rfl ?_
            refine g_aload rfl rfl ?_
            obtain ⟨S4, h12, E⟩ := ob E
            refine g_inv1 (dc := 1) rfl (by omega) tv0 (Nat.le_of_ble_eq_true rfl) (fun d hd => tw_unstash hd v0 (v0 + 12 + 13 * i1) S0 tv0 (eT_a tv0 h1) _ h12) ?_
            refine g_push rfl ?_
            obtain ⟨rfl, rfl⟩ := so2 E
            exact g_iret rfl
          · refine g_ifeq_f rfl h11 ?_
            refine g_aload rfl rfl ?_
            refine g_getR rfl (eT_a tv0 h1) (fR_0_9 (eT_a tv0 h1)) ?_
            refine g_iload rfl rfl ?_
            refine g_iload rfl rfl ?_
            obtain ⟨x3, S5, h13, E⟩ := ob2 E
            refine g_inv2 (dc := 0) rfl (by omega) (fT_0_9 (eT_a tv0 h1)) (Nat.le_of_ble_eq_true rfl) (fun d hd => tp_add hd (v0 + 12 + 13 * i1 + 6) v3 v4 S0 (fT_0_9 (eT_a tv0 h1)) _ _ h13) ?_
            rcases xif E with ⟨h14, E⟩ | ⟨h14, E⟩
            · refine g_ifeq_t rfl h14 ?_
              refine g_push rfl ?_
              obtain ⟨rfl, rfl⟩ := so2 E
              exact g_iret rfl
            · refine g_ifeq_f rfl h14 ?_
              refine g_push rfl ?_
              refine g_goto rfl ?_
              obtain ⟨rfl, rfl⟩ := so2 E
              exact g_iret rfl
        · rcases xif E with ⟨h15, E⟩ | ⟨h15, E⟩
          · refine g_tsw (u := 129) rfl (by rw [h15]; decide +kernel) ?_
            refine g_iload rfl rfl ?_
            rcases xif E with ⟨h16, E⟩ | ⟨h16, E⟩
            · refine g_iflt_t rfl h16 ?_
              refine g_aload rfl rfl ?_
              refine g_getR rfl (eT_a tv0 h1) (fR_0_7 (eT_a tv0 h1)) ?_
              refine g_dup rfl ?_
              refine g_getI rfl (fT_0_7 (eT_a tv0 h1)) ?_
              refine g_aload rfl rfl ?_
              refine g_getR rfl (eT_a tv0 h1) (fR_0_7 (eT_a tv0 h1)) ?_
              refine g_getI rfl (fT_0_7 (eT_a tv0 h1)) ?_
              refine g_push rfl ?_
              rcases xif E with ⟨h17, E⟩ | ⟨h17, E⟩
              · refine g_icle_t rfl h17 ?_
                refine g_push rfl ?_
                refine g_isub rfl ?_
                obtain ⟨S6, hS6, E⟩ := ob E
                refine g_putI rfl (fT_0_7 (eT_a tv0 h1)) hS6 ?_
                refine g_push rfl ?_
                obtain ⟨rfl, rfl⟩ := so2 E
                exact g_iret rfl
              · refine g_icle_f rfl h17 ?_
                refine g_push rfl ?_
                refine g_goto rfl ?_
                refine g_isub rfl ?_
                obtain ⟨S7, hS7, E⟩ := ob E
                refine g_putI rfl (fT_0_7 (eT_a tv0 h1)) hS7 ?_
                refine g_push rfl ?_
                obtain ⟨rfl, rfl⟩ := so2 E
                exact g_iret rfl
            · refine g_iflt_f rfl h16 ?_
              refine g_aload rfl rfl ?_
              refine g_getR rfl (eT_a tv0 h1) (fR_0_7 (eT_a tv0 h1)) ?_
              refine g_iload rfl rfl ?_
              refine g_push rfl ?_
              refine g_irem rfl (by decide) ?_
              obtain ⟨x4, S8, h18, E⟩ := ob2 E
              refine g_inv1 (dc := 0) rfl (by omega) (fT_0_7 (eT_a tv0 h1)) (Nat.le_of_ble_eq_true rfl) (fun d hd => tn_add hd (v0 + 12 + 13 * i1 + 1) (irm v4 10) S0 (fT_0_7 (eT_a tv0 h1)) _ _ h18) ?_
              rcases xif E with ⟨h19, E⟩ | ⟨h19, E⟩
              · refine g_ifeq_t rfl h19 ?_
                refine g_push rfl ?_
                obtain ⟨rfl, rfl⟩ := so2 E
                exact g_iret rfl
              · refine g_ifeq_f rfl h19 ?_
                refine g_push rfl ?_
                refine g_goto rfl ?_
                obtain ⟨rfl, rfl⟩ := so2 E
                exact g_iret rfl
          · refine g_tsw (u := 188) rfl (tsw_d (sw_def (n := 4) rfl _ (by decide +kernel) (fc h2 (fc h3 (fc h5 (fc h10 (fc h15 fn))))))) ?_
            refine g_push rfl ?_
            obtain ⟨rfl, rfl⟩ := so2 E
            exact g_iret rfl
def fw_deal (v0 : Nat) (v1 : Int32) (v2 : Int32) (v3 : Int32) (S0 : Mem) : Option (Int32 × Mem) := (fw_isActor v0 v1 S0).bind fun x1 => if x1 = 0 then (some (0, S0)) else ((ix v1 12).bind fun i1 => (fn_at (v0 + 12 + 13 * i1 + 1) ((S0 (v0 + 12 + 13 * i1 + 1) 1) - 1) S0).bind fun x2 => if 200 ≤ v3 then (if x2 = 5 then (some (2, S0)) else ((some (up2 S0 (v0 + 12 + 13 * i1) 5 ((S0 (v0 + 12 + 13 * i1) 5) + (100 + (v3 - 200))))).bind fun S1 => some (0, S1))) else (if x2 < 5 then (bd (fw_dealEarlier v0 v1 x2 v2 v3 S0) fun x3 S2 => some (x3, S2)) else (bd (fw_dealLater v0 v1 x2 v3 S0) fun x4 S3 => some (x4, S3))))
set_option maxRecDepth 20000 in
set_option maxHeartbeats 4000000 in
theorem tw_deal {scr : Nat × (Nat → Int32)} {d : Nat} (hd : 4 ≤ d) (v0 : Nat) (v1 : Int32) (v2 : Int32) (v3 : Int32) (S0 : Mem) (tv0 : Ty 6 v0) (rv : Int32) (SR : Mem) (E : fw_deal  v0 v1 v2 v3 S0 = some (rv, SR)) : XG scr d 43 0 [(0, .inr (some (some v0))), (1, .inl v1), (2, .inl v2), (3, .inl v3)] [] S0 (some (.inl rv)) SR := by
  unfold fw_deal at E
  refine g_aload rfl rfl ?_
  refine g_iload rfl rfl ?_
  obtain ⟨x1, h1, E⟩ := ob E
  refine g_inv1 (dc := 0) rfl (by omega) tv0 (Nat.le_of_ble_eq_true rfl) (fun d hd => tw_isActor hd v0 v1 S0 tv0 _ h1) ?_
  rcases xif E with ⟨h2, E⟩ | ⟨h2, E⟩
  · refine g_ifne_t rfl h2 ?_
    refine g_push rfl ?_
    obtain ⟨rfl, rfl⟩ := so2 E
    exact g_iret rfl
  · refine g_ifne_f rfl h2 ?_
    refine g_aload rfl rfl ?_
    refine g_getR rfl tv0 (fR_6_0 tv0) ?_
    refine g_iload rfl rfl ?_
    obtain ⟨i1, h3, E⟩ := ob E
    refine g_aald rfl (eK_a _ tv0.1 tv0.2).1.1 (eK_a _ tv0.1 tv0.2).1.2 (by decide) h3 (rA_a tv0 h3) ?_
    refine g_astore (L2 := [(4, .inr (some (some (v0 + 12 + 13 * i1)))), (0, .inr (some (some v0))), (1, .inl v1), (2, .inl v2), (3, .inl v3)]) rfl rfl ?_
    refine g_aload rfl rfl ?_
    refine g_getR rfl (eT_a tv0 h3) (fR_0_7 (eT_a tv0 h3)) ?_
    refine g_aload rfl rfl ?_
    refine g_getR rfl (eT_a tv0 h3) (fR_0_7 (eT_a tv0 h3)) ?_
    refine g_getI rfl (fT_0_7 (eT_a tv0 h3)) ?_
    refine g_push rfl ?_
    refine g_isub rfl ?_
    obtain ⟨x2, h4, E⟩ := ob E
    refine g_inv1 (dc := 0) rfl (by omega) (fT_0_7 (eT_a tv0 h3)) (Nat.le_of_ble_eq_true rfl) (fun d hd => tn_at hd (v0 + 12 + 13 * i1 + 1) ((S0 (v0 + 12 + 13 * i1 + 1) 1) - 1) S0 (fT_0_7 (eT_a tv0 h3)) _ h4) ?_
    refine g_istore (L2 := [(5, .inl x2), (4, .inr (some (some (v0 + 12 + 13 * i1)))), (0, .inr (some (some v0))), (1, .inl v1), (2, .inl v2), (3, .inl v3)]) rfl rfl ?_
    refine g_iload rfl rfl ?_
    refine g_push rfl ?_
    rcases xif E with ⟨h5, E⟩ | ⟨h5, E⟩
    · refine g_icge_t rfl h5 ?_
      refine g_iload rfl rfl ?_
      refine g_push rfl ?_
      rcases xif E with ⟨h6, E⟩ | ⟨h6, E⟩
      · refine g_icne_t rfl h6 ?_
        refine g_push rfl ?_
        obtain ⟨rfl, rfl⟩ := so2 E
        exact g_iret rfl
      · refine g_icne_f rfl h6 ?_
        refine g_aload rfl rfl ?_
        refine g_dup rfl ?_
        refine g_getI rfl (eT_a tv0 h3) ?_
        refine g_push rfl ?_
        refine g_iload rfl rfl ?_
        refine g_push rfl ?_
        refine g_isub rfl ?_
        refine g_iadd rfl ?_
        refine g_iadd rfl ?_
        obtain ⟨S1, hS1, E⟩ := ob E
        refine g_putI rfl (eT_a tv0 h3) hS1 ?_
        refine g_push rfl ?_
        obtain ⟨rfl, rfl⟩ := so2 E
        exact g_iret rfl
    · refine g_icge_f rfl h5 ?_
      refine g_iload rfl rfl ?_
      refine g_push rfl ?_
      rcases xif E with ⟨h7, E⟩ | ⟨h7, E⟩
      · refine g_iclt_t rfl h7 ?_
        refine g_aload rfl rfl ?_
        refine g_iload rfl rfl ?_
        refine g_iload rfl rfl ?_
        refine g_iload rfl rfl ?_
        refine g_iload rfl rfl ?_
        obtain ⟨x3, S2, h8, E⟩ := ob2 E
        refine g_inv4 (dc := 3) rfl (by omega) tv0 (Nat.le_of_ble_eq_true rfl) (fun d hd => tw_dealEarlier hd v0 v1 x2 v2 v3 S0 tv0 _ _ h8) ?_
        obtain ⟨rfl, rfl⟩ := so2 E
        exact g_iret rfl
      · refine g_iclt_f rfl h7 ?_
        refine g_aload rfl rfl ?_
        refine g_iload rfl rfl ?_
        refine g_iload rfl rfl ?_
        refine g_iload rfl rfl ?_
        obtain ⟨x4, S3, h9, E⟩ := ob2 E
        refine g_inv3 (dc := 3) rfl (by omega) tv0 (Nat.le_of_ble_eq_true rfl) (fun d hd => tw_dealLater hd v0 v1 x2 v3 S0 tv0 _ _ h9) ?_
        refine g_goto rfl ?_
        obtain ⟨rfl, rfl⟩ := so2 E
        exact g_iret rfl
def fw_isOverBudgetAbove (v0 : Nat) (v1 : Int32) (S0 : Mem) : Option (Int32 × Mem) := (fw_isActor v0 v1 S0).bind fun x1 => if x1 = 0 then (some (0, S0)) else ((ix v1 12).bind fun i1 => (fw_isActor v0 (S0 (v0 + 12 + 13 * i1) 0) S0).bind fun x2 => if x2 = 0 then (some (0, S0)) else ((ix v1 12).bind fun i2 => (ix (S0 (v0 + 12 + 13 * i2) 0) 12).bind fun i3 => (fn_removeBelow (v0 + 12 + 13 * i3 + 11) ((S0 v0 6) - (S0 (v0 + 12 + 13 * i3) 4)) S0).bind fun S1 => bd (fn_add (v0 + 12 + 13 * i3 + 11) (S1 v0 6) S1) fun x3 S2 => if (S2 (v0 + 12 + 13 * i3 + 11) 1) ≤ (S2 (v0 + 12 + 13 * i3) 3) then (some (0, S2)) else (some (1, S2))))
set_option maxRecDepth 20000 in
set_option maxHeartbeats 4000000 in
theorem tw_isOverBudgetAbove {scr : Nat × (Nat → Int32)} {d : Nat} (hd : 1 ≤ d) (v0 : Nat) (v1 : Int32) (S0 : Mem) (tv0 : Ty 6 v0) (rv : Int32) (SR : Mem) (E : fw_isOverBudgetAbove  v0 v1 S0 = some (rv, SR)) : XG scr d 56 0 [(0, .inr (some (some v0))), (1, .inl v1)] [] S0 (some (.inl rv)) SR := by
  unfold fw_isOverBudgetAbove at E
  refine g_aload rfl rfl ?_
  refine g_iload rfl rfl ?_
  obtain ⟨x1, h1, E⟩ := ob E
  refine g_inv1 (dc := 0) rfl (by omega) tv0 (Nat.le_of_ble_eq_true rfl) (fun d hd => tw_isActor hd v0 v1 S0 tv0 _ h1) ?_
  rcases xif E with ⟨h2, E⟩ | ⟨h2, E⟩
  · refine g_ifeq_t rfl h2 ?_
    refine g_push rfl ?_
    obtain ⟨rfl, rfl⟩ := so2 E
    exact g_zret rfl b00
  · refine g_ifeq_f rfl h2 ?_
    refine g_aload rfl rfl ?_
    refine g_aload rfl rfl ?_
    refine g_getR rfl tv0 (fR_6_0 tv0) ?_
    refine g_iload rfl rfl ?_
    obtain ⟨i1, h3, E⟩ := ob E
    refine g_aald rfl (eK_a _ tv0.1 tv0.2).1.1 (eK_a _ tv0.1 tv0.2).1.2 (by decide) h3 (rA_a tv0 h3) ?_
    refine g_getI rfl (eT_a tv0 h3) ?_
    obtain ⟨x2, h4, E⟩ := ob E
    refine g_inv1 (dc := 0) rfl (by omega) tv0 (Nat.le_of_ble_eq_true rfl) (fun d hd => tw_isActor hd v0 (S0 (v0 + 12 + 13 * i1) 0) S0 tv0 _ h4) ?_
    rcases xif E with ⟨h5, E⟩ | ⟨h5, E⟩
    · refine g_ifne_t rfl h5 ?_
      refine g_push rfl ?_
      obtain ⟨rfl, rfl⟩ := so2 E
      exact g_zret rfl b00
    · refine g_ifne_f rfl h5 ?_
      refine g_aload rfl rfl ?_
      refine g_getR rfl tv0 (fR_6_0 tv0) ?_
      refine g_aload rfl rfl ?_
      refine g_getR rfl tv0 (fR_6_0 tv0) ?_
      refine g_iload rfl rfl ?_
      obtain ⟨i2, h6, E⟩ := ob E
      refine g_aald rfl (eK_a _ tv0.1 tv0.2).1.1 (eK_a _ tv0.1 tv0.2).1.2 (by decide) h6 (rA_a tv0 h6) ?_
      refine g_getI rfl (eT_a tv0 h6) ?_
      obtain ⟨i3, h7, E⟩ := ob E
      refine g_aald rfl (eK_a _ tv0.1 tv0.2).1.1 (eK_a _ tv0.1 tv0.2).1.2 (by decide) h7 (rA_a tv0 h7) ?_
      refine g_astore (L2 := [(2, .inr (some (some (v0 + 12 + 13 * i3)))), (0, .inr (some (some v0))), (1, .inl v1)]) rfl rfl ?_
      refine g_aload rfl rfl ?_
      refine g_getR rfl (eT_a tv0 h7) (fR_0_11 (eT_a tv0 h7)) ?_
      refine g_aload rfl rfl ?_
      refine g_getI rfl tv0 ?_
      refine g_aload rfl rfl ?_
      refine g_getI rfl (eT_a tv0 h7) ?_
      refine g_isub rfl ?_
      obtain ⟨S1, h8, E⟩ := ob E
      refine g_inv1 (dc := 0) rfl (by omega) (fT_0_11 (eT_a tv0 h7)) (Nat.le_of_ble_eq_true rfl) (fun d hd => tn_removeBelow hd (v0 + 12 + 13 * i3 + 11) ((S0 v0 6) - (S0 (v0 + 12 + 13 * i3) 4)) S0 (fT_0_11 (eT_a tv0 h7)) _ h8) ?_
      refine g_aload rfl rfl ?_
      refine g_getR rfl (eT_a tv0 h7) (fR_0_11 (eT_a tv0 h7)) ?_
      refine g_aload rfl rfl ?_
      refine g_getI rfl tv0 ?_
      obtain ⟨x3, S2, h9, E⟩ := ob2 E
      refine g_inv1 (dc := 0) rfl (by omega) (fT_0_11 (eT_a tv0 h7)) (Nat.le_of_ble_eq_true rfl) (fun d hd => tn_add hd (v0 + 12 + 13 * i3 + 11) (S1 v0 6) S1 (fT_0_11 (eT_a tv0 h7)) _ _ h9) ?_
      refine g_pop rfl ?_
      refine g_aload rfl rfl ?_
      refine g_getR rfl (eT_a tv0 h7) (fR_0_11 (eT_a tv0 h7)) ?_
      refine g_getI rfl (fT_0_11 (eT_a tv0 h7)) ?_
      refine g_aload rfl rfl ?_
      refine g_getI rfl (eT_a tv0 h7) ?_
      rcases xif E with ⟨h10, E⟩ | ⟨h10, E⟩
      · refine g_icle_t rfl h10 ?_
        refine g_push rfl ?_
        obtain ⟨rfl, rfl⟩ := so2 E
        exact g_zret rfl b00
      · refine g_icle_f rfl h10 ?_
        refine g_push rfl ?_
        refine g_goto rfl ?_
        obtain ⟨rfl, rfl⟩ := so2 E
        exact g_zret rfl b01
def fw_isRestartedWith (v0 : Nat) (v1 : Int32) (v2 : Int32) (S0 : Mem) : Option Int32 := (fw_isActor v0 v2 S0).bind fun x1 => if x1 = 0 then (some 0) else ((ix v2 12).bind fun i1 => (fw_isActor v0 (S0 (v0 + 12 + 13 * i1) 0) S0).bind fun x2 => if x2 = 0 then (some 0) else ((ix v2 12).bind fun i2 => (fw_isLiveChild v0 v1 (S0 (v0 + 12 + 13 * i2) 0) S0).bind fun x3 => if x3 = 0 then (some 0) else ((ix v2 12).bind fun i3 => (ix (S0 (v0 + 12 + 13 * i3) 0) 12).bind fun i4 => if v1 = v2 then (some 1) else (if (S0 (v0 + 12 + 13 * i4) 2) = 1 then (some 1) else (if (S0 (v0 + 12 + 13 * i4) 2) = 2 then (if v1 ≤ v2 then (some 0) else (some 1)) else (some 0))))))
set_option maxRecDepth 20000 in
set_option maxHeartbeats 4000000 in
theorem tw_isRestartedWith {scr : Nat × (Nat → Int32)} {d : Nat} (hd : 1 ≤ d) (v0 : Nat) (v1 : Int32) (v2 : Int32) (S0 : Mem) (tv0 : Ty 6 v0) (rv : Int32) (E : fw_isRestartedWith  v0 v1 v2 S0 = some rv) : XG scr d 57 0 [(0, .inr (some (some v0))), (1, .inl v1), (2, .inl v2)] [] S0 (some (.inl rv)) S0 := by
  unfold fw_isRestartedWith at E
  refine g_aload rfl rfl ?_
  refine g_iload rfl rfl ?_
  obtain ⟨x1, h1, E⟩ := ob E
  refine g_inv1 (dc := 0) rfl (by omega) tv0 (Nat.le_of_ble_eq_true rfl) (fun d hd => tw_isActor hd v0 v2 S0 tv0 _ h1) ?_
  rcases xif E with ⟨h2, E⟩ | ⟨h2, E⟩
  · refine g_ifeq_t rfl h2 ?_
    refine g_push rfl ?_
    obtain rfl := so1 E
    exact g_zret rfl b00
  · refine g_ifeq_f rfl h2 ?_
    refine g_aload rfl rfl ?_
    refine g_aload rfl rfl ?_
    refine g_getR rfl tv0 (fR_6_0 tv0) ?_
    refine g_iload rfl rfl ?_
    obtain ⟨i1, h3, E⟩ := ob E
    refine g_aald rfl (eK_a _ tv0.1 tv0.2).1.1 (eK_a _ tv0.1 tv0.2).1.2 (by decide) h3 (rA_a tv0 h3) ?_
    refine g_getI rfl (eT_a tv0 h3) ?_
    obtain ⟨x2, h4, E⟩ := ob E
    refine g_inv1 (dc := 0) rfl (by omega) tv0 (Nat.le_of_ble_eq_true rfl) (fun d hd => tw_isActor hd v0 (S0 (v0 + 12 + 13 * i1) 0) S0 tv0 _ h4) ?_
    rcases xif E with ⟨h5, E⟩ | ⟨h5, E⟩
    · refine g_ifeq_t rfl h5 ?_
      refine g_push rfl ?_
      obtain rfl := so1 E
      exact g_zret rfl b00
    · refine g_ifeq_f rfl h5 ?_
      refine g_aload rfl rfl ?_
      refine g_iload rfl rfl ?_
      refine g_aload rfl rfl ?_
      refine g_getR rfl tv0 (fR_6_0 tv0) ?_
      refine g_iload rfl rfl ?_
      obtain ⟨i2, h6, E⟩ := ob E
      refine g_aald rfl (eK_a _ tv0.1 tv0.2).1.1 (eK_a _ tv0.1 tv0.2).1.2 (by decide) h6 (rA_a tv0 h6) ?_
      refine g_getI rfl (eT_a tv0 h6) ?_
      obtain ⟨x3, h7, E⟩ := ob E
      refine g_inv2 (dc := 0) rfl (by omega) tv0 (Nat.le_of_ble_eq_true rfl) (fun d hd => tw_isLiveChild hd v0 v1 (S0 (v0 + 12 + 13 * i2) 0) S0 tv0 _ h7) ?_
      rcases xif E with ⟨h8, E⟩ | ⟨h8, E⟩
      · refine g_ifne_t rfl h8 ?_
        refine g_push rfl ?_
        obtain rfl := so1 E
        exact g_zret rfl b00
      · refine g_ifne_f rfl h8 ?_
        refine g_aload rfl rfl ?_
        refine g_getR rfl tv0 (fR_6_0 tv0) ?_
        refine g_aload rfl rfl ?_
        refine g_getR rfl tv0 (fR_6_0 tv0) ?_
        refine g_iload rfl rfl ?_
        obtain ⟨i3, h9, E⟩ := ob E
        refine g_aald rfl (eK_a _ tv0.1 tv0.2).1.1 (eK_a _ tv0.1 tv0.2).1.2 (by decide) h9 (rA_a tv0 h9) ?_
        refine g_getI rfl (eT_a tv0 h9) ?_
        obtain ⟨i4, h10, E⟩ := ob E
        refine g_aald rfl (eK_a _ tv0.1 tv0.2).1.1 (eK_a _ tv0.1 tv0.2).1.2 (by decide) h10 (rA_a tv0 h10) ?_
        refine g_getI rfl (eT_a tv0 h10) ?_
        refine g_istore (L2 := [(3, .inl (S0 (v0 + 12 + 13 * i4) 2)), (0, .inr (some (some v0))), (1, .inl v1), (2, .inl v2)]) rfl rfl ?_
        refine g_iload rfl rfl ?_
        refine g_iload rfl rfl ?_
        rcases xif E with ⟨h11, E⟩ | ⟨h11, E⟩
        · refine g_iceq_t rfl h11 ?_
          refine g_push rfl ?_
          refine g_goto rfl ?_
          obtain rfl := so1 E
          exact g_zret rfl b01
        · refine g_iceq_f rfl h11 ?_
          refine g_iload rfl rfl ?_
          refine g_push rfl ?_
          rcases xif E with ⟨h12, E⟩ | ⟨h12, E⟩
          · refine g_iceq_t rfl h12 ?_
            refine g_push rfl ?_
            refine g_goto rfl ?_
            obtain rfl := so1 E
            exact g_zret rfl b01
          · refine g_iceq_f rfl h12 ?_
            refine g_iload rfl rfl ?_
            refine g_push rfl ?_
            rcases xif E with ⟨h13, E⟩ | ⟨h13, E⟩
            · refine g_icne_t rfl h13 ?_
              refine g_iload rfl rfl ?_
              refine g_iload rfl rfl ?_
              rcases xif E with ⟨h14, E⟩ | ⟨h14, E⟩
              · refine g_icle_t rfl h14 ?_
                refine g_push rfl ?_
                obtain rfl := so1 E
                exact g_zret rfl b00
              · refine g_icle_f rfl h14 ?_
                refine g_push rfl ?_
                refine g_goto rfl ?_
                obtain rfl := so1 E
                exact g_zret rfl b01
            · refine g_icne_f rfl h13 ?_
              refine g_push rfl ?_
              obtain rfl := so1 E
              exact g_zret rfl b00
def fw_restart_24b (k24 : Nat → Int32 → Int32 → Mem → Option Mem) (v0 : Nat) (v1 : Int32) (v2 : Int32) (S0 : Mem) : Option Mem := if v2 ≤ v1 then ((ix v1 12).bind fun i1 => (some (up2 S0 (v0 + 12 + 13 * i1) 5 0)).bind fun S1 => (ix v1 12).bind fun i2 => (fa_keepOwnOnly (v0 + 12 + 13 * i2) S1).bind fun S2 => (fc_removeOf (v0 + 2) v1 S2).bind fun S3 => (ix v1 12).bind fun i3 => (fw_unstash v0 (v0 + 12 + 13 * i3) S3).bind fun S4 => some S4) else ((fw_isLiveChild v0 v2 v1 S0).bind fun x1 => if x1 = 0 then (k24 v0 v1 (v2 + (-1)) S0) else (bd (fw_halt v0 v2 S0) fun x2 S5 => k24 v0 v1 (v2 + (-1)) S5))
set_option maxRecDepth 20000 in
set_option maxHeartbeats 4000000 in
theorem tw_restart_24b {scr : Nat × (Nat → Int32)} {d : Nat} (hd : 3 ≤ d) {k24 : Nat → Int32 → Int32 → Mem → Option Mem} (hk24 : ∀ (v0 : Nat) (v1 : Int32) (v2 : Int32) (S0 : Mem), Ty 6 v0 → ∀ (SR : Mem), k24 v0 v1 v2 S0 = some SR → XG scr d 62 24 [(0, .inr (some (some v0))), (1, .inl v1), (2, .inl v2)] [] S0 none SR) (v0 : Nat) (v1 : Int32) (v2 : Int32) (S0 : Mem) (tv0 : Ty 6 v0) (SR : Mem) (E : fw_restart_24b k24 v0 v1 v2 S0 = some SR) : XG scr d 62 24 [(0, .inr (some (some v0))), (1, .inl v1), (2, .inl v2)] [] S0 none SR := by
  unfold fw_restart_24b at E
  refine g_iload rfl rfl ?_
  refine g_iload rfl rfl ?_
  rcases xif E with ⟨h1, E⟩ | ⟨h1, E⟩
  · refine g_icle_t rfl h1 ?_
    refine g_aload rfl rfl ?_
    refine g_getR rfl tv0 (fR_6_0 tv0) ?_
    refine g_iload rfl rfl ?_
    obtain ⟨i1, h2, E⟩ := ob E
    refine g_aald rfl (eK_a _ tv0.1 tv0.2).1.1 (eK_a _ tv0.1 tv0.2).1.2 (by decide) h2 (rA_a tv0 h2) ?_
    refine g_push rfl ?_
    obtain ⟨S1, hS1, E⟩ := ob E
    refine g_putI rfl (eT_a tv0 h2) hS1 ?_
    refine g_aload rfl rfl ?_
    refine g_getR rfl tv0 (fR_6_0 tv0) ?_
    refine g_iload rfl rfl ?_
    obtain ⟨i2, h3, E⟩ := ob E
    refine g_aald rfl (eK_a _ tv0.1 tv0.2).1.1 (eK_a _ tv0.1 tv0.2).1.2 (by decide) h3 (rA_a tv0 h3) ?_
    obtain ⟨S2, h4, E⟩ := ob E
    refine g_inv0 (dc := 1) rfl (by omega) (eT_a tv0 h3) (Nat.le_of_ble_eq_true rfl) (fun d hd => ta_keepOwnOnly hd (v0 + 12 + 13 * i2) S1 (eT_a tv0 h3) _ h4) ?_
    refine g_aload rfl rfl ?_
    refine g_getR rfl tv0 (fR_6_1 tv0) ?_
    refine g_iload rfl rfl ?_
    obtain ⟨S3, h5, E⟩ := ob E
    refine g_inv1 (dc := 1) rfl (by omega) (fT_6_1 tv0) (Nat.le_of_ble_eq_true rfl) (fun d hd => tc_removeOf hd (v0 + 2) v1 S2 (fT_6_1 tv0) _ h5) ?_
    refine g_aload rfl rfl ?_
    refine g_aload rfl rfl ?_
    refine g_getR rfl tv0 (fR_6_0 tv0) ?_
    refine g_iload rfl rfl ?_
    obtain ⟨i3, h6, E⟩ := ob E
    refine g_aald rfl (eK_a _ tv0.1 tv0.2).1.1 (eK_a _ tv0.1 tv0.2).1.2 (by decide) h6 (rA_a tv0 h6) ?_
    obtain ⟨S4, h7, E⟩ := ob E
    refine g_inv1 (dc := 1) rfl (by omega) tv0 (Nat.le_of_ble_eq_true rfl) (fun d hd => tw_unstash hd v0 (v0 + 12 + 13 * i3) S3 tv0 (eT_a tv0 h6) _ h7) ?_
    obtain rfl := so1 E
    exact g_ret rfl
  · refine g_icle_f rfl h1 ?_
    refine g_aload rfl rfl ?_
    refine g_iload rfl rfl ?_
    refine g_iload rfl rfl ?_
    obtain ⟨x1, h8, E⟩ := ob E
    refine g_inv2 (dc := 0) rfl (by omega) tv0 (Nat.le_of_ble_eq_true rfl) (fun d hd => tw_isLiveChild hd v0 v2 v1 S0 tv0 _ h8) ?_
    rcases xif E with ⟨h9, E⟩ | ⟨h9, E⟩
    · refine g_ifeq_t rfl h9 ?_
      refine g_iinc (L2 := [(2, .inl (v2 + (-1))), (0, .inr (some (some v0))), (1, .inl v1)]) rfl rfl rfl ?_
      refine g_goto rfl ?_
      exact g_loc (lsub_cons rfl (lsub_cons rfl (lsub_cons rfl lsub_nil))) (hk24 v0 v1 (v2 + (-1)) S0 tv0 _ E)
    · refine g_ifeq_f rfl h9 ?_
      refine g_aload rfl rfl ?_
      refine g_iload rfl rfl ?_
      obtain ⟨x2, S5, h10, E⟩ := ob2 E
      refine g_inv1 (dc := 2) rfl (by omega) tv0 (Nat.le_of_ble_eq_true rfl) (fun d hd => tw_halt hd v0 v2 S0 tv0 _ _ h10) ?_
      refine g_pop rfl ?_
      refine g_iinc (L2 := [(2, .inl (v2 + (-1))), (0, .inr (some (some v0))), (1, .inl v1)]) rfl rfl rfl ?_
      refine g_goto rfl ?_
      exact g_loc (lsub_cons rfl (lsub_cons rfl (lsub_cons rfl lsub_nil))) (hk24 v0 v1 (v2 + (-1)) S5 tv0 _ E)
def fw_restart_24  : Nat → Nat → Int32 → Int32 → Mem → Option Mem
  | 0 => fun _ _ _ _ => none
  | n + 1 => fw_restart_24b  (fw_restart_24  n)
set_option maxRecDepth 20000 in
set_option maxHeartbeats 4000000 in
theorem tw_restart_24 {scr : Nat × (Nat → Int32)} {d : Nat} (hd : 3 ≤ d)  : ∀ (n : Nat) (v0 : Nat) (v1 : Int32) (v2 : Int32) (S0 : Mem), Ty 6 v0 → ∀ (SR : Mem), fw_restart_24  n v0 v1 v2 S0 = some SR → XG scr d 62 24 [(0, .inr (some (some v0))), (1, .inl v1), (2, .inl v2)] [] S0 none SR
  | 0, v0, v1, v2, S0, tv0, SR, E => nn E
  | n + 1, v0, v1, v2, S0, tv0, SR, E => tw_restart_24b hd  (tw_restart_24 hd  n) v0 v1 v2 S0 tv0 SR E
def fw_restart (v0 : Nat) (v1 : Int32) (S0 : Mem) : Option Mem := (fw_isActor v0 v1 S0).bind fun x1 => if x1 = 0 then (some S0) else ((some (up2 S0 v0 12 ((S0 v0 12) ||| (1 <<< (v1 &&& 31))))).bind fun S1 => fw_restart_24 LF v0 v1 11 S1)
set_option maxRecDepth 20000 in
set_option maxHeartbeats 4000000 in
theorem tw_restart {scr : Nat × (Nat → Int32)} {d : Nat} (hd : 3 ≤ d) (v0 : Nat) (v1 : Int32) (S0 : Mem) (tv0 : Ty 6 v0) (SR : Mem) (E : fw_restart  v0 v1 S0 = some SR) : XG scr d 62 0 [(0, .inr (some (some v0))), (1, .inl v1)] [] S0 none SR := by
  unfold fw_restart at E
  refine g_aload rfl rfl ?_
  refine g_iload rfl rfl ?_
  obtain ⟨x1, h1, E⟩ := ob E
  refine g_inv1 (dc := 0) rfl (by omega) tv0 (Nat.le_of_ble_eq_true rfl) (fun d hd => tw_isActor hd v0 v1 S0 tv0 _ h1) ?_
  rcases xif E with ⟨h2, E⟩ | ⟨h2, E⟩
  · refine g_ifne_t rfl h2 ?_
    obtain rfl := so1 E
    exact g_ret rfl
  · refine g_ifne_f rfl h2 ?_
    refine g_aload rfl rfl ?_
    refine g_dup rfl ?_
    refine g_getI rfl tv0 ?_
    refine g_push rfl ?_
    refine g_iload rfl rfl ?_
    refine g_ishl rfl ?_
    refine g_ior rfl ?_
    obtain ⟨S1, hS1, E⟩ := ob E
    refine g_putI rfl tv0 hS1 ?_
    refine g_push rfl ?_
    refine g_istore (L2 := [(2, .inl 11), (0, .inr (some (some v0))), (1, .inl v1)]) rfl rfl ?_
    exact g_loc (lsub_cons rfl (lsub_cons rfl (lsub_cons rfl lsub_nil))) (tw_restart_24 hd LF v0 v1 11 S1 tv0 _ E)
def fw_fail_84b (k84 : Nat → Int32 → Int32 → Mem → Option Mem) (v0 : Nat) (v3 : Int32) (v4 : Int32) (S0 : Mem) : Option Mem := if (S0 v0 4) ≤ v4 then (some S0) else ((fw_isRestartedWith v0 v4 v3 S0).bind fun x1 => if x1 = 0 then (k84 v0 v3 (v4 + 1) S0) else ((fw_restart v0 v4 S0).bind fun S1 => k84 v0 v3 (v4 + 1) S1))
set_option maxRecDepth 20000 in
set_option maxHeartbeats 4000000 in
theorem tw_fail_84b {scr : Nat × (Nat → Int32)} {d : Nat} (hd : 4 ≤ d) {k84 : Nat → Int32 → Int32 → Mem → Option Mem} (hk84 : ∀ (v0 : Nat) (v3 : Int32) (v4 : Int32) (S0 : Mem), Ty 6 v0 → ∀ (SR : Mem), k84 v0 v3 v4 S0 = some SR → XG scr d 46 84 [(0, .inr (some (some v0))), (3, .inl v3), (4, .inl v4)] [] S0 none SR) (v0 : Nat) (v3 : Int32) (v4 : Int32) (S0 : Mem) (tv0 : Ty 6 v0) (SR : Mem) (E : fw_fail_84b k84 v0 v3 v4 S0 = some SR) : XG scr d 46 84 [(0, .inr (some (some v0))), (3, .inl v3), (4, .inl v4)] [] S0 none SR := by
  unfold fw_fail_84b at E
  refine g_iload rfl rfl ?_
  refine g_aload rfl rfl ?_
  refine g_getI rfl tv0 ?_
  rcases xif E with ⟨h1, E⟩ | ⟨h1, E⟩
  · refine g_icge_t rfl h1 ?_
    obtain rfl := so1 E
    exact g_ret rfl
  · refine g_icge_f rfl h1 ?_
    refine g_aload rfl rfl ?_
    refine g_iload rfl rfl ?_
    refine g_iload rfl rfl ?_
    obtain ⟨x1, h2, E⟩ := ob E
    refine g_inv2 (dc := 1) rfl (by omega) tv0 (Nat.le_of_ble_eq_true rfl) (fun d hd => tw_isRestartedWith hd v0 v4 v3 S0 tv0 _ h2) ?_
    rcases xif E with ⟨h3, E⟩ | ⟨h3, E⟩
    · refine g_ifeq_t rfl h3 ?_
      refine g_iinc (L2 := [(4, .inl (v4 + 1)), (0, .inr (some (some v0))), (3, .inl v3)]) rfl rfl rfl ?_
      refine g_goto rfl ?_
      exact g_loc (lsub_cons rfl (lsub_cons rfl (lsub_cons rfl lsub_nil))) (hk84 v0 v3 (v4 + 1) S0 tv0 _ E)
    · refine g_ifeq_f rfl h3 ?_
      refine g_aload rfl rfl ?_
      refine g_iload rfl rfl ?_
      obtain ⟨S1, h4, E⟩ := ob E
      refine g_inv1 (dc := 3) rfl (by omega) tv0 (Nat.le_of_ble_eq_true rfl) (fun d hd => tw_restart hd v0 v4 S0 tv0 _ h4) ?_
      refine g_iinc (L2 := [(4, .inl (v4 + 1)), (0, .inr (some (some v0))), (3, .inl v3)]) rfl rfl rfl ?_
      refine g_goto rfl ?_
      exact g_loc (lsub_cons rfl (lsub_cons rfl (lsub_cons rfl lsub_nil))) (hk84 v0 v3 (v4 + 1) S1 tv0 _ E)
def fw_fail_84  : Nat → Nat → Int32 → Int32 → Mem → Option Mem
  | 0 => fun _ _ _ _ => none
  | n + 1 => fw_fail_84b  (fw_fail_84  n)
set_option maxRecDepth 20000 in
set_option maxHeartbeats 4000000 in
theorem tw_fail_84 {scr : Nat × (Nat → Int32)} {d : Nat} (hd : 4 ≤ d)  : ∀ (n : Nat) (v0 : Nat) (v3 : Int32) (v4 : Int32) (S0 : Mem), Ty 6 v0 → ∀ (SR : Mem), fw_fail_84  n v0 v3 v4 S0 = some SR → XG scr d 46 84 [(0, .inr (some (some v0))), (3, .inl v3), (4, .inl v4)] [] S0 none SR
  | 0, v0, v3, v4, S0, tv0, SR, E => nn E
  | n + 1, v0, v3, v4, S0, tv0, SR, E => tw_fail_84b hd  (tw_fail_84 hd  n) v0 v3 v4 S0 tv0 SR E
def fw_fail_28b (k28 : Nat → Int32 → Int32 → Mem → Option Mem) (v0 : Nat) (v3 : Int32) (v4 : Int32) (S0 : Mem) : Option Mem := if 12 ≤ v4 then (if v3 = 0 then (bd (fw_halt v0 0 S0) fun x1 S1 => some S1) else (fw_fail_84 LF v0 v3 0 S0)) else (bd (fw_isOverBudgetAbove v0 v3 S0) fun x2 S2 => if x2 = 0 then (if v3 = 0 then (bd (fw_halt v0 0 S2) fun x3 S3 => some S3) else (fw_fail_84 LF v0 v3 0 S2)) else ((ix v3 12).bind fun i1 => bd (fp_add (v0 + 9) (S2 (v0 + 12 + 13 * i1) 0) 9 S2) fun x4 S4 => k28 v0 (S2 (v0 + 12 + 13 * i1) 0) (v4 + 1) S4))
set_option maxRecDepth 20000 in
set_option maxHeartbeats 4000000 in
theorem tw_fail_28b {scr : Nat × (Nat → Int32)} {d : Nat} (hd : 4 ≤ d) {k28 : Nat → Int32 → Int32 → Mem → Option Mem} (hk28 : ∀ (v0 : Nat) (v3 : Int32) (v4 : Int32) (S0 : Mem), Ty 6 v0 → ∀ (SR : Mem), k28 v0 v3 v4 S0 = some SR → XG scr d 46 28 [(0, .inr (some (some v0))), (3, .inl v3), (4, .inl v4)] [] S0 none SR) (v0 : Nat) (v3 : Int32) (v4 : Int32) (S0 : Mem) (tv0 : Ty 6 v0) (SR : Mem) (E : fw_fail_28b k28 v0 v3 v4 S0 = some SR) : XG scr d 46 28 [(0, .inr (some (some v0))), (3, .inl v3), (4, .inl v4)] [] S0 none SR := by
  unfold fw_fail_28b at E
  refine g_iload rfl rfl ?_
  refine g_push rfl ?_
  rcases xif E with ⟨h1, E⟩ | ⟨h1, E⟩
  · refine g_icge_t rfl h1 ?_
    refine g_iload rfl rfl ?_
    rcases xif E with ⟨h2, E⟩ | ⟨h2, E⟩
    · refine g_ifne_t rfl h2 ?_
      refine g_aload rfl rfl ?_
      refine g_push rfl ?_
      obtain ⟨x1, S1, h3, E⟩ := ob2 E
      refine g_inv1 (dc := 2) rfl (by omega) tv0 (Nat.le_of_ble_eq_true rfl) (fun d hd => tw_halt hd v0 0 S0 tv0 _ _ h3) ?_
      refine g_pop rfl ?_
      obtain rfl := so1 E
      exact g_ret rfl
    · refine g_ifne_f rfl h2 ?_
      refine g_push rfl ?_
      refine g_istore (L2 := [(4, .inl 0), (0, .inr (some (some v0))), (3, .inl v3)]) rfl rfl ?_
      exact g_loc (lsub_cons rfl (lsub_cons rfl (lsub_cons rfl lsub_nil))) (tw_fail_84 hd LF v0 v3 0 S0 tv0 _ E)
  · refine g_icge_f rfl h1 ?_
    refine g_aload rfl rfl ?_
    refine g_iload rfl rfl ?_
    obtain ⟨x2, S2, h4, E⟩ := ob2 E
    refine g_inv1 (dc := 1) rfl (by omega) tv0 (Nat.le_of_ble_eq_true rfl) (fun d hd => tw_isOverBudgetAbove hd v0 v3 S0 tv0 _ _ h4) ?_
    rcases xif E with ⟨h5, E⟩ | ⟨h5, E⟩
    · refine g_ifeq_t rfl h5 ?_
      refine g_iload rfl rfl ?_
      rcases xif E with ⟨h6, E⟩ | ⟨h6, E⟩
      · refine g_ifne_t rfl h6 ?_
        refine g_aload rfl rfl ?_
        refine g_push rfl ?_
        obtain ⟨x3, S3, h7, E⟩ := ob2 E
        refine g_inv1 (dc := 2) rfl (by omega) tv0 (Nat.le_of_ble_eq_true rfl) (fun d hd => tw_halt hd v0 0 S2 tv0 _ _ h7) ?_
        refine g_pop rfl ?_
        obtain rfl := so1 E
        exact g_ret rfl
      · refine g_ifne_f rfl h6 ?_
        refine g_push rfl ?_
        refine g_istore (L2 := [(4, .inl 0), (0, .inr (some (some v0))), (3, .inl v3)]) rfl rfl ?_
        exact g_loc (lsub_cons rfl (lsub_cons rfl (lsub_cons rfl lsub_nil))) (tw_fail_84 hd LF v0 v3 0 S2 tv0 _ E)
    · refine g_ifeq_f rfl h5 ?_
      refine g_aload rfl rfl ?_
      refine g_getR rfl tv0 (fR_6_0 tv0) ?_
      refine g_iload rfl rfl ?_
      obtain ⟨i1, h8, E⟩ := ob E
      refine g_aald rfl (eK_a _ tv0.1 tv0.2).1.1 (eK_a _ tv0.1 tv0.2).1.2 (by decide) h8 (rA_a tv0 h8) ?_
      refine g_getI rfl (eT_a tv0 h8) ?_
      refine g_istore (L2 := [(3, .inl (S2 (v0 + 12 + 13 * i1) 0)), (0, .inr (some (some v0))), (4, .inl v4)]) rfl rfl ?_
      refine g_aload rfl rfl ?_
      refine g_getR rfl tv0 (fR_6_3 tv0) ?_
      refine g_iload rfl rfl ?_
      refine g_push rfl ?_
      obtain ⟨x4, S4, h9, E⟩ := ob2 E
      refine g_inv2 (dc := 0) rfl (by omega) (fT_6_3 tv0) (Nat.le_of_ble_eq_true rfl) (fun d hd => tp_add hd (v0 + 9) (S2 (v0 + 12 + 13 * i1) 0) 9 S2 (fT_6_3 tv0) _ _ h9) ?_
      refine g_pop rfl ?_
      refine g_iinc (L2 := [(4, .inl (v4 + 1)), (3, .inl (S2 (v0 + 12 + 13 * i1) 0)), (0, .inr (some (some v0)))]) rfl rfl rfl ?_
      refine g_goto rfl ?_
      exact g_loc (lsub_cons rfl (lsub_cons rfl (lsub_cons rfl lsub_nil))) (hk28 v0 (S2 (v0 + 12 + 13 * i1) 0) (v4 + 1) S4 tv0 _ E)
def fw_fail_28  : Nat → Nat → Int32 → Int32 → Mem → Option Mem
  | 0 => fun _ _ _ _ => none
  | n + 1 => fw_fail_28b  (fw_fail_28  n)
set_option maxRecDepth 20000 in
set_option maxHeartbeats 4000000 in
theorem tw_fail_28 {scr : Nat × (Nat → Int32)} {d : Nat} (hd : 4 ≤ d)  : ∀ (n : Nat) (v0 : Nat) (v3 : Int32) (v4 : Int32) (S0 : Mem), Ty 6 v0 → ∀ (SR : Mem), fw_fail_28  n v0 v3 v4 S0 = some SR → XG scr d 46 28 [(0, .inr (some (some v0))), (3, .inl v3), (4, .inl v4)] [] S0 none SR
  | 0, v0, v3, v4, S0, tv0, SR, E => nn E
  | n + 1, v0, v3, v4, S0, tv0, SR, E => tw_fail_28b hd  (tw_fail_28 hd  n) v0 v3 v4 S0 tv0 SR E
def fw_fail (v0 : Nat) (v1 : Int32) (v2 : Int32) (S0 : Mem) : Option Mem := (some (up2 S0 v0 11 1)).bind fun S1 => (some (up2 S1 (v0 + 9) 2 0)).bind fun S2 => bd (fp_add (v0 + 9) v1 v2 S2) fun x1 S3 => fw_fail_28 LF v0 v1 0 S3
set_option maxRecDepth 20000 in
set_option maxHeartbeats 4000000 in
theorem tw_fail {scr : Nat × (Nat → Int32)} {d : Nat} (hd : 4 ≤ d) (v0 : Nat) (v1 : Int32) (v2 : Int32) (S0 : Mem) (tv0 : Ty 6 v0) (SR : Mem) (E : fw_fail  v0 v1 v2 S0 = some SR) : XG scr d 46 0 [(0, .inr (some (some v0))), (1, .inl v1), (2, .inl v2)] [] S0 none SR := by
  unfold fw_fail at E
  refine g_aload rfl rfl ?_
  refine g_push rfl ?_
  obtain ⟨S1, hS1, E⟩ := ob E
  refine g_putZ rfl tv0 b01 hS1 ?_
  refine g_aload rfl rfl ?_
  refine g_getR rfl tv0 (fR_6_3 tv0) ?_
  refine g_push rfl ?_
  obtain ⟨S2, hS2, E⟩ := ob E
  refine g_putI rfl (fT_6_3 tv0) hS2 ?_
  refine g_aload rfl rfl ?_
  refine g_getR rfl tv0 (fR_6_3 tv0) ?_
  refine g_iload rfl rfl ?_
  refine g_iload rfl rfl ?_
  obtain ⟨x1, S3, h1, E⟩ := ob2 E
  refine g_inv2 (dc := 0) rfl (by omega) (fT_6_3 tv0) (Nat.le_of_ble_eq_true rfl) (fun d hd => tp_add hd (v0 + 9) v1 v2 S2 (fT_6_3 tv0) _ _ h1) ?_
  refine g_pop rfl ?_
  refine g_iload rfl rfl ?_
  refine g_istore (L2 := [(3, .inl v1), (0, .inr (some (some v0))), (1, .inl v1), (2, .inl v2)]) rfl rfl ?_
  refine g_push rfl ?_
  refine g_istore (L2 := [(4, .inl 0), (3, .inl v1), (0, .inr (some (some v0))), (1, .inl v1), (2, .inl v2)]) rfl rfl ?_
  exact g_loc (lsub_cons rfl (lsub_cons rfl (lsub_cons rfl lsub_nil))) (tw_fail_28 hd LF v0 v1 0 S3 tv0 _ E)
def fw_fireTimer (v0 : Nat) (S0 : Mem) : Option (Int32 × Mem) := if (S0 (v0 + 2) 3) = 0 then (some (0, S0)) else ((fc_ownerAt (v0 + 2) 0 S0).bind fun x1 => (fc_numberAt (v0 + 2) 0 S0).bind fun x2 => (fc_dueAt (v0 + 2) 0 S0).bind fun x3 => (some (up2 S0 v0 6 x3)).bind fun S1 => (fc_removeFirst (v0 + 2) S1).bind fun S2 => bd (fw_send v0 x1 ((-1)) x2 S2) fun x4 S3 => some (1, S3))
set_option maxRecDepth 20000 in
set_option maxHeartbeats 4000000 in
theorem tw_fireTimer {scr : Nat × (Nat → Int32)} {d : Nat} (hd : 2 ≤ d) (v0 : Nat) (S0 : Mem) (tv0 : Ty 6 v0) (rv : Int32) (SR : Mem) (E : fw_fireTimer  v0 S0 = some (rv, SR)) : XG scr d 47 0 [(0, .inr (some (some v0)))] [] S0 (some (.inl rv)) SR := by
  unfold fw_fireTimer at E
  refine g_aload rfl rfl ?_
  refine g_getR rfl tv0 (fR_6_1 tv0) ?_
  refine g_getI rfl (fT_6_1 tv0) ?_
  rcases xif E with ⟨h1, E⟩ | ⟨h1, E⟩
  · refine g_ifne_t rfl h1 ?_
    refine g_push rfl ?_
    obtain ⟨rfl, rfl⟩ := so2 E
    exact g_zret rfl b00
  · refine g_ifne_f rfl h1 ?_
    refine g_aload rfl rfl ?_
    refine g_getR rfl tv0 (fR_6_1 tv0) ?_
    refine g_push rfl ?_
    obtain ⟨x1, h2, E⟩ := ob E
    refine g_inv1 (dc := 0) rfl (by omega) (fT_6_1 tv0) (Nat.le_of_ble_eq_true rfl) (fun d hd => tc_ownerAt hd (v0 + 2) 0 S0 (fT_6_1 tv0) _ h2) ?_
    refine g_istore (L2 := [(1, .inl x1), (0, .inr (some (some v0)))]) rfl rfl ?_
    refine g_aload rfl rfl ?_
    refine g_getR rfl tv0 (fR_6_1 tv0) ?_
    refine g_push rfl ?_
    obtain ⟨x2, h3, E⟩ := ob E
    refine g_inv1 (dc := 0) rfl (by omega) (fT_6_1 tv0) (Nat.le_of_ble_eq_true rfl) (fun d hd => tc_numberAt hd (v0 + 2) 0 S0 (fT_6_1 tv0) _ h3) ?_
    refine g_istore (L2 := [(2, .inl x2), (1, .inl x1), (0, .inr (some (some v0)))]) rfl rfl ?_
    refine g_aload rfl rfl ?_
    refine g_aload rfl rfl ?_
    refine g_getR rfl tv0 (fR_6_1 tv0) ?_
    refine g_push rfl ?_
    obtain ⟨x3, h4, E⟩ := ob E
    refine g_inv1 (dc := 0) rfl (by omega) (fT_6_1 tv0) (Nat.le_of_ble_eq_true rfl) (fun d hd => tc_dueAt hd (v0 + 2) 0 S0 (fT_6_1 tv0) _ h4) ?_
    obtain ⟨S1, hS1, E⟩ := ob E
    refine g_putI rfl tv0 hS1 ?_
    refine g_aload rfl rfl ?_
    refine g_getR rfl tv0 (fR_6_1 tv0) ?_
    obtain ⟨S2, h5, E⟩ := ob E
    refine g_inv0 (dc := 1) rfl (by omega) (fT_6_1 tv0) (Nat.le_of_ble_eq_true rfl) (fun d hd => tc_removeFirst hd (v0 + 2) S1 (fT_6_1 tv0) _ h5) ?_
    refine g_aload rfl rfl ?_
    refine g_iload rfl rfl ?_
    refine g_push rfl ?_
    refine g_iload rfl rfl ?_
    obtain ⟨x4, S3, h6, E⟩ := ob2 E
    refine g_inv3 (dc := 1) rfl (by omega) tv0 (Nat.le_of_ble_eq_true rfl) (fun d hd => tw_send hd v0 x1 ((-1)) x2 S2 tv0 _ _ h6) ?_
    refine g_pop rfl ?_
    refine g_push rfl ?_
    obtain ⟨rfl, rfl⟩ := so2 E
    exact g_zret rfl b01
def fw_nextDealer_2b (k2 : Nat → Int32 → Mem → Option Int32) (v0 : Nat) (v1 : Int32) (S0 : Mem) : Option Int32 := if 12 < v1 then (some ((-1))) else ((fw_isLive v0 (irm ((S0 v0 5) + v1) 12) S0).bind fun x1 => if x1 = 0 then (k2 v0 (v1 + 1) S0) else ((ix (irm ((S0 v0 5) + v1) 12) 12).bind fun i1 => if (S0 (v0 + 12 + 13 * i1 + 3) 2) ≤ 0 then (k2 v0 (v1 + 1) S0) else (some (irm ((S0 v0 5) + v1) 12))))
set_option maxRecDepth 20000 in
set_option maxHeartbeats 4000000 in
theorem tw_nextDealer_2b {scr : Nat × (Nat → Int32)} {d : Nat} (hd : 1 ≤ d) {k2 : Nat → Int32 → Mem → Option Int32} (hk2 : ∀ (v0 : Nat) (v1 : Int32) (S0 : Mem), Ty 6 v0 → ∀ (rv : Int32), k2 v0 v1 S0 = some rv → XG scr d 61 2 [(0, .inr (some (some v0))), (1, .inl v1)] [] S0 (some (.inl rv)) S0) (v0 : Nat) (v1 : Int32) (S0 : Mem) (tv0 : Ty 6 v0) (rv : Int32) (E : fw_nextDealer_2b k2 v0 v1 S0 = some rv) : XG scr d 61 2 [(0, .inr (some (some v0))), (1, .inl v1)] [] S0 (some (.inl rv)) S0 := by
  unfold fw_nextDealer_2b at E
  refine g_iload rfl rfl ?_
  refine g_push rfl ?_
  rcases xif E with ⟨h1, E⟩ | ⟨h1, E⟩
  · refine g_icgt_t rfl h1 ?_
    refine g_push rfl ?_
    obtain rfl := so1 E
    exact g_iret rfl
  · refine g_icgt_f rfl h1 ?_
    refine g_aload rfl rfl ?_
    refine g_getI rfl tv0 ?_
    refine g_iload rfl rfl ?_
    refine g_iadd rfl ?_
    refine g_push rfl ?_
    refine g_irem rfl (by decide) ?_
    refine g_istore (L2 := [(2, .inl (irm ((S0 v0 5) + v1) 12)), (0, .inr (some (some v0))), (1, .inl v1)]) rfl rfl ?_
    refine g_aload rfl rfl ?_
    refine g_iload rfl rfl ?_
    obtain ⟨x1, h2, E⟩ := ob E
    refine g_inv1 (dc := 0) rfl (by omega) tv0 (Nat.le_of_ble_eq_true rfl) (fun d hd => tw_isLive hd v0 (irm ((S0 v0 5) + v1) 12) S0 tv0 _ h2) ?_
    rcases xif E with ⟨h3, E⟩ | ⟨h3, E⟩
    · refine g_ifeq_t rfl h3 ?_
      refine g_iinc (L2 := [(1, .inl (v1 + 1)), (2, .inl (irm ((S0 v0 5) + v1) 12)), (0, .inr (some (some v0)))]) rfl rfl rfl ?_
      refine g_goto rfl ?_
      exact g_loc (lsub_cons rfl (lsub_cons rfl lsub_nil)) (hk2 v0 (v1 + 1) S0 tv0 _ E)
    · refine g_ifeq_f rfl h3 ?_
      refine g_aload rfl rfl ?_
      refine g_getR rfl tv0 (fR_6_0 tv0) ?_
      refine g_iload rfl rfl ?_
      obtain ⟨i1, h4, E⟩ := ob E
      refine g_aald rfl (eK_a _ tv0.1 tv0.2).1.1 (eK_a _ tv0.1 tv0.2).1.2 (by decide) h4 (rA_a tv0 h4) ?_
      refine g_getR rfl (eT_a tv0 h4) (fR_0_8 (eT_a tv0 h4)) ?_
      refine g_getI rfl (fT_0_8 (eT_a tv0 h4)) ?_
      rcases xif E with ⟨h5, E⟩ | ⟨h5, E⟩
      · refine g_ifle_t rfl h5 ?_
        refine g_iinc (L2 := [(1, .inl (v1 + 1)), (2, .inl (irm ((S0 v0 5) + v1) 12)), (0, .inr (some (some v0)))]) rfl rfl rfl ?_
        refine g_goto rfl ?_
        exact g_loc (lsub_cons rfl (lsub_cons rfl lsub_nil)) (hk2 v0 (v1 + 1) S0 tv0 _ E)
      · refine g_ifle_f rfl h5 ?_
        refine g_iload rfl rfl ?_
        obtain rfl := so1 E
        exact g_iret rfl
def fw_nextDealer_2  : Nat → Nat → Int32 → Mem → Option Int32
  | 0 => fun _ _ _ => none
  | n + 1 => fw_nextDealer_2b  (fw_nextDealer_2  n)
set_option maxRecDepth 20000 in
set_option maxHeartbeats 4000000 in
theorem tw_nextDealer_2 {scr : Nat × (Nat → Int32)} {d : Nat} (hd : 1 ≤ d)  : ∀ (n : Nat) (v0 : Nat) (v1 : Int32) (S0 : Mem), Ty 6 v0 → ∀ (rv : Int32), fw_nextDealer_2  n v0 v1 S0 = some rv → XG scr d 61 2 [(0, .inr (some (some v0))), (1, .inl v1)] [] S0 (some (.inl rv)) S0
  | 0, v0, v1, S0, tv0, rv, E => nn E
  | n + 1, v0, v1, S0, tv0, rv, E => tw_nextDealer_2b hd  (tw_nextDealer_2 hd  n) v0 v1 S0 tv0 rv E
def fw_nextDealer (v0 : Nat) (S0 : Mem) : Option Int32 := fw_nextDealer_2 LF v0 1 S0
set_option maxRecDepth 20000 in
set_option maxHeartbeats 4000000 in
theorem tw_nextDealer {scr : Nat × (Nat → Int32)} {d : Nat} (hd : 1 ≤ d) (v0 : Nat) (S0 : Mem) (tv0 : Ty 6 v0) (rv : Int32) (E : fw_nextDealer  v0 S0 = some rv) : XG scr d 61 0 [(0, .inr (some (some v0)))] [] S0 (some (.inl rv)) S0 := by
  unfold fw_nextDealer at E
  refine g_push rfl ?_
  refine g_istore (L2 := [(1, .inl 1), (0, .inr (some (some v0)))]) rfl rfl ?_
  exact g_loc (lsub_cons rfl (lsub_cons rfl lsub_nil)) (tw_nextDealer_2 hd LF v0 1 S0 tv0 _ E)
def fw_hasStep (v0 : Nat) (S0 : Mem) : Option Int32 := if 0 < (S0 (v0 + 2) 3) then (some 1) else ((fw_nextDealer v0 S0).bind fun x1 => if x1 = ((-1)) then (some 0) else (some 1))
set_option maxRecDepth 20000 in
set_option maxHeartbeats 4000000 in
theorem tw_hasStep {scr : Nat × (Nat → Int32)} {d : Nat} (hd : 2 ≤ d) (v0 : Nat) (S0 : Mem) (tv0 : Ty 6 v0) (rv : Int32) (E : fw_hasStep  v0 S0 = some rv) : XG scr d 50 0 [(0, .inr (some (some v0)))] [] S0 (some (.inl rv)) S0 := by
  unfold fw_hasStep at E
  refine g_aload rfl rfl ?_
  refine g_getR rfl tv0 (fR_6_1 tv0) ?_
  refine g_getI rfl (fT_6_1 tv0) ?_
  rcases xif E with ⟨h1, E⟩ | ⟨h1, E⟩
  · refine g_ifgt_t rfl h1 ?_
    refine g_push rfl ?_
    refine g_goto rfl ?_
    obtain rfl := so1 E
    exact g_zret rfl b01
  · refine g_ifgt_f rfl h1 ?_
    refine g_aload rfl rfl ?_
    obtain ⟨x1, h2, E⟩ := ob E
    refine g_inv0 (dc := 1) rfl (by omega) tv0 (Nat.le_of_ble_eq_true rfl) (fun d hd => tw_nextDealer hd v0 S0 tv0 _ h2) ?_
    refine g_push rfl ?_
    rcases xif E with ⟨h3, E⟩ | ⟨h3, E⟩
    · refine g_iceq_t rfl h3 ?_
      refine g_push rfl ?_
      obtain rfl := so1 E
      exact g_zret rfl b00
    · refine g_iceq_f rfl h3 ?_
      refine g_push rfl ?_
      refine g_goto rfl ?_
      obtain rfl := so1 E
      exact g_zret rfl b01
def fw_howItStands (v0 : Nat) (S0 : Mem) : Option Int32 := if (S0 v0 4) ≤ 0 then ((fw_hasStep v0 S0).bind fun x1 => if x1 = 0 then (some 1) else (some 0)) else ((fw_isLive v0 0 S0).bind fun x2 => if x2 = 0 then (some 2) else ((fw_hasStep v0 S0).bind fun x3 => if x3 = 0 then (some 1) else (some 0)))
set_option maxRecDepth 20000 in
set_option maxHeartbeats 4000000 in
theorem tw_howItStands {scr : Nat × (Nat → Int32)} {d : Nat} (hd : 3 ≤ d) (v0 : Nat) (S0 : Mem) (tv0 : Ty 6 v0) (rv : Int32) (E : fw_howItStands  v0 S0 = some rv) : XG scr d 51 0 [(0, .inr (some (some v0)))] [] S0 (some (.inl rv)) S0 := by
  unfold fw_howItStands at E
  refine g_aload rfl rfl ?_
  refine g_getI rfl tv0 ?_
  rcases xif E with ⟨h1, E⟩ | ⟨h1, E⟩
  · refine g_ifle_t rfl h1 ?_
    refine g_aload rfl rfl ?_
    obtain ⟨x1, h2, E⟩ := ob E
    refine g_inv0 (dc := 2) rfl (by omega) tv0 (Nat.le_of_ble_eq_true rfl) (fun d hd => tw_hasStep hd v0 S0 tv0 _ h2) ?_
    rcases xif E with ⟨h3, E⟩ | ⟨h3, E⟩
    · refine g_ifeq_t rfl h3 ?_
      refine g_push rfl ?_
      obtain rfl := so1 E
      exact g_iret rfl
    · refine g_ifeq_f rfl h3 ?_
      refine g_push rfl ?_
      refine g_goto rfl ?_
      obtain rfl := so1 E
      exact g_iret rfl
  · refine g_ifle_f rfl h1 ?_
    refine g_aload rfl rfl ?_
    refine g_push rfl ?_
    obtain ⟨x2, h4, E⟩ := ob E
    refine g_inv1 (dc := 0) rfl (by omega) tv0 (Nat.le_of_ble_eq_true rfl) (fun d hd => tw_isLive hd v0 0 S0 tv0 _ h4) ?_
    rcases xif E with ⟨h5, E⟩ | ⟨h5, E⟩
    · refine g_ifne_t rfl h5 ?_
      refine g_push rfl ?_
      obtain rfl := so1 E
      exact g_iret rfl
    · refine g_ifne_f rfl h5 ?_
      refine g_aload rfl rfl ?_
      obtain ⟨x3, h6, E⟩ := ob E
      refine g_inv0 (dc := 2) rfl (by omega) tv0 (Nat.le_of_ble_eq_true rfl) (fun d hd => tw_hasStep hd v0 S0 tv0 _ h6) ?_
      rcases xif E with ⟨h7, E⟩ | ⟨h7, E⟩
      · refine g_ifeq_t rfl h7 ?_
        refine g_push rfl ?_
        obtain rfl := so1 E
        exact g_iret rfl
      · refine g_ifeq_f rfl h7 ?_
        refine g_push rfl ?_
        refine g_goto rfl ?_
        obtain rfl := so1 E
        exact g_iret rfl
def fw_liveBits_4b (k4 : Nat → Int32 → Int32 → Mem → Option Int32) (v0 : Nat) (v1 : Int32) (v2 : Int32) (S0 : Mem) : Option Int32 := if (S0 v0 4) ≤ v2 then (some v1) else (if 12 ≤ v2 then (some v1) else ((ix v2 12).bind fun i1 => if (S0 (v0 + 12 + 13 * i1) 6) = 0 then (k4 v0 (v1 ||| 0) (v2 + 1) S0) else (k4 v0 (v1 ||| (1 <<< (v2 &&& 31))) (v2 + 1) S0)))
set_option maxRecDepth 20000 in
set_option maxHeartbeats 4000000 in
theorem tw_liveBits_4b {scr : Nat × (Nat → Int32)} {d : Nat} (hd : 0 ≤ d) {k4 : Nat → Int32 → Int32 → Mem → Option Int32} (hk4 : ∀ (v0 : Nat) (v1 : Int32) (v2 : Int32) (S0 : Mem), Ty 6 v0 → ∀ (rv : Int32), k4 v0 v1 v2 S0 = some rv → XG scr d 58 4 [(0, .inr (some (some v0))), (1, .inl v1), (2, .inl v2)] [] S0 (some (.inl rv)) S0) (v0 : Nat) (v1 : Int32) (v2 : Int32) (S0 : Mem) (tv0 : Ty 6 v0) (rv : Int32) (E : fw_liveBits_4b k4 v0 v1 v2 S0 = some rv) : XG scr d 58 4 [(0, .inr (some (some v0))), (1, .inl v1), (2, .inl v2)] [] S0 (some (.inl rv)) S0 := by
  unfold fw_liveBits_4b at E
  refine g_iload rfl rfl ?_
  refine g_aload rfl rfl ?_
  refine g_getI rfl tv0 ?_
  rcases xif E with ⟨h1, E⟩ | ⟨h1, E⟩
  · refine g_icge_t rfl h1 ?_
    refine g_iload rfl rfl ?_
    obtain rfl := so1 E
    exact g_iret rfl
  · refine g_icge_f rfl h1 ?_
    refine g_iload rfl rfl ?_
    refine g_push rfl ?_
    rcases xif E with ⟨h2, E⟩ | ⟨h2, E⟩
    · refine g_icge_t rfl h2 ?_
      refine g_iload rfl rfl ?_
      obtain rfl := so1 E
      exact g_iret rfl
    · refine g_icge_f rfl h2 ?_
      refine g_iload rfl rfl ?_
      refine g_aload rfl rfl ?_
      refine g_getR rfl tv0 (fR_6_0 tv0) ?_
      refine g_iload rfl rfl ?_
      obtain ⟨i1, h3, E⟩ := ob E
      refine g_aald rfl (eK_a _ tv0.1 tv0.2).1.1 (eK_a _ tv0.1 tv0.2).1.2 (by decide) h3 (rA_a tv0 h3) ?_
      refine g_getI rfl (eT_a tv0 h3) ?_
      rcases xif E with ⟨h4, E⟩ | ⟨h4, E⟩
      · refine g_ifeq_t rfl h4 ?_
        refine g_push rfl ?_
        refine g_ior rfl ?_
        refine g_istore (L2 := [(1, .inl (v1 ||| 0)), (0, .inr (some (some v0))), (2, .inl v2)]) rfl rfl ?_
        refine g_iinc (L2 := [(2, .inl (v2 + 1)), (1, .inl (v1 ||| 0)), (0, .inr (some (some v0)))]) rfl rfl rfl ?_
        refine g_goto rfl ?_
        exact g_loc (lsub_cons rfl (lsub_cons rfl (lsub_cons rfl lsub_nil))) (hk4 v0 (v1 ||| 0) (v2 + 1) S0 tv0 _ E)
      · refine g_ifeq_f rfl h4 ?_
        refine g_push rfl ?_
        refine g_iload rfl rfl ?_
        refine g_ishl rfl ?_
        refine g_goto rfl ?_
        refine g_ior rfl ?_
        refine g_istore (L2 := [(1, .inl (v1 ||| (1 <<< (v2 &&& 31)))), (0, .inr (some (some v0))), (2, .inl v2)]) rfl rfl ?_
        refine g_iinc (L2 := [(2, .inl (v2 + 1)), (1, .inl (v1 ||| (1 <<< (v2 &&& 31)))), (0, .inr (some (some v0)))]) rfl rfl rfl ?_
        refine g_goto rfl ?_
        exact g_loc (lsub_cons rfl (lsub_cons rfl (lsub_cons rfl lsub_nil))) (hk4 v0 (v1 ||| (1 <<< (v2 &&& 31))) (v2 + 1) S0 tv0 _ E)
def fw_liveBits_4  : Nat → Nat → Int32 → Int32 → Mem → Option Int32
  | 0 => fun _ _ _ _ => none
  | n + 1 => fw_liveBits_4b  (fw_liveBits_4  n)
set_option maxRecDepth 20000 in
set_option maxHeartbeats 4000000 in
theorem tw_liveBits_4 {scr : Nat × (Nat → Int32)} {d : Nat} (hd : 0 ≤ d)  : ∀ (n : Nat) (v0 : Nat) (v1 : Int32) (v2 : Int32) (S0 : Mem), Ty 6 v0 → ∀ (rv : Int32), fw_liveBits_4  n v0 v1 v2 S0 = some rv → XG scr d 58 4 [(0, .inr (some (some v0))), (1, .inl v1), (2, .inl v2)] [] S0 (some (.inl rv)) S0
  | 0, v0, v1, v2, S0, tv0, rv, E => nn E
  | n + 1, v0, v1, v2, S0, tv0, rv, E => tw_liveBits_4b hd  (tw_liveBits_4 hd  n) v0 v1 v2 S0 tv0 rv E
def fw_liveBits (v0 : Nat) (S0 : Mem) : Option Int32 := fw_liveBits_4 LF v0 0 0 S0
set_option maxRecDepth 20000 in
set_option maxHeartbeats 4000000 in
theorem tw_liveBits {scr : Nat × (Nat → Int32)} {d : Nat} (hd : 0 ≤ d) (v0 : Nat) (S0 : Mem) (tv0 : Ty 6 v0) (rv : Int32) (E : fw_liveBits  v0 S0 = some rv) : XG scr d 58 0 [(0, .inr (some (some v0)))] [] S0 (some (.inl rv)) S0 := by
  unfold fw_liveBits at E
  refine g_push rfl ?_
  refine g_istore (L2 := [(1, .inl 0), (0, .inr (some (some v0)))]) rfl rfl ?_
  refine g_push rfl ?_
  refine g_istore (L2 := [(2, .inl 0), (1, .inl 0), (0, .inr (some (some v0)))]) rfl rfl ?_
  exact g_loc (lsub_cons rfl (lsub_cons rfl (lsub_cons rfl lsub_nil))) (tw_liveBits_4 hd LF v0 0 0 S0 tv0 _ E)
def fw_mailed_4b (k4 : Nat → Int32 → Int32 → Mem → Option Int32) (v0 : Nat) (v1 : Int32) (v2 : Int32) (S0 : Mem) : Option Int32 := if (S0 v0 4) ≤ v2 then (some v1) else (if 12 ≤ v2 then (some v1) else ((ix v2 12).bind fun i1 => k4 v0 (v1 + (S0 (v0 + 12 + 13 * i1 + 3) 2)) (v2 + 1) S0))
set_option maxRecDepth 20000 in
set_option maxHeartbeats 4000000 in
theorem tw_mailed_4b {scr : Nat × (Nat → Int32)} {d : Nat} (hd : 0 ≤ d) {k4 : Nat → Int32 → Int32 → Mem → Option Int32} (hk4 : ∀ (v0 : Nat) (v1 : Int32) (v2 : Int32) (S0 : Mem), Ty 6 v0 → ∀ (rv : Int32), k4 v0 v1 v2 S0 = some rv → XG scr d 59 4 [(0, .inr (some (some v0))), (1, .inl v1), (2, .inl v2)] [] S0 (some (.inl rv)) S0) (v0 : Nat) (v1 : Int32) (v2 : Int32) (S0 : Mem) (tv0 : Ty 6 v0) (rv : Int32) (E : fw_mailed_4b k4 v0 v1 v2 S0 = some rv) : XG scr d 59 4 [(0, .inr (some (some v0))), (1, .inl v1), (2, .inl v2)] [] S0 (some (.inl rv)) S0 := by
  unfold fw_mailed_4b at E
  refine g_iload rfl rfl ?_
  refine g_aload rfl rfl ?_
  refine g_getI rfl tv0 ?_
  rcases xif E with ⟨h1, E⟩ | ⟨h1, E⟩
  · refine g_icge_t rfl h1 ?_
    refine g_iload rfl rfl ?_
    obtain rfl := so1 E
    exact g_iret rfl
  · refine g_icge_f rfl h1 ?_
    refine g_iload rfl rfl ?_
    refine g_push rfl ?_
    rcases xif E with ⟨h2, E⟩ | ⟨h2, E⟩
    · refine g_icge_t rfl h2 ?_
      refine g_iload rfl rfl ?_
      obtain rfl := so1 E
      exact g_iret rfl
    · refine g_icge_f rfl h2 ?_
      refine g_iload rfl rfl ?_
      refine g_aload rfl rfl ?_
      refine g_getR rfl tv0 (fR_6_0 tv0) ?_
      refine g_iload rfl rfl ?_
      obtain ⟨i1, h3, E⟩ := ob E
      refine g_aald rfl (eK_a _ tv0.1 tv0.2).1.1 (eK_a _ tv0.1 tv0.2).1.2 (by decide) h3 (rA_a tv0 h3) ?_
      refine g_getR rfl (eT_a tv0 h3) (fR_0_8 (eT_a tv0 h3)) ?_
      refine g_getI rfl (fT_0_8 (eT_a tv0 h3)) ?_
      refine g_iadd rfl ?_
      refine g_istore (L2 := [(1, .inl (v1 + (S0 (v0 + 12 + 13 * i1 + 3) 2))), (0, .inr (some (some v0))), (2, .inl v2)]) rfl rfl ?_
      refine g_iinc (L2 := [(2, .inl (v2 + 1)), (1, .inl (v1 + (S0 (v0 + 12 + 13 * i1 + 3) 2))), (0, .inr (some (some v0)))]) rfl rfl rfl ?_
      refine g_goto rfl ?_
      exact g_loc (lsub_cons rfl (lsub_cons rfl (lsub_cons rfl lsub_nil))) (hk4 v0 (v1 + (S0 (v0 + 12 + 13 * i1 + 3) 2)) (v2 + 1) S0 tv0 _ E)
def fw_mailed_4  : Nat → Nat → Int32 → Int32 → Mem → Option Int32
  | 0 => fun _ _ _ _ => none
  | n + 1 => fw_mailed_4b  (fw_mailed_4  n)
set_option maxRecDepth 20000 in
set_option maxHeartbeats 4000000 in
theorem tw_mailed_4 {scr : Nat × (Nat → Int32)} {d : Nat} (hd : 0 ≤ d)  : ∀ (n : Nat) (v0 : Nat) (v1 : Int32) (v2 : Int32) (S0 : Mem), Ty 6 v0 → ∀ (rv : Int32), fw_mailed_4  n v0 v1 v2 S0 = some rv → XG scr d 59 4 [(0, .inr (some (some v0))), (1, .inl v1), (2, .inl v2)] [] S0 (some (.inl rv)) S0
  | 0, v0, v1, v2, S0, tv0, rv, E => nn E
  | n + 1, v0, v1, v2, S0, tv0, rv, E => tw_mailed_4b hd  (tw_mailed_4 hd  n) v0 v1 v2 S0 tv0 rv E
def fw_mailed (v0 : Nat) (S0 : Mem) : Option Int32 := fw_mailed_4 LF v0 0 0 S0
set_option maxRecDepth 20000 in
set_option maxHeartbeats 4000000 in
theorem tw_mailed {scr : Nat × (Nat → Int32)} {d : Nat} (hd : 0 ≤ d) (v0 : Nat) (S0 : Mem) (tv0 : Ty 6 v0) (rv : Int32) (E : fw_mailed  v0 S0 = some rv) : XG scr d 59 0 [(0, .inr (some (some v0)))] [] S0 (some (.inl rv)) S0 := by
  unfold fw_mailed at E
  refine g_push rfl ?_
  refine g_istore (L2 := [(1, .inl 0), (0, .inr (some (some v0)))]) rfl rfl ?_
  refine g_push rfl ?_
  refine g_istore (L2 := [(2, .inl 0), (1, .inl 0), (0, .inr (some (some v0)))]) rfl rfl ?_
  exact g_loc (lsub_cons rfl (lsub_cons rfl (lsub_cons rfl lsub_nil))) (tw_mailed_4 hd LF v0 0 0 S0 tv0 _ E)
def fw_step (v0 : Nat) (S0 : Mem) : Option (Int32 × Mem) := (fw_nextDealer v0 S0).bind fun x1 => (fw_isActor v0 x1 S0).bind fun x2 => if x2 = 0 then (bd (fw_fireTimer v0 S0) fun x3 S1 => (bol x3).bind fun z1 => some (z1, S1)) else ((ix x1 12).bind fun i1 => (fp_firstAt (v0 + 12 + 13 * i1 + 3) 0 S0).bind fun x4 => (fp_secondAt (v0 + 12 + 13 * i1 + 3) 0 S0).bind fun x5 => (fp_removeFirst (v0 + 12 + 13 * i1 + 3) S0).bind fun S2 => (some (up2 S2 v0 5 x1)).bind fun S3 => (some (up2 S3 v0 7 ((S3 v0 7) + 1))).bind fun S4 => (fp_addDroppingOldest (v0 + 6) x1 x5 S4).bind fun S5 => bd (fw_deal v0 x1 x4 x5 S5) fun x6 S6 => if x6 = 0 then (some (1, S6)) else ((fw_fail v0 x1 x6 S6).bind fun S7 => some (1, S7)))
set_option maxRecDepth 20000 in
set_option maxHeartbeats 4000000 in
theorem tw_step {scr : Nat × (Nat → Int32)} {d : Nat} (hd : 5 ≤ d) (v0 : Nat) (S0 : Mem) (tv0 : Ty 6 v0) (rv : Int32) (SR : Mem) (E : fw_step  v0 S0 = some (rv, SR)) : XG scr d 65 0 [(0, .inr (some (some v0)))] [] S0 (some (.inl rv)) SR := by
  unfold fw_step at E
  refine g_aload rfl rfl ?_
  obtain ⟨x1, h1, E⟩ := ob E
  refine g_inv0 (dc := 1) rfl (by omega) tv0 (Nat.le_of_ble_eq_true rfl) (fun d hd => tw_nextDealer hd v0 S0 tv0 _ h1) ?_
  refine g_istore (L2 := [(1, .inl x1), (0, .inr (some (some v0)))]) rfl rfl ?_
  refine g_aload rfl rfl ?_
  refine g_iload rfl rfl ?_
  obtain ⟨x2, h2, E⟩ := ob E
  refine g_inv1 (dc := 0) rfl (by omega) tv0 (Nat.le_of_ble_eq_true rfl) (fun d hd => tw_isActor hd v0 x1 S0 tv0 _ h2) ?_
  rcases xif E with ⟨h3, E⟩ | ⟨h3, E⟩
  · refine g_ifne_t rfl h3 ?_
    refine g_aload rfl rfl ?_
    obtain ⟨x3, S1, h4, E⟩ := ob2 E
    refine g_inv0 (dc := 2) rfl (by omega) tv0 (Nat.le_of_ble_eq_true rfl) (fun d hd => tw_fireTimer hd v0 S0 tv0 _ _ h4) ?_
    obtain ⟨z1, h5, E⟩ := ob E
    obtain ⟨rfl, rfl⟩ := so2 E
    have h52 := (bol_of h5).2
    rw [h52]
    exact g_zret rfl (bol_of h5).1
  · refine g_ifne_f rfl h3 ?_
    refine g_aload rfl rfl ?_
    refine g_getR rfl tv0 (fR_6_0 tv0) ?_
    refine g_iload rfl rfl ?_
    obtain ⟨i1, h6, E⟩ := ob E
    refine g_aald rfl (eK_a _ tv0.1 tv0.2).1.1 (eK_a _ tv0.1 tv0.2).1.2 (by decide) h6 (rA_a tv0 h6) ?_
    refine g_getR rfl (eT_a tv0 h6) (fR_0_8 (eT_a tv0 h6)) ?_
    refine g_astore (L2 := [(2, .inr (some (some (v0 + 12 + 13 * i1 + 3)))), (1, .inl x1), (0, .inr (some (some v0)))]) rfl rfl ?_
    refine g_aload rfl rfl ?_
    refine g_push rfl ?_
    obtain ⟨x4, h7, E⟩ := ob E
    refine g_inv1 (dc := 0) rfl (by omega) (fT_0_8 (eT_a tv0 h6)) (Nat.le_of_ble_eq_true rfl) (fun d hd => tp_firstAt hd (v0 + 12 + 13 * i1 + 3) 0 S0 (fT_0_8 (eT_a tv0 h6)) _ h7) ?_
    refine g_istore (L2 := [(3, .inl x4), (2, .inr (some (some (v0 + 12 + 13 * i1 + 3)))), (1, .inl x1), (0, .inr (some (some v0)))]) rfl rfl ?_
    refine g_aload rfl rfl ?_
    refine g_push rfl ?_
    obtain ⟨x5, h8, E⟩ := ob E
    refine g_inv1 (dc := 0) rfl (by omega) (fT_0_8 (eT_a tv0 h6)) (Nat.le_of_ble_eq_true rfl) (fun d hd => tp_secondAt hd (v0 + 12 + 13 * i1 + 3) 0 S0 (fT_0_8 (eT_a tv0 h6)) _ h8) ?_
    refine g_istore (L2 := [(4, .inl x5), (3, .inl x4), (2, .inr (some (some (v0 + 12 + 13 * i1 + 3)))), (1, .inl x1), (0, .inr (some (some v0)))]) rfl rfl ?_
    refine g_aload rfl rfl ?_
    obtain ⟨S2, h9, E⟩ := ob E
    refine g_inv0 (dc := 0) rfl (by omega) (fT_0_8 (eT_a tv0 h6)) (Nat.le_of_ble_eq_true rfl) (fun d hd => tp_removeFirst hd (v0 + 12 + 13 * i1 + 3) S0 (fT_0_8 (eT_a tv0 h6)) _ h9) ?_
    refine g_aload rfl rfl ?_
    refine g_iload rfl rfl ?_
    obtain ⟨S3, hS3, E⟩ := ob E
    refine g_putI rfl tv0 hS3 ?_
    refine g_aload rfl rfl ?_
    refine g_dup rfl ?_
    refine g_getI rfl tv0 ?_
    refine g_push rfl ?_
    refine g_iadd rfl ?_
    obtain ⟨S4, hS4, E⟩ := ob E
    refine g_putI rfl tv0 hS4 ?_
    refine g_aload rfl rfl ?_
    refine g_getR rfl tv0 (fR_6_2 tv0) ?_
    refine g_iload rfl rfl ?_
    refine g_iload rfl rfl ?_
    obtain ⟨S5, h10, E⟩ := ob E
    refine g_inv2 (dc := 1) rfl (by omega) (fT_6_2 tv0) (Nat.le_of_ble_eq_true rfl) (fun d hd => tp_addDroppingOldest hd (v0 + 6) x1 x5 S4 (fT_6_2 tv0) _ h10) ?_
    refine g_aload rfl rfl ?_
    refine g_iload rfl rfl ?_
    refine g_iload rfl rfl ?_
    refine g_iload rfl rfl ?_
    obtain ⟨x6, S6, h11, E⟩ := ob2 E
    refine g_inv3 (dc := 4) rfl (by omega) tv0 (Nat.le_of_ble_eq_true rfl) (fun d hd => tw_deal hd v0 x1 x4 x5 S5 tv0 _ _ h11) ?_
    refine g_istore (L2 := [(5, .inl x6), (4, .inl x5), (3, .inl x4), (2, .inr (some (some (v0 + 12 + 13 * i1 + 3)))), (1, .inl x1), (0, .inr (some (some v0)))]) rfl rfl ?_
    refine g_iload rfl rfl ?_
    rcases xif E with ⟨h12, E⟩ | ⟨h12, E⟩
    · refine g_ifeq_t rfl h12 ?_
      refine g_push rfl ?_
      obtain ⟨rfl, rfl⟩ := so2 E
      exact g_zret rfl b01
    · refine g_ifeq_f rfl h12 ?_
      refine g_aload rfl rfl ?_
      refine g_iload rfl rfl ?_
      refine g_iload rfl rfl ?_
      obtain ⟨S7, h13, E⟩ := ob E
      refine g_inv2 (dc := 4) rfl (by omega) tv0 (Nat.le_of_ble_eq_true rfl) (fun d hd => tw_fail hd v0 x1 x6 S6 tv0 _ h13) ?_
      refine g_push rfl ?_
      obtain ⟨rfl, rfl⟩ := so2 E
      exact g_zret rfl b01
def fw_makeSteps_10b (k10 : Nat → Int32 → Int32 → Mem → Option (Int32 × Mem)) (v0 : Nat) (v1 : Int32) (v2 : Int32) (S0 : Mem) : Option (Int32 × Mem) := if v1 ≤ v2 then (some (v2, S0)) else (if (S0 v0 10) = 0 then (bd (fw_step v0 S0) fun x1 S1 => (fw_howItStands v0 S1).bind fun x2 => (some (up2 S1 v0 10 x2)).bind fun S2 => k10 v0 v1 (v2 + 1) S2) else (some (v2, S0)))
set_option maxRecDepth 20000 in
set_option maxHeartbeats 4000000 in
theorem tw_makeSteps_10b {scr : Nat × (Nat → Int32)} {d : Nat} (hd : 6 ≤ d) {k10 : Nat → Int32 → Int32 → Mem → Option (Int32 × Mem)} (hk10 : ∀ (v0 : Nat) (v1 : Int32) (v2 : Int32) (S0 : Mem), Ty 6 v0 → ∀ (rv : Int32) (SR : Mem), k10 v0 v1 v2 S0 = some (rv, SR) → XG scr d 60 10 [(0, .inr (some (some v0))), (1, .inl v1), (2, .inl v2)] [] S0 (some (.inl rv)) SR) (v0 : Nat) (v1 : Int32) (v2 : Int32) (S0 : Mem) (tv0 : Ty 6 v0) (rv : Int32) (SR : Mem) (E : fw_makeSteps_10b k10 v0 v1 v2 S0 = some (rv, SR)) : XG scr d 60 10 [(0, .inr (some (some v0))), (1, .inl v1), (2, .inl v2)] [] S0 (some (.inl rv)) SR := by
  unfold fw_makeSteps_10b at E
  refine g_iload rfl rfl ?_
  refine g_iload rfl rfl ?_
  rcases xif E with ⟨h1, E⟩ | ⟨h1, E⟩
  · refine g_icge_t rfl h1 ?_
    refine g_iload rfl rfl ?_
    obtain ⟨rfl, rfl⟩ := so2 E
    exact g_iret rfl
  · refine g_icge_f rfl h1 ?_
    refine g_aload rfl rfl ?_
    refine g_getI rfl tv0 ?_
    rcases xif E with ⟨h2, E⟩ | ⟨h2, E⟩
    · refine g_ifne_t rfl h2 ?_
      refine g_aload rfl rfl ?_
      obtain ⟨x1, S1, h3, E⟩ := ob2 E
      refine g_inv0 (dc := 5) rfl (by omega) tv0 (Nat.le_of_ble_eq_true rfl) (fun d hd => tw_step hd v0 S0 tv0 _ _ h3) ?_
      refine g_pop rfl ?_
      refine g_iinc (L2 := [(2, .inl (v2 + 1)), (0, .inr (some (some v0))), (1, .inl v1)]) rfl rfl rfl ?_
      refine g_aload rfl rfl ?_
      refine g_aload rfl rfl ?_
      obtain ⟨x2, h4, E⟩ := ob E
      refine g_inv0 (dc := 3) rfl (by omega) tv0 (Nat.le_of_ble_eq_true rfl) (fun d hd => tw_howItStands hd v0 S1 tv0 _ h4) ?_
      obtain ⟨S2, hS2, E⟩ := ob E
      refine g_putI rfl tv0 hS2 ?_
      refine g_goto rfl ?_
      exact g_loc (lsub_cons rfl (lsub_cons rfl (lsub_cons rfl lsub_nil))) (hk10 v0 v1 (v2 + 1) S2 tv0 _ _ E)
    · refine g_ifne_f rfl h2 ?_
      refine g_iload rfl rfl ?_
      obtain ⟨rfl, rfl⟩ := so2 E
      exact g_iret rfl
def fw_makeSteps_10  : Nat → Nat → Int32 → Int32 → Mem → Option (Int32 × Mem)
  | 0 => fun _ _ _ _ => none
  | n + 1 => fw_makeSteps_10b  (fw_makeSteps_10  n)
set_option maxRecDepth 20000 in
set_option maxHeartbeats 4000000 in
theorem tw_makeSteps_10 {scr : Nat × (Nat → Int32)} {d : Nat} (hd : 6 ≤ d)  : ∀ (n : Nat) (v0 : Nat) (v1 : Int32) (v2 : Int32) (S0 : Mem), Ty 6 v0 → ∀ (rv : Int32) (SR : Mem), fw_makeSteps_10  n v0 v1 v2 S0 = some (rv, SR) → XG scr d 60 10 [(0, .inr (some (some v0))), (1, .inl v1), (2, .inl v2)] [] S0 (some (.inl rv)) SR
  | 0, v0, v1, v2, S0, tv0, rv, SR, E => nn E
  | n + 1, v0, v1, v2, S0, tv0, rv, SR, E => tw_makeSteps_10b hd  (tw_makeSteps_10 hd  n) v0 v1 v2 S0 tv0 rv SR E
def fw_makeSteps (v0 : Nat) (v1 : Int32) (S0 : Mem) : Option (Int32 × Mem) := (fw_howItStands v0 S0).bind fun x1 => (some (up2 S0 v0 10 x1)).bind fun S1 => fw_makeSteps_10 LF v0 v1 0 S1
set_option maxRecDepth 20000 in
set_option maxHeartbeats 4000000 in
theorem tw_makeSteps {scr : Nat × (Nat → Int32)} {d : Nat} (hd : 6 ≤ d) (v0 : Nat) (v1 : Int32) (S0 : Mem) (tv0 : Ty 6 v0) (rv : Int32) (SR : Mem) (E : fw_makeSteps  v0 v1 S0 = some (rv, SR)) : XG scr d 60 0 [(0, .inr (some (some v0))), (1, .inl v1)] [] S0 (some (.inl rv)) SR := by
  unfold fw_makeSteps at E
  refine g_push rfl ?_
  refine g_istore (L2 := [(2, .inl 0), (0, .inr (some (some v0))), (1, .inl v1)]) rfl rfl ?_
  refine g_aload rfl rfl ?_
  refine g_aload rfl rfl ?_
  obtain ⟨x1, h1, E⟩ := ob E
  refine g_inv0 (dc := 3) rfl (by omega) tv0 (Nat.le_of_ble_eq_true rfl) (fun d hd => tw_howItStands hd v0 S0 tv0 _ h1) ?_
  obtain ⟨S1, hS1, E⟩ := ob E
  refine g_putI rfl tv0 hS1 ?_
  exact g_loc (lsub_cons rfl (lsub_cons rfl (lsub_cons rfl lsub_nil))) (tw_makeSteps_10 hd LF v0 v1 0 S1 tv0 _ _ E)
def fx_actor (v1 : Int32) (v2 : Int32) (v3 : Int32) (S0 : Mem) : Option (Int32 × Mem) := if 0 ≤ v3 then (bd (fw_addActor 1 v1 v2 (v3 / 1000) (irm (v3 / 100) 10) (irm v3 100) S0) fun x1 S1 => some (x1, S1)) else (some ((-1), S0))
set_option maxRecDepth 20000 in
set_option maxHeartbeats 4000000 in
theorem tx_actor {scr : Nat × (Nat → Int32)} {d : Nat} (hd : 4 ≤ d) (v1 : Int32) (v2 : Int32) (v3 : Int32) (S0 : Mem)  (rv : Int32) (SR : Mem) (E : fx_actor  v1 v2 v3 S0 = some (rv, SR)) : XG scr d 68 0 [(0, .inr (some (some 0))), (1, .inl v1), (2, .inl v2), (3, .inl v3)] [] S0 (some (.inl rv)) SR := by
  unfold fx_actor at E
  refine g_iload rfl rfl ?_
  rcases xif E with ⟨h1, E⟩ | ⟨h1, E⟩
  · refine g_ifge_t rfl h1 ?_
    refine g_aload rfl rfl ?_
    refine g_getR rfl ty_x (fR_7_0 ty_x) ?_
    refine g_iload rfl rfl ?_
    refine g_iload rfl rfl ?_
    refine g_iload rfl rfl ?_
    refine g_push rfl ?_
    refine g_idiv rfl (by decide) ?_
    refine g_iload rfl rfl ?_
    refine g_push rfl ?_
    refine g_idiv rfl (by decide) ?_
    refine g_push rfl ?_
    refine g_irem rfl (by decide) ?_
    refine g_iload rfl rfl ?_
    refine g_push rfl ?_
    refine g_irem rfl (by decide) ?_
    obtain ⟨x1, S1, h2, E⟩ := ob2 E
    refine g_inv5 (dc := 3) rfl (by omega) fT_7_0 (Nat.le_of_ble_eq_true rfl) (fun d hd => tw_addActor hd 1 v1 v2 (v3 / 1000) (irm (v3 / 100) 10) (irm v3 100) S0 fT_7_0 _ _ h2) ?_
    obtain ⟨rfl, rfl⟩ := so2 E
    exact g_iret rfl
  · refine g_ifge_f rfl h1 ?_
    refine g_push rfl ?_
    obtain ⟨rfl, rfl⟩ := so2 E
    exact g_iret rfl
def fx_back_23b (k23 : Int32 → Mem → Option (Int32 × Mem)) (v1 : Int32) (S0 : Mem) : Option (Int32 × Mem) := if 6 ≤ v1 then (some (S0 1 4, S0)) else ((ix v1 6).bind fun i1 => if (S0 (679 + 3 * i1) 1) = 1 then ((ix v1 6).bind fun i2 => (fw_isActor 1 (S0 (679 + 3 * i2) 2) S0).bind fun x1 => if x1 = 0 then ((ix v1 6).bind fun i3 => (some (up2 S0 (679 + 3 * i3) 1 0)).bind fun S1 => k23 (v1 + 1) S1) else (k23 (v1 + 1) S0)) else (k23 (v1 + 1) S0))
set_option maxRecDepth 20000 in
set_option maxHeartbeats 4000000 in
theorem tx_back_23b {scr : Nat × (Nat → Int32)} {d : Nat} (hd : 3 ≤ d) {k23 : Int32 → Mem → Option (Int32 × Mem)} (hk23 : ∀ (v1 : Int32) (S0 : Mem), ∀ (rv : Int32) (SR : Mem), k23 v1 S0 = some (rv, SR) → XG scr d 69 23 [(0, .inr (some (some 0))), (1, .inl v1)] [] S0 (some (.inl rv)) SR) (v1 : Int32) (S0 : Mem)  (rv : Int32) (SR : Mem) (E : fx_back_23b k23 v1 S0 = some (rv, SR)) : XG scr d 69 23 [(0, .inr (some (some 0))), (1, .inl v1)] [] S0 (some (.inl rv)) SR := by
  unfold fx_back_23b at E
  refine g_iload rfl rfl ?_
  refine g_aload rfl rfl ?_
  refine g_getR rfl ty_x (fR_7_5 ty_x) ?_
  refine g_lenO rfl (by decide) (show K0 678 = .inr (2, 6) by decide +kernel) (by decide) ?_
  rcases xif E with ⟨h1, E⟩ | ⟨h1, E⟩
  · refine g_icge_t rfl h1 ?_
    refine g_aload rfl rfl ?_
    refine g_getR rfl ty_x (fR_7_0 ty_x) ?_
    refine g_getI rfl fT_7_0 ?_
    obtain ⟨rfl, rfl⟩ := so2 E
    exact g_iret rfl
  · refine g_icge_f rfl h1 ?_
    refine g_aload rfl rfl ?_
    refine g_getR rfl ty_x (fR_7_5 ty_x) ?_
    refine g_iload rfl rfl ?_
    obtain ⟨i1, h2, E⟩ := ob E
    refine g_aald rfl (by decide) (show K0 678 = .inr (2, 6) by decide +kernel) (by decide) h2 (rA_h h2) ?_
    refine g_getI rfl (eT_h h2) ?_
    refine g_push rfl ?_
    rcases xif E with ⟨h3, E⟩ | ⟨h3, E⟩
    · refine g_icne_t rfl h3 ?_
      refine g_aload rfl rfl ?_
      refine g_getR rfl ty_x (fR_7_0 ty_x) ?_
      refine g_aload rfl rfl ?_
      refine g_getR rfl ty_x (fR_7_5 ty_x) ?_
      refine g_iload rfl rfl ?_
      obtain ⟨i2, h4, E⟩ := ob E
      refine g_aald rfl (by decide) (show K0 678 = .inr (2, 6) by decide +kernel) (by decide) h4 (rA_h h4) ?_
      refine g_getI rfl (eT_h h4) ?_
      obtain ⟨x1, h5, E⟩ := ob E
      refine g_inv1 (dc := 0) rfl (by omega) fT_7_0 (Nat.le_of_ble_eq_true rfl) (fun d hd => tw_isActor hd 1 (S0 (679 + 3 * i2) 2) S0 fT_7_0 _ h5) ?_
      rcases xif E with ⟨h6, E⟩ | ⟨h6, E⟩
      · refine g_ifne_t rfl h6 ?_
        refine g_aload rfl rfl ?_
        refine g_getR rfl ty_x (fR_7_5 ty_x) ?_
        refine g_iload rfl rfl ?_
        obtain ⟨i3, h7, E⟩ := ob E
        refine g_aald rfl (by decide) (show K0 678 = .inr (2, 6) by decide +kernel) (by decide) h7 (rA_h h7) ?_
        refine g_push rfl ?_
        obtain ⟨S1, hS1, E⟩ := ob E
        refine g_putI rfl (eT_h h7) hS1 ?_
        refine g_iinc (L2 := [(1, .inl (v1 + 1)), (0, .inr (some (some 0)))]) rfl rfl rfl ?_
        refine g_goto rfl ?_
        exact g_loc (lsub_cons rfl (lsub_cons rfl lsub_nil)) (hk23 (v1 + 1) S1 _ _ E)
      · refine g_ifne_f rfl h6 ?_
        refine g_iinc (L2 := [(1, .inl (v1 + 1)), (0, .inr (some (some 0)))]) rfl rfl rfl ?_
        refine g_goto rfl ?_
        exact g_loc (lsub_cons rfl (lsub_cons rfl lsub_nil)) (hk23 (v1 + 1) S0 _ _ E)
    · refine g_icne_f rfl h3 ?_
      refine g_iinc (L2 := [(1, .inl (v1 + 1)), (0, .inr (some (some 0)))]) rfl rfl rfl ?_
      refine g_goto rfl ?_
      exact g_loc (lsub_cons rfl (lsub_cons rfl lsub_nil)) (hk23 (v1 + 1) S0 _ _ E)
def fx_back_23  : Nat → Int32 → Mem → Option (Int32 × Mem)
  | 0 => fun _ _ => none
  | n + 1 => fx_back_23b  (fx_back_23  n)
set_option maxRecDepth 20000 in
set_option maxHeartbeats 4000000 in
theorem tx_back_23 {scr : Nat × (Nat → Int32)} {d : Nat} (hd : 3 ≤ d)  : ∀ (n : Nat) (v1 : Int32) (S0 : Mem), ∀ (rv : Int32) (SR : Mem), fx_back_23  n v1 S0 = some (rv, SR) → XG scr d 69 23 [(0, .inr (some (some 0))), (1, .inl v1)] [] S0 (some (.inl rv)) SR
  | 0, v1, S0, rv, SR, E => nn E
  | n + 1, v1, S0, rv, SR, E => tx_back_23b hd  (tx_back_23 hd  n) v1 S0  rv SR E
def fx_back  (S0 : Mem) : Option (Int32 × Mem) := if (S0 0 6) = 0 then (some ((-5), S0)) else ((fw_copyFrom 1 337 S0).bind fun S1 => fx_back_23 LF 0 S1)
set_option maxRecDepth 20000 in
set_option maxHeartbeats 4000000 in
theorem tx_back {scr : Nat × (Nat → Int32)} {d : Nat} (hd : 3 ≤ d)  (S0 : Mem)  (rv : Int32) (SR : Mem) (E : fx_back   S0 = some (rv, SR)) : XG scr d 69 0 [(0, .inr (some (some 0)))] [] S0 (some (.inl rv)) SR := by
  unfold fx_back at E
  refine g_aload rfl rfl ?_
  refine g_getI rfl ty_x ?_
  rcases xif E with ⟨h1, E⟩ | ⟨h1, E⟩
  · refine g_ifne_t rfl h1 ?_
    refine g_push rfl ?_
    obtain ⟨rfl, rfl⟩ := so2 E
    exact g_iret rfl
  · refine g_ifne_f rfl h1 ?_
    refine g_aload rfl rfl ?_
    refine g_getR rfl ty_x (fR_7_0 ty_x) ?_
    refine g_aload rfl rfl ?_
    refine g_getR rfl ty_x (fR_7_2 ty_x) ?_
    obtain ⟨S1, h2, E⟩ := ob E
    refine g_inv1 (dc := 2) rfl (by omega) fT_7_0 (Nat.le_of_ble_eq_true rfl) (fun d hd => tw_copyFrom hd 1 337 S0 fT_7_0 fT_7_2 _ h2) ?_
    refine g_push rfl ?_
    refine g_istore (L2 := [(1, .inl 0), (0, .inr (some (some 0)))]) rfl rfl ?_
    exact g_loc (lsub_cons rfl (lsub_cons rfl lsub_nil)) (tx_back_23 hd LF 0 S1 _ _ E)
def fx_brings (v1 : Int32) (v2 : Int32) (S0 : Mem) : Option (Int32 × Mem) := (fw_isLive 1 v1 S0).bind fun x1 => if x1 = 0 then (some ((-2000000000), S0)) else (if v2 < 0 then (some ((-2000000000), S0)) else (if v2 ≤ 2 then ((fw_copyFrom 169 1 S0).bind fun S1 => (some (up2 S1 169 12 0)).bind fun S2 => (fw_fail 169 v1 5 S2).bind fun S3 => if v2 = 0 then (some (S3 169 12, S3)) else (if v2 = 1 then ((fw_liveBits 1 S3).bind fun x2 => (fw_liveBits 169 S3).bind fun x3 => some (x2 &&& (x3 ^^^ ((-1))), S3)) else ((fp_firstAt 178 ((S3 178 2) - 1) S3).bind fun x4 => some (x4, S3)))) else (some ((-2000000000), S0))))
set_option maxRecDepth 20000 in
set_option maxHeartbeats 4000000 in
theorem tx_brings {scr : Nat × (Nat → Int32)} {d : Nat} (hd : 5 ≤ d) (v1 : Int32) (v2 : Int32) (S0 : Mem)  (rv : Int32) (SR : Mem) (E : fx_brings  v1 v2 S0 = some (rv, SR)) : XG scr d 70 0 [(0, .inr (some (some 0))), (1, .inl v1), (2, .inl v2)] [] S0 (some (.inl rv)) SR := by
  unfold fx_brings at E
  refine g_aload rfl rfl ?_
  refine g_getR rfl ty_x (fR_7_0 ty_x) ?_
  refine g_iload rfl rfl ?_
  obtain ⟨x1, h1, E⟩ := ob E
  refine g_inv1 (dc := 0) rfl (by omega) fT_7_0 (Nat.le_of_ble_eq_true rfl) (fun d hd => tw_isLive hd 1 v1 S0 fT_7_0 _ h1) ?_
  rcases xif E with ⟨h2, E⟩ | ⟨h2, E⟩
  · refine g_ifeq_t rfl h2 ?_
    refine g_push rfl ?_
    obtain ⟨rfl, rfl⟩ := so2 E
    exact g_iret rfl
  · refine g_ifeq_f rfl h2 ?_
    refine g_iload rfl rfl ?_
    rcases xif E with ⟨h3, E⟩ | ⟨h3, E⟩
    · refine g_iflt_t rfl h3 ?_
      refine g_push rfl ?_
      obtain ⟨rfl, rfl⟩ := so2 E
      exact g_iret rfl
    · refine g_iflt_f rfl h3 ?_
      refine g_iload rfl rfl ?_
      refine g_push rfl ?_
      rcases xif E with ⟨h4, E⟩ | ⟨h4, E⟩
      · refine g_icle_t rfl h4 ?_
        refine g_aload rfl rfl ?_
        refine g_getR rfl ty_x (fR_7_1 ty_x) ?_
        refine g_aload rfl rfl ?_
        refine g_getR rfl ty_x (fR_7_0 ty_x) ?_
        obtain ⟨S1, h5, E⟩ := ob E
        refine g_inv1 (dc := 2) rfl (by omega) fT_7_1 (Nat.le_of_ble_eq_true rfl) (fun d hd => tw_copyFrom hd 169 1 S0 fT_7_1 fT_7_0 _ h5) ?_
        refine g_aload rfl rfl ?_
        refine g_getR rfl ty_x (fR_7_1 ty_x) ?_
        refine g_push rfl ?_
        obtain ⟨S2, hS2, E⟩ := ob E
        refine g_putI rfl fT_7_1 hS2 ?_
        refine g_aload rfl rfl ?_
        refine g_getR rfl ty_x (fR_7_1 ty_x) ?_
        refine g_iload rfl rfl ?_
        refine g_push rfl ?_
        obtain ⟨S3, h6, E⟩ := ob E
        refine g_inv2 (dc := 4) rfl (by omega) fT_7_1 (Nat.le_of_ble_eq_true rfl) (fun d hd => tw_fail hd 169 v1 5 S2 fT_7_1 _ h6) ?_
        refine g_iload rfl rfl ?_
        rcases xif E with ⟨h7, E⟩ | ⟨h7, E⟩
        · refine g_ifne_t rfl h7 ?_
          refine g_aload rfl rfl ?_
          refine g_getR rfl ty_x (fR_7_1 ty_x) ?_
          refine g_getI rfl fT_7_1 ?_
          obtain ⟨rfl, rfl⟩ := so2 E
          exact g_iret rfl
        · refine g_ifne_f rfl h7 ?_
          refine g_iload rfl rfl ?_
          refine g_push rfl ?_
          rcases xif E with ⟨h8, E⟩ | ⟨h8, E⟩
          · refine g_icne_t rfl h8 ?_
            refine g_aload rfl rfl ?_
            refine g_getR rfl ty_x (fR_7_0 ty_x) ?_
            obtain ⟨x2, h9, E⟩ := ob E
            refine g_inv0 (dc := 0) rfl (by omega) fT_7_0 (Nat.le_of_ble_eq_true rfl) (fun d hd => tw_liveBits hd 1 S3 fT_7_0 _ h9) ?_
            refine g_aload rfl rfl ?_
            refine g_getR rfl ty_x (fR_7_1 ty_x) ?_
            obtain ⟨x3, h10, E⟩ := ob E
            refine g_inv0 (dc := 0) rfl (by omega) fT_7_1 (Nat.le_of_ble_eq_true rfl) (fun d hd => tw_liveBits hd 169 S3 fT_7_1 _ h10) ?_
            refine g_push rfl ?_
            refine g_ixor rfl ?_
            refine g_iand rfl ?_
            obtain ⟨rfl, rfl⟩ := so2 E
            exact g_iret rfl
          · refine g_icne_f rfl h8 ?_
            refine g_aload rfl rfl ?_
            refine g_getR rfl ty_x (fR_7_1 ty_x) ?_
            refine g_getR rfl fT_7_1 (fR_6_3 fT_7_1) ?_
            refine g_aload rfl rfl ?_
            refine g_getR rfl ty_x (fR_7_1 ty_x) ?_
            refine g_getR rfl fT_7_1 (fR_6_3 fT_7_1) ?_
            refine g_getI rfl (fT_6_3 fT_7_1) ?_
            refine g_push rfl ?_
            refine g_isub rfl ?_
            obtain ⟨x4, h11, E⟩ := ob E
            refine g_inv1 (dc := 0) rfl (by omega) (fT_6_3 fT_7_1) (Nat.le_of_ble_eq_true rfl) (fun d hd => tp_firstAt hd 178 ((S3 178 2) - 1) S3 (fT_6_3 fT_7_1) _ h11) ?_
            obtain ⟨rfl, rfl⟩ := so2 E
            exact g_iret rfl
      · refine g_icle_f rfl h4 ?_
        refine g_push rfl ?_
        obtain ⟨rfl, rfl⟩ := so2 E
        exact g_iret rfl
def fx_cause (v1 : Int32) (v2 : Int32) (S0 : Mem) : Option Int32 := if v1 < 0 then (some ((-1))) else (if v2 < 0 then (some ((-1))) else (if v2 ≤ 1 then (if v1 < (S0 10 2) then (if v2 = 0 then ((fp_firstAt 10 (((S0 10 2) - 1) - v1) S0).bind fun x1 => some x1) else ((fp_secondAt 10 (((S0 10 2) - 1) - v1) S0).bind fun x2 => some x2)) else (some ((-2)))) else (some ((-1)))))
set_option maxRecDepth 20000 in
set_option maxHeartbeats 4000000 in
theorem tx_cause {scr : Nat × (Nat → Int32)} {d : Nat} (hd : 1 ≤ d) (v1 : Int32) (v2 : Int32) (S0 : Mem)  (rv : Int32) (E : fx_cause  v1 v2 S0 = some rv) : XG scr d 71 0 [(0, .inr (some (some 0))), (1, .inl v1), (2, .inl v2)] [] S0 (some (.inl rv)) S0 := by
  unfold fx_cause at E
  refine g_iload rfl rfl ?_
  rcases xif E with ⟨h1, E⟩ | ⟨h1, E⟩
  · refine g_iflt_t rfl h1 ?_
    refine g_push rfl ?_
    obtain rfl := so1 E
    exact g_iret rfl
  · refine g_iflt_f rfl h1 ?_
    refine g_iload rfl rfl ?_
    rcases xif E with ⟨h2, E⟩ | ⟨h2, E⟩
    · refine g_iflt_t rfl h2 ?_
      refine g_push rfl ?_
      obtain rfl := so1 E
      exact g_iret rfl
    · refine g_iflt_f rfl h2 ?_
      refine g_iload rfl rfl ?_
      refine g_push rfl ?_
      rcases xif E with ⟨h3, E⟩ | ⟨h3, E⟩
      · refine g_icle_t rfl h3 ?_
        refine g_aload rfl rfl ?_
        refine g_getR rfl ty_x (fR_7_0 ty_x) ?_
        refine g_getR rfl fT_7_0 (fR_6_3 fT_7_0) ?_
        refine g_astore (L2 := [(3, .inr (some (some 10))), (0, .inr (some (some 0))), (1, .inl v1), (2, .inl v2)]) rfl rfl ?_
        refine g_iload rfl rfl ?_
        refine g_aload rfl rfl ?_
        refine g_getI rfl (fT_6_3 fT_7_0) ?_
        rcases xif E with ⟨h4, E⟩ | ⟨h4, E⟩
        · refine g_iclt_t rfl h4 ?_
          refine g_aload rfl rfl ?_
          refine g_getI rfl (fT_6_3 fT_7_0) ?_
          refine g_push rfl ?_
          refine g_isub rfl ?_
          refine g_iload rfl rfl ?_
          refine g_isub rfl ?_
          refine g_istore (L2 := [(4, .inl (((S0 10 2) - 1) - v1)), (3, .inr (some (some 10))), (0, .inr (some (some 0))), (1, .inl v1), (2, .inl v2)]) rfl rfl ?_
          refine g_iload rfl rfl ?_
          rcases xif E with ⟨h5, E⟩ | ⟨h5, E⟩
          · refine g_ifne_t rfl h5 ?_
            refine g_aload rfl rfl ?_
            refine g_iload rfl rfl ?_
            obtain ⟨x1, h6, E⟩ := ob E
            refine g_inv1 (dc := 0) rfl (by omega) (fT_6_3 fT_7_0) (Nat.le_of_ble_eq_true rfl) (fun d hd => tp_firstAt hd 10 (((S0 10 2) - 1) - v1) S0 (fT_6_3 fT_7_0) _ h6) ?_
            refine g_goto rfl ?_
            obtain rfl := so1 E
            exact g_iret rfl
          · refine g_ifne_f rfl h5 ?_
            refine g_aload rfl rfl ?_
            refine g_iload rfl rfl ?_
            obtain ⟨x2, h7, E⟩ := ob E
            refine g_inv1 (dc := 0) rfl (by omega) (fT_6_3 fT_7_0) (Nat.le_of_ble_eq_true rfl) (fun d hd => tp_secondAt hd 10 (((S0 10 2) - 1) - v1) S0 (fT_6_3 fT_7_0) _ h7) ?_
            obtain rfl := so1 E
            exact g_iret rfl
        · refine g_iclt_f rfl h4 ?_
          refine g_push rfl ?_
          obtain rfl := so1 E
          exact g_iret rfl
      · refine g_icle_f rfl h3 ?_
        refine g_push rfl ?_
        obtain rfl := so1 E
        exact g_iret rfl
def fj_bitCount (v0 : Int32) (S0 : Mem) : Option Int32 := some ((((((((v0 - ((iush v0 1) &&& 1431655765)) &&& 858993459) + ((iush (v0 - ((iush v0 1) &&& 1431655765)) 2) &&& 858993459)) + (iush (((v0 - ((iush v0 1) &&& 1431655765)) &&& 858993459) + ((iush (v0 - ((iush v0 1) &&& 1431655765)) 2) &&& 858993459)) 4)) &&& 252645135) + (iush (((((v0 - ((iush v0 1) &&& 1431655765)) &&& 858993459) + ((iush (v0 - ((iush v0 1) &&& 1431655765)) 2) &&& 858993459)) + (iush (((v0 - ((iush v0 1) &&& 1431655765)) &&& 858993459) + ((iush (v0 - ((iush v0 1) &&& 1431655765)) 2) &&& 858993459)) 4)) &&& 252645135) 8)) + (iush ((((((v0 - ((iush v0 1) &&& 1431655765)) &&& 858993459) + ((iush (v0 - ((iush v0 1) &&& 1431655765)) 2) &&& 858993459)) + (iush (((v0 - ((iush v0 1) &&& 1431655765)) &&& 858993459) + ((iush (v0 - ((iush v0 1) &&& 1431655765)) 2) &&& 858993459)) 4)) &&& 252645135) + (iush (((((v0 - ((iush v0 1) &&& 1431655765)) &&& 858993459) + ((iush (v0 - ((iush v0 1) &&& 1431655765)) 2) &&& 858993459)) + (iush (((v0 - ((iush v0 1) &&& 1431655765)) &&& 858993459) + ((iush (v0 - ((iush v0 1) &&& 1431655765)) 2) &&& 858993459)) 4)) &&& 252645135) 8)) 16)) &&& 63)
set_option maxRecDepth 20000 in
set_option maxHeartbeats 4000000 in
theorem tj_bitCount {scr : Nat × (Nat → Int32)} {d : Nat} (hd : 0 ≤ d) (v0 : Int32) (S0 : Mem)  (rv : Int32) (E : fj_bitCount  v0 S0 = some rv) : XG scr d 189 0 [(0, .inl v0)] [] S0 (some (.inl rv)) S0 := by
  unfold fj_bitCount at E
  refine g_iload rfl rfl ?_
  refine g_iload rfl rfl ?_
  refine g_push rfl ?_
  refine g_iushr rfl ?_
  refine g_push rfl ?_
  refine g_iand rfl ?_
  refine g_isub rfl ?_
  refine g_istore (L2 := [(0, .inl (v0 - ((iush v0 1) &&& 1431655765)))]) rfl rfl ?_
  refine g_iload rfl rfl ?_
  refine g_push rfl ?_
  refine g_iand rfl ?_
  refine g_iload rfl rfl ?_
  refine g_push rfl ?_
  refine g_iushr rfl ?_
  refine g_push rfl ?_
  refine g_iand rfl ?_
  refine g_iadd rfl ?_
  refine g_istore (L2 := [(0, .inl (((v0 - ((iush v0 1) &&& 1431655765)) &&& 858993459) + ((iush (v0 - ((iush v0 1) &&& 1431655765)) 2) &&& 858993459)))]) rfl rfl ?_
  refine g_iload rfl rfl ?_
  refine g_iload rfl rfl ?_
  refine g_push rfl ?_
  refine g_iushr rfl ?_
  refine g_iadd rfl ?_
  refine g_push rfl ?_
  refine g_iand rfl ?_
  refine g_istore (L2 := [(0, .inl (((((v0 - ((iush v0 1) &&& 1431655765)) &&& 858993459) + ((iush (v0 - ((iush v0 1) &&& 1431655765)) 2) &&& 858993459)) + (iush (((v0 - ((iush v0 1) &&& 1431655765)) &&& 858993459) + ((iush (v0 - ((iush v0 1) &&& 1431655765)) 2) &&& 858993459)) 4)) &&& 252645135))]) rfl rfl ?_
  refine g_iload rfl rfl ?_
  refine g_iload rfl rfl ?_
  refine g_push rfl ?_
  refine g_iushr rfl ?_
  refine g_iadd rfl ?_
  refine g_istore (L2 := [(0, .inl ((((((v0 - ((iush v0 1) &&& 1431655765)) &&& 858993459) + ((iush (v0 - ((iush v0 1) &&& 1431655765)) 2) &&& 858993459)) + (iush (((v0 - ((iush v0 1) &&& 1431655765)) &&& 858993459) + ((iush (v0 - ((iush v0 1) &&& 1431655765)) 2) &&& 858993459)) 4)) &&& 252645135) + (iush (((((v0 - ((iush v0 1) &&& 1431655765)) &&& 858993459) + ((iush (v0 - ((iush v0 1) &&& 1431655765)) 2) &&& 858993459)) + (iush (((v0 - ((iush v0 1) &&& 1431655765)) &&& 858993459) + ((iush (v0 - ((iush v0 1) &&& 1431655765)) 2) &&& 858993459)) 4)) &&& 252645135) 8)))]) rfl rfl ?_
  refine g_iload rfl rfl ?_
  refine g_iload rfl rfl ?_
  refine g_push rfl ?_
  refine g_iushr rfl ?_
  refine g_iadd rfl ?_
  refine g_istore (L2 := [(0, .inl (((((((v0 - ((iush v0 1) &&& 1431655765)) &&& 858993459) + ((iush (v0 - ((iush v0 1) &&& 1431655765)) 2) &&& 858993459)) + (iush (((v0 - ((iush v0 1) &&& 1431655765)) &&& 858993459) + ((iush (v0 - ((iush v0 1) &&& 1431655765)) 2) &&& 858993459)) 4)) &&& 252645135) + (iush (((((v0 - ((iush v0 1) &&& 1431655765)) &&& 858993459) + ((iush (v0 - ((iush v0 1) &&& 1431655765)) 2) &&& 858993459)) + (iush (((v0 - ((iush v0 1) &&& 1431655765)) &&& 858993459) + ((iush (v0 - ((iush v0 1) &&& 1431655765)) 2) &&& 858993459)) 4)) &&& 252645135) 8)) + (iush ((((((v0 - ((iush v0 1) &&& 1431655765)) &&& 858993459) + ((iush (v0 - ((iush v0 1) &&& 1431655765)) 2) &&& 858993459)) + (iush (((v0 - ((iush v0 1) &&& 1431655765)) &&& 858993459) + ((iush (v0 - ((iush v0 1) &&& 1431655765)) 2) &&& 858993459)) 4)) &&& 252645135) + (iush (((((v0 - ((iush v0 1) &&& 1431655765)) &&& 858993459) + ((iush (v0 - ((iush v0 1) &&& 1431655765)) 2) &&& 858993459)) + (iush (((v0 - ((iush v0 1) &&& 1431655765)) &&& 858993459) + ((iush (v0 - ((iush v0 1) &&& 1431655765)) 2) &&& 858993459)) 4)) &&& 252645135) 8)) 16)))]) rfl rfl ?_
  refine g_iload rfl rfl ?_
  refine g_push rfl ?_
  refine g_iand rfl ?_
  obtain rfl := so1 E
  exact g_iret rfl
def fx_count (v1 : Int32) (S0 : Mem) : Option Int32 := if v1 = 0 then (some (S0 1 4)) else (if v1 = 1 then ((fw_liveBits 1 S0).bind fun x1 => (fj_bitCount x1 S0).bind fun x2 => some x2) else (if v1 = 2 then ((fw_mailed 1 S0).bind fun x3 => some x3) else (if v1 = 3 then (some (S0 3 3)) else (if v1 = 4 then (some (S0 1 8)) else (if v1 = 5 then (some (S0 1 7)) else (if v1 = 6 then (some (S0 1 6)) else (if v1 = 7 then (some (S0 10 2)) else (if v1 = 8 then (some (S0 7 2)) else (if v1 = 9 then (some (S0 674 1)) else (some ((-1))))))))))))
set_option maxRecDepth 20000 in
set_option maxHeartbeats 4000000 in
theorem tx_count {scr : Nat × (Nat → Int32)} {d : Nat} (hd : 1 ≤ d) (v1 : Int32) (S0 : Mem)  (rv : Int32) (E : fx_count  v1 S0 = some rv) : XG scr d 72 0 [(0, .inr (some (some 0))), (1, .inl v1)] [] S0 (some (.inl rv)) S0 := by
  unfold fx_count at E
  refine g_iload rfl rfl ?_
  rcases xif E with ⟨h1, E⟩ | ⟨h1, E⟩
  · refine g_tsw (u := 56) rfl (by rw [h1]; decide +kernel) ?_
    refine g_aload rfl rfl ?_
    refine g_getR rfl ty_x (fR_7_0 ty_x) ?_
    refine g_getI rfl fT_7_0 ?_
    obtain rfl := so1 E
    exact g_iret rfl
  · rcases xif E with ⟨h2, E⟩ | ⟨h2, E⟩
    · refine g_tsw (u := 64) rfl (by rw [h2]; decide +kernel) ?_
      refine g_aload rfl rfl ?_
      refine g_getR rfl ty_x (fR_7_0 ty_x) ?_
      obtain ⟨x1, h3, E⟩ := ob E
      refine g_inv0 (dc := 0) rfl (by omega) fT_7_0 (Nat.le_of_ble_eq_true rfl) (fun d hd => tw_liveBits hd 1 S0 fT_7_0 _ h3) ?_
      obtain ⟨x2, h4, E⟩ := ob E
      refine g_invS1 (dc := 0) rfl (by omega) (Nat.le_of_ble_eq_true rfl) (fun d hd => tj_bitCount hd x1 S0 _ h4) ?_
      obtain rfl := so1 E
      exact g_iret rfl
    · rcases xif E with ⟨h5, E⟩ | ⟨h5, E⟩
      · refine g_tsw (u := 75) rfl (by rw [h5]; decide +kernel) ?_
        refine g_aload rfl rfl ?_
        refine g_getR rfl ty_x (fR_7_0 ty_x) ?_
        obtain ⟨x3, h6, E⟩ := ob E
        refine g_inv0 (dc := 0) rfl (by omega) fT_7_0 (Nat.le_of_ble_eq_true rfl) (fun d hd => tw_mailed hd 1 S0 fT_7_0 _ h6) ?_
        obtain rfl := so1 E
        exact g_iret rfl
      · rcases xif E with ⟨h7, E⟩ | ⟨h7, E⟩
        · refine g_tsw (u := 83) rfl (by rw [h7]; decide +kernel) ?_
          refine g_aload rfl rfl ?_
          refine g_getR rfl ty_x (fR_7_0 ty_x) ?_
          refine g_getR rfl fT_7_0 (fR_6_1 fT_7_0) ?_
          refine g_getI rfl (fT_6_1 fT_7_0) ?_
          obtain rfl := so1 E
          exact g_iret rfl
        · rcases xif E with ⟨h8, E⟩ | ⟨h8, E⟩
          · refine g_tsw (u := 94) rfl (by rw [h8]; decide +kernel) ?_
            refine g_aload rfl rfl ?_
            refine g_getR rfl ty_x (fR_7_0 ty_x) ?_
            refine g_getI rfl fT_7_0 ?_
            obtain rfl := so1 E
            exact g_iret rfl
          · rcases xif E with ⟨h9, E⟩ | ⟨h9, E⟩
            · refine g_tsw (u := 102) rfl (by rw [h9]; decide +kernel) ?_
              refine g_aload rfl rfl ?_
              refine g_getR rfl ty_x (fR_7_0 ty_x) ?_
              refine g_getI rfl fT_7_0 ?_
              obtain rfl := so1 E
              exact g_iret rfl
            · rcases xif E with ⟨h10, E⟩ | ⟨h10, E⟩
              · refine g_tsw (u := 110) rfl (by rw [h10]; decide +kernel) ?_
                refine g_aload rfl rfl ?_
                refine g_getR rfl ty_x (fR_7_0 ty_x) ?_
                refine g_getI rfl fT_7_0 ?_
                obtain rfl := so1 E
                exact g_iret rfl
              · rcases xif E with ⟨h11, E⟩ | ⟨h11, E⟩
                · refine g_tsw (u := 118) rfl (by rw [h11]; decide +kernel) ?_
                  refine g_aload rfl rfl ?_
                  refine g_getR rfl ty_x (fR_7_0 ty_x) ?_
                  refine g_getR rfl fT_7_0 (fR_6_3 fT_7_0) ?_
                  refine g_getI rfl (fT_6_3 fT_7_0) ?_
                  obtain rfl := so1 E
                  exact g_iret rfl
                · rcases xif E with ⟨h12, E⟩ | ⟨h12, E⟩
                  · refine g_tsw (u := 129) rfl (by rw [h12]; decide +kernel) ?_
                    refine g_aload rfl rfl ?_
                    refine g_getR rfl ty_x (fR_7_0 ty_x) ?_
                    refine g_getR rfl fT_7_0 (fR_6_2 fT_7_0) ?_
                    refine g_getI rfl (fT_6_2 fT_7_0) ?_
                    obtain rfl := so1 E
                    exact g_iret rfl
                  · rcases xif E with ⟨h13, E⟩ | ⟨h13, E⟩
                    · refine g_tsw (u := 140) rfl (by rw [h13]; decide +kernel) ?_
                      refine g_aload rfl rfl ?_
                      refine g_getR rfl ty_x (fR_7_4 ty_x) ?_
                      refine g_getR rfl fT_7_4 (fR_4_0 fT_7_4) ?_
                      refine g_getI rfl (fT_4_0 fT_7_4) ?_
                      obtain rfl := so1 E
                      exact g_iret rfl
                    · refine g_tsw (u := 151) rfl (tsw_d (sw_def (n := 9) rfl _ (by decide +kernel) (fc h1 (fc h2 (fc h5 (fc h7 (fc h8 (fc h9 (fc h10 (fc h11 (fc h12 (fc h13 fn)))))))))))) ?_
                      refine g_push rfl ?_
                      obtain rfl := so1 E
                      exact g_iret rfl
def fx_counted (v1 : Int32) (S0 : Mem) : Option Int32 := (fw_isActor 1 v1 S0).bind fun x1 => if x1 = 0 then (some ((-2000000000))) else ((ix v1 12).bind fun i1 => some (S0 (1 + 12 + 13 * i1) 5))
set_option maxRecDepth 20000 in
set_option maxHeartbeats 4000000 in
theorem tx_counted {scr : Nat × (Nat → Int32)} {d : Nat} (hd : 1 ≤ d) (v1 : Int32) (S0 : Mem)  (rv : Int32) (E : fx_counted  v1 S0 = some rv) : XG scr d 73 0 [(0, .inr (some (some 0))), (1, .inl v1)] [] S0 (some (.inl rv)) S0 := by
  unfold fx_counted at E
  refine g_aload rfl rfl ?_
  refine g_getR rfl ty_x (fR_7_0 ty_x) ?_
  refine g_iload rfl rfl ?_
  obtain ⟨x1, h1, E⟩ := ob E
  refine g_inv1 (dc := 0) rfl (by omega) fT_7_0 (Nat.le_of_ble_eq_true rfl) (fun d hd => tw_isActor hd 1 v1 S0 fT_7_0 _ h1) ?_
  rcases xif E with ⟨h2, E⟩ | ⟨h2, E⟩
  · refine g_ifeq_t rfl h2 ?_
    refine g_push rfl ?_
    obtain rfl := so1 E
    exact g_iret rfl
  · refine g_ifeq_f rfl h2 ?_
    refine g_aload rfl rfl ?_
    refine g_getR rfl ty_x (fR_7_0 ty_x) ?_
    refine g_getR rfl fT_7_0 (fR_6_0 fT_7_0) ?_
    refine g_iload rfl rfl ?_
    obtain ⟨i1, h3, E⟩ := ob E
    refine g_aald rfl (eK_a _ fT_7_0.1 fT_7_0.2).1.1 (eK_a _ fT_7_0.1 fT_7_0.2).1.2 (by decide) h3 (rA_a fT_7_0 h3) ?_
    refine g_getI rfl (eT_a fT_7_0 h3) ?_
    refine g_goto rfl ?_
    obtain rfl := so1 E
    exact g_iret rfl
def fx_doLineButSteps  (S0 : Mem) : Option (Int32 × Mem) := bd (ft_readLine 673 S0) fun x1 S1 => (some (up2 S1 673 3 ((S1 673 3) + 1))).bind fun S2 => (fn_at 676 ((S2 676 1) - 1) S2).bind fun x2 => if (S2 673 2) = 97 then ((fn_at 676 0 S2).bind fun x3 => if x3 = 99 then ((fn_at 676 1 S2).bind fun x4 => (fn_at 676 2 S2).bind fun x5 => (fn_at 676 3 S2).bind fun x6 => bd (fw_addActor 1 ((-1)) x4 x5 x6 x2 S2) fun x7 S3 => if x7 < 0 then (some ((-1), S3)) else (some (0, S3))) else ((fn_at 676 0 S2).bind fun x8 => (fn_at 676 1 S2).bind fun x9 => (fn_at 676 2 S2).bind fun x10 => (fn_at 676 3 S2).bind fun x11 => bd (fw_addActor 1 x8 x9 x10 x11 x2 S2) fun x12 S4 => if x12 < 0 then (some ((-1), S4)) else (some (0, S4)))) else (if (S2 673 2) = 109 then ((fn_at 676 0 S2).bind fun x13 => (fw_isActor 1 x13 S2).bind fun x14 => if x14 = 0 then (some ((-1), S2)) else ((fn_at 676 0 S2).bind fun x15 => bd (fw_send 1 x15 ((-1)) x2 S2) fun x16 S5 => some (0, S5))) else (if (S2 673 2) = 115 then (if x2 < 1 then (some ((-1), S2)) else (if 99 < x2 then (some ((-1), S2)) else (some (x2, S2)))) else (some ((-1), S2))))
set_option maxRecDepth 20000 in
set_option maxHeartbeats 4000000 in
theorem tx_doLineButSteps {scr : Nat × (Nat → Int32)} {d : Nat} (hd : 4 ≤ d)  (S0 : Mem)  (rv : Int32) (SR : Mem) (E : fx_doLineButSteps   S0 = some (rv, SR)) : XG scr d 74 0 [(0, .inr (some (some 0)))] [] S0 (some (.inl rv)) SR := by
  unfold fx_doLineButSteps at E
  refine g_aload rfl rfl ?_
  refine g_getR rfl ty_x (fR_7_4 ty_x) ?_
  obtain ⟨x1, S1, h1, E⟩ := ob2 E
  refine g_inv0 (dc := 3) rfl (by omega) fT_7_4 (Nat.le_of_ble_eq_true rfl) (fun d hd => tt_readLine hd 673 S0 fT_7_4 _ _ h1) ?_
  refine g_pop rfl ?_
  refine g_aload rfl rfl ?_
  refine g_getR rfl ty_x (fR_7_4 ty_x) ?_
  refine g_dup rfl ?_
  refine g_getI rfl fT_7_4 ?_
  refine g_push rfl ?_
  refine g_iadd rfl ?_
  obtain ⟨S2, hS2, E⟩ := ob E
  refine g_putI rfl fT_7_4 hS2 ?_
  refine g_aload rfl rfl ?_
  refine g_getR rfl ty_x (fR_7_4 ty_x) ?_
  refine g_getR rfl fT_7_4 (fR_4_1 fT_7_4) ?_
  refine g_astore (L2 := [(1, .inr (some (some 676))), (0, .inr (some (some 0)))]) rfl rfl ?_
  refine g_aload rfl rfl ?_
  refine g_aload rfl rfl ?_
  refine g_getI rfl (fT_4_1 fT_7_4) ?_
  refine g_push rfl ?_
  refine g_isub rfl ?_
  obtain ⟨x2, h2, E⟩ := ob E
  refine g_inv1 (dc := 0) rfl (by omega) (fT_4_1 fT_7_4) (Nat.le_of_ble_eq_true rfl) (fun d hd => tn_at hd 676 ((S2 676 1) - 1) S2 (fT_4_1 fT_7_4) _ h2) ?_
  refine g_istore (L2 := [(2, .inl x2), (1, .inr (some (some 676))), (0, .inr (some (some 0)))]) rfl rfl ?_
  refine g_aload rfl rfl ?_
  refine g_getR rfl ty_x (fR_7_4 ty_x) ?_
  refine g_getI rfl fT_7_4 ?_
  rcases xif E with ⟨h3, E⟩ | ⟨h3, E⟩
  · refine g_lsw (u := 80) rfl (by rw [h3]; decide +kernel) ?_
    refine g_aload rfl rfl ?_
    refine g_push rfl ?_
    obtain ⟨x3, h4, E⟩ := ob E
    refine g_inv1 (dc := 0) rfl (by omega) (fT_4_1 fT_7_4) (Nat.le_of_ble_eq_true rfl) (fun d hd => tn_at hd 676 0 S2 (fT_4_1 fT_7_4) _ h4) ?_
    refine g_push rfl ?_
    rcases xif E with ⟨h5, E⟩ | ⟨h5, E⟩
    · refine g_icne_t rfl h5 ?_
      refine g_push rfl ?_
      refine g_goto rfl ?_
      refine g_istore (L2 := [(3, .inl ((-1))), (2, .inl x2), (1, .inr (some (some 676))), (0, .inr (some (some 0)))]) rfl rfl ?_
      refine g_aload rfl rfl ?_
      refine g_getR rfl ty_x (fR_7_0 ty_x) ?_
      refine g_iload rfl rfl ?_
      refine g_aload rfl rfl ?_
      refine g_push rfl ?_
      obtain ⟨x4, h6, E⟩ := ob E
      refine g_inv1 (dc := 0) rfl (by omega) (fT_4_1 fT_7_4) (Nat.le_of_ble_eq_true rfl) (fun d hd => tn_at hd 676 1 S2 (fT_4_1 fT_7_4) _ h6) ?_
      refine g_aload rfl rfl ?_
      refine g_push rfl ?_
      obtain ⟨x5, h7, E⟩ := ob E
      refine g_inv1 (dc := 0) rfl (by omega) (fT_4_1 fT_7_4) (Nat.le_of_ble_eq_true rfl) (fun d hd => tn_at hd 676 2 S2 (fT_4_1 fT_7_4) _ h7) ?_
      refine g_aload rfl rfl ?_
      refine g_push rfl ?_
      obtain ⟨x6, h8, E⟩ := ob E
      refine g_inv1 (dc := 0) rfl (by omega) (fT_4_1 fT_7_4) (Nat.le_of_ble_eq_true rfl) (fun d hd => tn_at hd 676 3 S2 (fT_4_1 fT_7_4) _ h8) ?_
      refine g_iload rfl rfl ?_
      obtain ⟨x7, S3, h9, E⟩ := ob2 E
      refine g_inv5 (dc := 3) rfl (by omega) fT_7_0 (Nat.le_of_ble_eq_true rfl) (fun d hd => tw_addActor hd 1 ((-1)) x4 x5 x6 x2 S2 fT_7_0 _ _ h9) ?_
      rcases xif E with ⟨h10, E⟩ | ⟨h10, E⟩
      · refine g_iflt_t rfl h10 ?_
        refine g_push rfl ?_
        obtain ⟨rfl, rfl⟩ := so2 E
        exact g_iret rfl
      · refine g_iflt_f rfl h10 ?_
        refine g_push rfl ?_
        refine g_goto rfl ?_
        obtain ⟨rfl, rfl⟩ := so2 E
        exact g_iret rfl
    · refine g_icne_f rfl h5 ?_
      refine g_aload rfl rfl ?_
      refine g_push rfl ?_
      obtain ⟨x8, h11, E⟩ := ob E
      refine g_inv1 (dc := 0) rfl (by omega) (fT_4_1 fT_7_4) (Nat.le_of_ble_eq_true rfl) (fun d hd => tn_at hd 676 0 S2 (fT_4_1 fT_7_4) _ h11) ?_
      refine g_istore (L2 := [(3, .inl x8), (2, .inl x2), (1, .inr (some (some 676))), (0, .inr (some (some 0)))]) rfl rfl ?_
      refine g_aload rfl rfl ?_
      refine g_getR rfl ty_x (fR_7_0 ty_x) ?_
      refine g_iload rfl rfl ?_
      refine g_aload rfl rfl ?_
      refine g_push rfl ?_
      obtain ⟨x9, h12, E⟩ := ob E
      refine g_inv1 (dc := 0) rfl (by omega) (fT_4_1 fT_7_4) (Nat.le_of_ble_eq_true rfl) (fun d hd => tn_at hd 676 1 S2 (fT_4_1 fT_7_4) _ h12) ?_
      refine g_aload rfl rfl ?_
      refine g_push rfl ?_
      obtain ⟨x10, h13, E⟩ := ob E
      refine g_inv1 (dc := 0) rfl (by omega) (fT_4_1 fT_7_4) (Nat.le_of_ble_eq_true rfl) (fun d hd => tn_at hd 676 2 S2 (fT_4_1 fT_7_4) _ h13) ?_
      refine g_aload rfl rfl ?_
      refine g_push rfl ?_
      obtain ⟨x11, h14, E⟩ := ob E
      refine g_inv1 (dc := 0) rfl (by omega) (fT_4_1 fT_7_4) (Nat.le_of_ble_eq_true rfl) (fun d hd => tn_at hd 676 3 S2 (fT_4_1 fT_7_4) _ h14) ?_
      refine g_iload rfl rfl ?_
      obtain ⟨x12, S4, h15, E⟩ := ob2 E
      refine g_inv5 (dc := 3) rfl (by omega) fT_7_0 (Nat.le_of_ble_eq_true rfl) (fun d hd => tw_addActor hd 1 x8 x9 x10 x11 x2 S2 fT_7_0 _ _ h15) ?_
      rcases xif E with ⟨h16, E⟩ | ⟨h16, E⟩
      · refine g_iflt_t rfl h16 ?_
        refine g_push rfl ?_
        obtain ⟨rfl, rfl⟩ := so2 E
        exact g_iret rfl
      · refine g_iflt_f rfl h16 ?_
        refine g_push rfl ?_
        refine g_goto rfl ?_
        obtain ⟨rfl, rfl⟩ := so2 E
        exact g_iret rfl
  · rcases xif E with ⟨h17, E⟩ | ⟨h17, E⟩
    · refine g_lsw (u := 133) rfl (by rw [h17]; decide +kernel) ?_
      refine g_aload rfl rfl ?_
      refine g_getR rfl ty_x (fR_7_0 ty_x) ?_
      refine g_aload rfl rfl ?_
      refine g_push rfl ?_
      obtain ⟨x13, h18, E⟩ := ob E
      refine g_inv1 (dc := 0) rfl (by omega) (fT_4_1 fT_7_4) (Nat.le_of_ble_eq_true rfl) (fun d hd => tn_at hd 676 0 S2 (fT_4_1 fT_7_4) _ h18) ?_
      obtain ⟨x14, h19, E⟩ := ob E
      refine g_inv1 (dc := 0) rfl (by omega) fT_7_0 (Nat.le_of_ble_eq_true rfl) (fun d hd => tw_isActor hd 1 x13 S2 fT_7_0 _ h19) ?_
      rcases xif E with ⟨h20, E⟩ | ⟨h20, E⟩
      · refine g_ifne_t rfl h20 ?_
        refine g_push rfl ?_
        obtain ⟨rfl, rfl⟩ := so2 E
        exact g_iret rfl
      · refine g_ifne_f rfl h20 ?_
        refine g_aload rfl rfl ?_
        refine g_getR rfl ty_x (fR_7_0 ty_x) ?_
        refine g_aload rfl rfl ?_
        refine g_push rfl ?_
        obtain ⟨x15, h21, E⟩ := ob E
        refine g_inv1 (dc := 0) rfl (by omega) (fT_4_1 fT_7_4) (Nat.le_of_ble_eq_true rfl) (fun d hd => tn_at hd 676 0 S2 (fT_4_1 fT_7_4) _ h21) ?_
        refine g_push rfl ?_
        refine g_iload rfl rfl ?_
        obtain ⟨x16, S5, h22, E⟩ := ob2 E
        refine g_inv3 (dc := 1) rfl (by omega) fT_7_0 (Nat.le_of_ble_eq_true rfl) (fun d hd => tw_send hd 1 x15 ((-1)) x2 S2 fT_7_0 _ _ h22) ?_
        refine g_pop rfl ?_
        refine g_push rfl ?_
        obtain ⟨rfl, rfl⟩ := so2 E
        exact g_iret rfl
    · rcases xif E with ⟨h23, E⟩ | ⟨h23, E⟩
      · refine g_lsw (u := 167) rfl (by rw [h23]; decide +kernel) ?_
        refine g_iload rfl rfl ?_
        refine g_push rfl ?_
        rcases xif E with ⟨h24, E⟩ | ⟨h24, E⟩
        · refine g_iclt_t rfl h24 ?_
          refine g_push rfl ?_
          obtain ⟨rfl, rfl⟩ := so2 E
          exact g_iret rfl
        · refine g_iclt_f rfl h24 ?_
          refine g_iload rfl rfl ?_
          refine g_push rfl ?_
          rcases xif E with ⟨h25, E⟩ | ⟨h25, E⟩
          · refine g_icgt_t rfl h25 ?_
            refine g_push rfl ?_
            obtain ⟨rfl, rfl⟩ := so2 E
            exact g_iret rfl
          · refine g_icgt_f rfl h25 ?_
            refine g_iload rfl rfl ?_
            refine g_goto rfl ?_
            obtain ⟨rfl, rfl⟩ := so2 E
            exact g_iret rfl
      · refine g_lsw (u := 184) rfl (lsw_d (lsw_c h3 (lsw_c h17 (lsw_c h23 lsw_n)))) ?_
        refine g_push rfl ?_
        obtain ⟨rfl, rfl⟩ := so2 E
        exact g_iret rfl
def fx_drawn_36b (k36 : Int32 → Int32 → Int32 → Mem → Option (Int32 × Mem)) (v1 : Int32) (v2 : Int32) (v3 : Int32) (S0 : Mem) : Option (Int32 × Mem) := if v1 ≤ v3 then (some ((S0 1 8) - v2, S0)) else ((some (up2 S0 1 9 (((S0 1 9) * 1103515245) + 12345))).bind fun S1 => (nz (S1 1 4)).bind fun z1 => bd (fw_send 1 (irm ((iush (S1 1 9) 16) &&& 32767) (S1 1 4)) ((-1)) ((irm (((iush (S1 1 9) 16) &&& 32767) / 12) 199) - 99) S1) fun x1 S2 => k36 v1 v2 (v3 + 1) S2)
set_option maxRecDepth 20000 in
set_option maxHeartbeats 4000000 in
theorem tx_drawn_36b {scr : Nat × (Nat → Int32)} {d : Nat} (hd : 2 ≤ d) {k36 : Int32 → Int32 → Int32 → Mem → Option (Int32 × Mem)} (hk36 : ∀ (v1 : Int32) (v2 : Int32) (v3 : Int32) (S0 : Mem), ∀ (rv : Int32) (SR : Mem), k36 v1 v2 v3 S0 = some (rv, SR) → XG scr d 75 36 [(0, .inr (some (some 0))), (1, .inl v1), (2, .inl v2), (3, .inl v3)] [] S0 (some (.inl rv)) SR) (v1 : Int32) (v2 : Int32) (v3 : Int32) (S0 : Mem)  (rv : Int32) (SR : Mem) (E : fx_drawn_36b k36 v1 v2 v3 S0 = some (rv, SR)) : XG scr d 75 36 [(0, .inr (some (some 0))), (1, .inl v1), (2, .inl v2), (3, .inl v3)] [] S0 (some (.inl rv)) SR := by
  unfold fx_drawn_36b at E
  refine g_iload rfl rfl ?_
  refine g_iload rfl rfl ?_
  rcases xif E with ⟨h1, E⟩ | ⟨h1, E⟩
  · refine g_icge_t rfl h1 ?_
    refine g_aload rfl rfl ?_
    refine g_getR rfl ty_x (fR_7_0 ty_x) ?_
    refine g_getI rfl fT_7_0 ?_
    refine g_iload rfl rfl ?_
    refine g_isub rfl ?_
    obtain ⟨rfl, rfl⟩ := so2 E
    exact g_iret rfl
  · refine g_icge_f rfl h1 ?_
    refine g_aload rfl rfl ?_
    refine g_getR rfl ty_x (fR_7_0 ty_x) ?_
    refine g_aload rfl rfl ?_
    refine g_getR rfl ty_x (fR_7_0 ty_x) ?_
    refine g_getI rfl fT_7_0 ?_
    refine g_push rfl ?_
    refine g_imul rfl ?_
    refine g_push rfl ?_
    refine g_iadd rfl ?_
    obtain ⟨S1, hS1, E⟩ := ob E
    refine g_putI rfl fT_7_0 hS1 ?_
    refine g_aload rfl rfl ?_
    refine g_getR rfl ty_x (fR_7_0 ty_x) ?_
    refine g_getI rfl fT_7_0 ?_
    refine g_push rfl ?_
    refine g_iushr rfl ?_
    refine g_push rfl ?_
    refine g_iand rfl ?_
    refine g_istore (L2 := [(4, .inl ((iush (S1 1 9) 16) &&& 32767)), (0, .inr (some (some 0))), (1, .inl v1), (2, .inl v2), (3, .inl v3)]) rfl rfl ?_
    refine g_aload rfl rfl ?_
    refine g_getR rfl ty_x (fR_7_0 ty_x) ?_
    refine g_iload rfl rfl ?_
    refine g_aload rfl rfl ?_
    refine g_getR rfl ty_x (fR_7_0 ty_x) ?_
    refine g_getI rfl fT_7_0 ?_
    obtain ⟨z1, h2, E⟩ := ob E
    refine g_irem rfl (nz_of h2).1 ?_
    refine g_push rfl ?_
    refine g_iload rfl rfl ?_
    refine g_push rfl ?_
    refine g_idiv rfl (by decide) ?_
    refine g_push rfl ?_
    refine g_irem rfl (by decide) ?_
    refine g_push rfl ?_
    refine g_isub rfl ?_
    obtain ⟨x1, S2, h3, E⟩ := ob2 E
    refine g_inv3 (dc := 1) rfl (by omega) fT_7_0 (Nat.le_of_ble_eq_true rfl) (fun d hd => tw_send hd 1 (irm ((iush (S1 1 9) 16) &&& 32767) (S1 1 4)) ((-1)) ((irm (((iush (S1 1 9) 16) &&& 32767) / 12) 199) - 99) S1 fT_7_0 _ _ h3) ?_
    refine g_pop rfl ?_
    refine g_iinc (L2 := [(3, .inl (v3 + 1)), (4, .inl ((iush (S1 1 9) 16) &&& 32767)), (0, .inr (some (some 0))), (1, .inl v1), (2, .inl v2)]) rfl rfl rfl ?_
    refine g_goto rfl ?_
    exact g_loc (lsub_cons rfl (lsub_cons rfl (lsub_cons rfl (lsub_cons rfl lsub_nil)))) (hk36 v1 v2 (v3 + 1) S2 _ _ E)
def fx_drawn_36  : Nat → Int32 → Int32 → Int32 → Mem → Option (Int32 × Mem)
  | 0 => fun _ _ _ _ => none
  | n + 1 => fx_drawn_36b  (fx_drawn_36  n)
set_option maxRecDepth 20000 in
set_option maxHeartbeats 4000000 in
theorem tx_drawn_36 {scr : Nat × (Nat → Int32)} {d : Nat} (hd : 2 ≤ d)  : ∀ (n : Nat) (v1 : Int32) (v2 : Int32) (v3 : Int32) (S0 : Mem), ∀ (rv : Int32) (SR : Mem), fx_drawn_36  n v1 v2 v3 S0 = some (rv, SR) → XG scr d 75 36 [(0, .inr (some (some 0))), (1, .inl v1), (2, .inl v2), (3, .inl v3)] [] S0 (some (.inl rv)) SR
  | 0, v1, v2, v3, S0, rv, SR, E => nn E
  | n + 1, v1, v2, v3, S0, rv, SR, E => tx_drawn_36b hd  (tx_drawn_36 hd  n) v1 v2 v3 S0  rv SR E
def fx_drawn (v1 : Int32) (S0 : Mem) : Option (Int32 × Mem) := if v1 < 1 then (some ((-1), S0)) else (if v1 ≤ 40 then (if (S0 1 4) = 0 then (some ((-5), S0)) else (fx_drawn_36 LF v1 (S0 1 8) 0 S0)) else (some ((-1), S0)))
set_option maxRecDepth 20000 in
set_option maxHeartbeats 4000000 in
theorem tx_drawn {scr : Nat × (Nat → Int32)} {d : Nat} (hd : 2 ≤ d) (v1 : Int32) (S0 : Mem)  (rv : Int32) (SR : Mem) (E : fx_drawn  v1 S0 = some (rv, SR)) : XG scr d 75 0 [(0, .inr (some (some 0))), (1, .inl v1)] [] S0 (some (.inl rv)) SR := by
  unfold fx_drawn at E
  refine g_iload rfl rfl ?_
  refine g_push rfl ?_
  rcases xif E with ⟨h1, E⟩ | ⟨h1, E⟩
  · refine g_iclt_t rfl h1 ?_
    refine g_push rfl ?_
    obtain ⟨rfl, rfl⟩ := so2 E
    exact g_iret rfl
  · refine g_iclt_f rfl h1 ?_
    refine g_iload rfl rfl ?_
    refine g_push rfl ?_
    rcases xif E with ⟨h2, E⟩ | ⟨h2, E⟩
    · refine g_icle_t rfl h2 ?_
      refine g_aload rfl rfl ?_
      refine g_getR rfl ty_x (fR_7_0 ty_x) ?_
      refine g_getI rfl fT_7_0 ?_
      rcases xif E with ⟨h3, E⟩ | ⟨h3, E⟩
      · refine g_ifne_t rfl h3 ?_
        refine g_push rfl ?_
        obtain ⟨rfl, rfl⟩ := so2 E
        exact g_iret rfl
      · refine g_ifne_f rfl h3 ?_
        refine g_aload rfl rfl ?_
        refine g_getR rfl ty_x (fR_7_0 ty_x) ?_
        refine g_getI rfl fT_7_0 ?_
        refine g_istore (L2 := [(2, .inl (S0 1 8)), (0, .inr (some (some 0))), (1, .inl v1)]) rfl rfl ?_
        refine g_push rfl ?_
        refine g_istore (L2 := [(3, .inl 0), (2, .inl (S0 1 8)), (0, .inr (some (some 0))), (1, .inl v1)]) rfl rfl ?_
        exact g_loc (lsub_cons rfl (lsub_cons rfl (lsub_cons rfl (lsub_cons rfl lsub_nil)))) (tx_drawn_36 hd LF v1 (S0 1 8) 0 S0 _ _ E)
    · refine g_icle_f rfl h2 ?_
      refine g_push rfl ?_
      obtain ⟨rfl, rfl⟩ := so2 E
      exact g_iret rfl
def fx_isSteps (v0 : Int32) (S0 : Mem) : Option Int32 := if v0 < 1 then (some 0) else (if 200 < v0 then (some 0) else (some 1))
set_option maxRecDepth 20000 in
set_option maxHeartbeats 4000000 in
theorem tx_isSteps {scr : Nat × (Nat → Int32)} {d : Nat} (hd : 0 ≤ d) (v0 : Int32) (S0 : Mem)  (rv : Int32) (E : fx_isSteps  v0 S0 = some rv) : XG scr d 86 0 [(0, .inl v0)] [] S0 (some (.inl rv)) S0 := by
  unfold fx_isSteps at E
  refine g_iload rfl rfl ?_
  refine g_push rfl ?_
  rcases xif E with ⟨h1, E⟩ | ⟨h1, E⟩
  · refine g_iclt_t rfl h1 ?_
    refine g_push rfl ?_
    obtain rfl := so1 E
    exact g_zret rfl b00
  · refine g_iclt_f rfl h1 ?_
    refine g_iload rfl rfl ?_
    refine g_push rfl ?_
    rcases xif E with ⟨h2, E⟩ | ⟨h2, E⟩
    · refine g_icgt_t rfl h2 ?_
      refine g_push rfl ?_
      obtain rfl := so1 E
      exact g_zret rfl b00
    · refine g_icgt_f rfl h2 ?_
      refine g_push rfl ?_
      refine g_goto rfl ?_
      obtain rfl := so1 E
      exact g_zret rfl b01
def fx_dry_34  (v1 : Int32) (v2 : Int32) (s0 : Int32) (S0 : Mem) : Option (Int32 × Mem) := (fx_isSteps v1 S0).bind fun x1 => if x1 = 0 then (some ((-2000000000), S0)) else (if s0 = 0 then (some ((-2000000000), S0)) else ((fw_copyFrom 169 1 S0).bind fun S1 => bd (fw_makeSteps 169 v1 S1) fun x2 S2 => if v2 = 0 then (some (x2, S2)) else (if v2 = 1 then (some (S2 169 10, S2)) else (if v2 = 2 then ((fw_liveBits 169 S2).bind fun x3 => some (x3, S2)) else (if v2 = 3 then (some (S2 169 8, S2)) else (if v2 = 4 then (some (S2 169 7, S2)) else (if v2 = 5 then (some (S2 169 6, S2)) else ((fw_isActor 169 (v2 - 10) S2).bind fun x4 => if x4 = 0 then (some ((-2000000000), S2)) else ((ix (v2 - 10) 12).bind fun i1 => some (S2 (169 + 12 + 13 * i1) 5, S2))))))))))
set_option maxRecDepth 20000 in
set_option maxHeartbeats 4000000 in
theorem tx_dry_34 {scr : Nat × (Nat → Int32)} {d : Nat} (hd : 7 ≤ d)  (v1 : Int32) (v2 : Int32) (s0 : Int32) (S0 : Mem)  (rv : Int32) (SR : Mem) (E : fx_dry_34 v1 v2 s0 S0 = some (rv, SR)) : XG scr d 76 34 [(0, .inr (some (some 0))), (1, .inl v1), (2, .inl v2)] [.inl s0] S0 (some (.inl rv)) SR := by
  unfold fx_dry_34 at E
  refine g_istore (L2 := [(3, .inl s0), (0, .inr (some (some 0))), (1, .inl v1), (2, .inl v2)]) rfl rfl ?_
  refine g_iload rfl rfl ?_
  obtain ⟨x1, h1, E⟩ := ob E
  refine g_invS1 (dc := 0) rfl (by omega) (Nat.le_of_ble_eq_true rfl) (fun d hd => tx_isSteps hd v1 S0 _ h1) ?_
  rcases xif E with ⟨h2, E⟩ | ⟨h2, E⟩
  · refine g_ifeq_t rfl h2 ?_
    refine g_push rfl ?_
    obtain ⟨rfl, rfl⟩ := so2 E
    exact g_iret rfl
  · refine g_ifeq_f rfl h2 ?_
    refine g_iload rfl rfl ?_
    rcases xif E with ⟨h3, E⟩ | ⟨h3, E⟩
    · refine g_ifne_t rfl h3 ?_
      refine g_push rfl ?_
      obtain ⟨rfl, rfl⟩ := so2 E
      exact g_iret rfl
    · refine g_ifne_f rfl h3 ?_
      refine g_aload rfl rfl ?_
      refine g_getR rfl ty_x (fR_7_1 ty_x) ?_
      refine g_aload rfl rfl ?_
      refine g_getR rfl ty_x (fR_7_0 ty_x) ?_
      obtain ⟨S1, h4, E⟩ := ob E
      refine g_inv1 (dc := 2) rfl (by omega) fT_7_1 (Nat.le_of_ble_eq_true rfl) (fun d hd => tw_copyFrom hd 169 1 S0 fT_7_1 fT_7_0 _ h4) ?_
      refine g_aload rfl rfl ?_
      refine g_getR rfl ty_x (fR_7_1 ty_x) ?_
      refine g_iload rfl rfl ?_
      obtain ⟨x2, S2, h5, E⟩ := ob2 E
      refine g_inv1 (dc := 6) rfl (by omega) fT_7_1 (Nat.le_of_ble_eq_true rfl) (fun d hd => tw_makeSteps hd 169 v1 S1 fT_7_1 _ _ h5) ?_
      refine g_istore (L2 := [(4, .inl x2), (3, .inl s0), (0, .inr (some (some 0))), (1, .inl v1), (2, .inl v2)]) rfl rfl ?_
      refine g_iload rfl rfl ?_
      rcases xif E with ⟨h6, E⟩ | ⟨h6, E⟩
      · refine g_tsw (u := 108) rfl (by rw [h6]; decide +kernel) ?_
        refine g_iload rfl rfl ?_
        obtain ⟨rfl, rfl⟩ := so2 E
        exact g_iret rfl
      · rcases xif E with ⟨h7, E⟩ | ⟨h7, E⟩
        · refine g_tsw (u := 111) rfl (by rw [h7]; decide +kernel) ?_
          refine g_aload rfl rfl ?_
          refine g_getR rfl ty_x (fR_7_1 ty_x) ?_
          refine g_getI rfl fT_7_1 ?_
          obtain ⟨rfl, rfl⟩ := so2 E
          exact g_iret rfl
        · rcases xif E with ⟨h8, E⟩ | ⟨h8, E⟩
          · refine g_tsw (u := 119) rfl (by rw [h8]; decide +kernel) ?_
            refine g_aload rfl rfl ?_
            refine g_getR rfl ty_x (fR_7_1 ty_x) ?_
            obtain ⟨x3, h9, E⟩ := ob E
            refine g_inv0 (dc := 0) rfl (by omega) fT_7_1 (Nat.le_of_ble_eq_true rfl) (fun d hd => tw_liveBits hd 169 S2 fT_7_1 _ h9) ?_
            obtain ⟨rfl, rfl⟩ := so2 E
            exact g_iret rfl
          · rcases xif E with ⟨h10, E⟩ | ⟨h10, E⟩
            · refine g_tsw (u := 127) rfl (by rw [h10]; decide +kernel) ?_
              refine g_aload rfl rfl ?_
              refine g_getR rfl ty_x (fR_7_1 ty_x) ?_
              refine g_getI rfl fT_7_1 ?_
              obtain ⟨rfl, rfl⟩ := so2 E
              exact g_iret rfl
            · rcases xif E with ⟨h11, E⟩ | ⟨h11, E⟩
              · refine g_tsw (u := 135) rfl (by rw [h11]; decide +kernel) ?_
                refine g_aload rfl rfl ?_
                refine g_getR rfl ty_x (fR_7_1 ty_x) ?_
                refine g_getI rfl fT_7_1 ?_
                obtain ⟨rfl, rfl⟩ := so2 E
                exact g_iret rfl
              · rcases xif E with ⟨h12, E⟩ | ⟨h12, E⟩
                · refine g_tsw (u := 143) rfl (by rw [h12]; decide +kernel) ?_
                  refine g_aload rfl rfl ?_
                  refine g_getR rfl ty_x (fR_7_1 ty_x) ?_
                  refine g_getI rfl fT_7_1 ?_
                  obtain ⟨rfl, rfl⟩ := so2 E
                  exact g_iret rfl
                · refine g_tsw (u := 151) rfl (tsw_d (sw_def (n := 5) rfl _ (by decide +kernel) (fc h6 (fc h7 (fc h8 (fc h10 (fc h11 (fc h12 fn)))))))) ?_
                  refine g_aload rfl rfl ?_
                  refine g_getR rfl ty_x (fR_7_1 ty_x) ?_
                  refine g_iload rfl rfl ?_
                  refine g_push rfl ?_
                  refine g_isub rfl ?_
                  obtain ⟨x4, h13, E⟩ := ob E
                  refine g_inv1 (dc := 0) rfl (by omega) fT_7_1 (Nat.le_of_ble_eq_true rfl) (fun d hd => tw_isActor hd 169 (v2 - 10) S2 fT_7_1 _ h13) ?_
                  rcases xif E with ⟨h14, E⟩ | ⟨h14, E⟩
                  · refine g_ifeq_t rfl h14 ?_
                    refine g_push rfl ?_
                    obtain ⟨rfl, rfl⟩ := so2 E
                    exact g_iret rfl
                  · refine g_ifeq_f rfl h14 ?_
                    refine g_aload rfl rfl ?_
                    refine g_getR rfl ty_x (fR_7_1 ty_x) ?_
                    refine g_getR rfl fT_7_1 (fR_6_0 fT_7_1) ?_
                    refine g_iload rfl rfl ?_
                    refine g_push rfl ?_
                    refine g_isub rfl ?_
                    obtain ⟨i1, h15, E⟩ := ob E
                    refine g_aald rfl (eK_a _ fT_7_1.1 fT_7_1.2).1.1 (eK_a _ fT_7_1.1 fT_7_1.2).1.2 (by decide) h15 (rA_a fT_7_1 h15) ?_
                    refine g_getI rfl (eT_a fT_7_1 h15) ?_
                    refine g_goto rfl ?_
                    obtain ⟨rfl, rfl⟩ := so2 E
                    exact g_iret rfl
def fx_dry (v1 : Int32) (v2 : Int32) (S0 : Mem) : Option (Int32 × Mem) := if v2 < 0 then (if v2 < 10 then (fx_dry_34 v1 v2 0 S0) else ((fw_isActor 1 (v2 - 10) S0).bind fun x1 => if x1 = 0 then (fx_dry_34 v1 v2 0 S0) else (fx_dry_34 v1 v2 1 S0))) else (if v2 ≤ 5 then (fx_dry_34 v1 v2 1 S0) else (if v2 < 10 then (fx_dry_34 v1 v2 0 S0) else ((fw_isActor 1 (v2 - 10) S0).bind fun x2 => if x2 = 0 then (fx_dry_34 v1 v2 0 S0) else (fx_dry_34 v1 v2 1 S0))))
set_option maxRecDepth 20000 in
set_option maxHeartbeats 4000000 in
theorem tx_dry {scr : Nat × (Nat → Int32)} {d : Nat} (hd : 7 ≤ d) (v1 : Int32) (v2 : Int32) (S0 : Mem)  (rv : Int32) (SR : Mem) (E : fx_dry  v1 v2 S0 = some (rv, SR)) : XG scr d 76 0 [(0, .inr (some (some 0))), (1, .inl v1), (2, .inl v2)] [] S0 (some (.inl rv)) SR := by
  unfold fx_dry at E
  refine g_iload rfl rfl ?_
  rcases xif E with ⟨h1, E⟩ | ⟨h1, E⟩
  · refine g_iflt_t rfl h1 ?_
    refine g_iload rfl rfl ?_
    refine g_push rfl ?_
    rcases xif E with ⟨h2, E⟩ | ⟨h2, E⟩
    · refine g_iclt_t rfl h2 ?_
      refine g_push rfl ?_
      exact g_loc (lsub_cons rfl (lsub_cons rfl (lsub_cons rfl lsub_nil))) (tx_dry_34 hd v1 v2 0 S0 _ _ E)
    · refine g_iclt_f rfl h2 ?_
      refine g_aload rfl rfl ?_
      refine g_getR rfl ty_x (fR_7_0 ty_x) ?_
      refine g_iload rfl rfl ?_
      refine g_push rfl ?_
      refine g_isub rfl ?_
      obtain ⟨x1, h3, E⟩ := ob E
      refine g_inv1 (dc := 0) rfl (by omega) fT_7_0 (Nat.le_of_ble_eq_true rfl) (fun d hd => tw_isActor hd 1 (v2 - 10) S0 fT_7_0 _ h3) ?_
      rcases xif E with ⟨h4, E⟩ | ⟨h4, E⟩
      · refine g_ifeq_t rfl h4 ?_
        refine g_push rfl ?_
        exact g_loc (lsub_cons rfl (lsub_cons rfl (lsub_cons rfl lsub_nil))) (tx_dry_34 hd v1 v2 0 S0 _ _ E)
      · refine g_ifeq_f rfl h4 ?_
        refine g_push rfl ?_
        refine g_goto rfl ?_
        exact g_loc (lsub_cons rfl (lsub_cons rfl (lsub_cons rfl lsub_nil))) (tx_dry_34 hd v1 v2 1 S0 _ _ E)
  · refine g_iflt_f rfl h1 ?_
    refine g_iload rfl rfl ?_
    refine g_push rfl ?_
    rcases xif E with ⟨h5, E⟩ | ⟨h5, E⟩
    · refine g_icle_t rfl h5 ?_
      refine g_push rfl ?_
      refine g_goto rfl ?_
      exact g_loc (lsub_cons rfl (lsub_cons rfl (lsub_cons rfl lsub_nil))) (tx_dry_34 hd v1 v2 1 S0 _ _ E)
    · refine g_icle_f rfl h5 ?_
      refine g_iload rfl rfl ?_
      refine g_push rfl ?_
      rcases xif E with ⟨h6, E⟩ | ⟨h6, E⟩
      · refine g_iclt_t rfl h6 ?_
        refine g_push rfl ?_
        exact g_loc (lsub_cons rfl (lsub_cons rfl (lsub_cons rfl lsub_nil))) (tx_dry_34 hd v1 v2 0 S0 _ _ E)
      · refine g_iclt_f rfl h6 ?_
        refine g_aload rfl rfl ?_
        refine g_getR rfl ty_x (fR_7_0 ty_x) ?_
        refine g_iload rfl rfl ?_
        refine g_push rfl ?_
        refine g_isub rfl ?_
        obtain ⟨x2, h7, E⟩ := ob E
        refine g_inv1 (dc := 0) rfl (by omega) fT_7_0 (Nat.le_of_ble_eq_true rfl) (fun d hd => tw_isActor hd 1 (v2 - 10) S0 fT_7_0 _ h7) ?_
        rcases xif E with ⟨h8, E⟩ | ⟨h8, E⟩
        · refine g_ifeq_t rfl h8 ?_
          refine g_push rfl ?_
          exact g_loc (lsub_cons rfl (lsub_cons rfl (lsub_cons rfl lsub_nil))) (tx_dry_34 hd v1 v2 0 S0 _ _ E)
        · refine g_ifeq_f rfl h8 ?_
          refine g_push rfl ?_
          refine g_goto rfl ?_
          exact g_loc (lsub_cons rfl (lsub_cons rfl (lsub_cons rfl lsub_nil))) (tx_dry_34 hd v1 v2 1 S0 _ _ E)
def fx_ended  (S0 : Mem) : Option Int32 := some (S0 1 10)
set_option maxRecDepth 20000 in
set_option maxHeartbeats 4000000 in
theorem tx_ended {scr : Nat × (Nat → Int32)} {d : Nat} (hd : 0 ≤ d)  (S0 : Mem)  (rv : Int32) (E : fx_ended   S0 = some rv) : XG scr d 77 0 [(0, .inr (some (some 0)))] [] S0 (some (.inl rv)) S0 := by
  unfold fx_ended at E
  refine g_aload rfl rfl ?_
  refine g_getR rfl ty_x (fR_7_0 ty_x) ?_
  refine g_getI rfl fT_7_0 ?_
  obtain rfl := so1 E
  exact g_iret rfl
def fx_feed (v1 : Int32) (S0 : Mem) : Option (Int32 × Mem) := if v1 < 0 then (some ((-1), S0)) else (if v1 ≤ 255 then (bd (fn_add 674 v1 S0) fun x1 S1 => if x1 = 0 then (some ((-3), S1)) else (some (S1 674 1, S1))) else (some ((-1), S0)))
set_option maxRecDepth 20000 in
set_option maxHeartbeats 4000000 in
theorem tx_feed {scr : Nat × (Nat → Int32)} {d : Nat} (hd : 1 ≤ d) (v1 : Int32) (S0 : Mem)  (rv : Int32) (SR : Mem) (E : fx_feed  v1 S0 = some (rv, SR)) : XG scr d 78 0 [(0, .inr (some (some 0))), (1, .inl v1)] [] S0 (some (.inl rv)) SR := by
  unfold fx_feed at E
  refine g_iload rfl rfl ?_
  rcases xif E with ⟨h1, E⟩ | ⟨h1, E⟩
  · refine g_iflt_t rfl h1 ?_
    refine g_push rfl ?_
    obtain ⟨rfl, rfl⟩ := so2 E
    exact g_iret rfl
  · refine g_iflt_f rfl h1 ?_
    refine g_iload rfl rfl ?_
    refine g_push rfl ?_
    rcases xif E with ⟨h2, E⟩ | ⟨h2, E⟩
    · refine g_icle_t rfl h2 ?_
      refine g_aload rfl rfl ?_
      refine g_getR rfl ty_x (fR_7_4 ty_x) ?_
      refine g_getR rfl fT_7_4 (fR_4_0 fT_7_4) ?_
      refine g_iload rfl rfl ?_
      obtain ⟨x1, S1, h3, E⟩ := ob2 E
      refine g_inv1 (dc := 0) rfl (by omega) (fT_4_0 fT_7_4) (Nat.le_of_ble_eq_true rfl) (fun d hd => tn_add hd 674 v1 S0 (fT_4_0 fT_7_4) _ _ h3) ?_
      rcases xif E with ⟨h4, E⟩ | ⟨h4, E⟩
      · refine g_ifeq_t rfl h4 ?_
        refine g_push rfl ?_
        obtain ⟨rfl, rfl⟩ := so2 E
        exact g_iret rfl
      · refine g_ifeq_f rfl h4 ?_
        refine g_aload rfl rfl ?_
        refine g_getR rfl ty_x (fR_7_4 ty_x) ?_
        refine g_getR rfl fT_7_4 (fR_4_0 fT_7_4) ?_
        refine g_getI rfl (fT_4_0 fT_7_4) ?_
        refine g_goto rfl ?_
        obtain ⟨rfl, rfl⟩ := so2 E
        exact g_iret rfl
    · refine g_icle_f rfl h2 ?_
      refine g_push rfl ?_
      obtain ⟨rfl, rfl⟩ := so2 E
      exact g_iret rfl
def fx_first_21b (k21 : Int32 → Mem → Option (Int32 × Mem)) (v1 : Int32) (S0 : Mem) : Option (Int32 × Mem) := if 200 < v1 then (some ((-2), S0)) else (bd (fw_step 169 S0) fun x1 S1 => if x1 = 0 then (some ((-2), S1)) else (if (S1 169 11) = 0 then (k21 (v1 + 1) S1) else (some (v1, S1))))
set_option maxRecDepth 20000 in
set_option maxHeartbeats 4000000 in
theorem tx_first_21b {scr : Nat × (Nat → Int32)} {d : Nat} (hd : 6 ≤ d) {k21 : Int32 → Mem → Option (Int32 × Mem)} (hk21 : ∀ (v1 : Int32) (S0 : Mem), ∀ (rv : Int32) (SR : Mem), k21 v1 S0 = some (rv, SR) → XG scr d 79 21 [(0, .inr (some (some 0))), (1, .inl v1)] [] S0 (some (.inl rv)) SR) (v1 : Int32) (S0 : Mem)  (rv : Int32) (SR : Mem) (E : fx_first_21b k21 v1 S0 = some (rv, SR)) : XG scr d 79 21 [(0, .inr (some (some 0))), (1, .inl v1)] [] S0 (some (.inl rv)) SR := by
  unfold fx_first_21b at E
  refine g_iload rfl rfl ?_
  refine g_push rfl ?_
  rcases xif E with ⟨h1, E⟩ | ⟨h1, E⟩
  · refine g_icgt_t rfl h1 ?_
    refine g_push rfl ?_
    obtain ⟨rfl, rfl⟩ := so2 E
    exact g_iret rfl
  · refine g_icgt_f rfl h1 ?_
    refine g_aload rfl rfl ?_
    refine g_getR rfl ty_x (fR_7_1 ty_x) ?_
    obtain ⟨x1, S1, h2, E⟩ := ob2 E
    refine g_inv0 (dc := 5) rfl (by omega) fT_7_1 (Nat.le_of_ble_eq_true rfl) (fun d hd => tw_step hd 169 S0 fT_7_1 _ _ h2) ?_
    rcases xif E with ⟨h3, E⟩ | ⟨h3, E⟩
    · refine g_ifne_t rfl h3 ?_
      refine g_push rfl ?_
      obtain ⟨rfl, rfl⟩ := so2 E
      exact g_iret rfl
    · refine g_ifne_f rfl h3 ?_
      refine g_aload rfl rfl ?_
      refine g_getR rfl ty_x (fR_7_1 ty_x) ?_
      refine g_getI rfl fT_7_1 ?_
      rcases xif E with ⟨h4, E⟩ | ⟨h4, E⟩
      · refine g_ifeq_t rfl h4 ?_
        refine g_iinc (L2 := [(1, .inl (v1 + 1)), (0, .inr (some (some 0)))]) rfl rfl rfl ?_
        refine g_goto rfl ?_
        exact g_loc (lsub_cons rfl (lsub_cons rfl lsub_nil)) (hk21 (v1 + 1) S1 _ _ E)
      · refine g_ifeq_f rfl h4 ?_
        refine g_iload rfl rfl ?_
        obtain ⟨rfl, rfl⟩ := so2 E
        exact g_iret rfl
def fx_first_21  : Nat → Int32 → Mem → Option (Int32 × Mem)
  | 0 => fun _ _ => none
  | n + 1 => fx_first_21b  (fx_first_21  n)
set_option maxRecDepth 20000 in
set_option maxHeartbeats 4000000 in
theorem tx_first_21 {scr : Nat × (Nat → Int32)} {d : Nat} (hd : 6 ≤ d)  : ∀ (n : Nat) (v1 : Int32) (S0 : Mem), ∀ (rv : Int32) (SR : Mem), fx_first_21  n v1 S0 = some (rv, SR) → XG scr d 79 21 [(0, .inr (some (some 0))), (1, .inl v1)] [] S0 (some (.inl rv)) SR
  | 0, v1, S0, rv, SR, E => nn E
  | n + 1, v1, S0, rv, SR, E => tx_first_21b hd  (tx_first_21 hd  n) v1 S0  rv SR E
def fx_first  (S0 : Mem) : Option (Int32 × Mem) := (fw_copyFrom 169 1 S0).bind fun S1 => (some (up2 S1 169 11 0)).bind fun S2 => fx_first_21 LF 1 S2
set_option maxRecDepth 20000 in
set_option maxHeartbeats 4000000 in
theorem tx_first {scr : Nat × (Nat → Int32)} {d : Nat} (hd : 6 ≤ d)  (S0 : Mem)  (rv : Int32) (SR : Mem) (E : fx_first   S0 = some (rv, SR)) : XG scr d 79 0 [(0, .inr (some (some 0)))] [] S0 (some (.inl rv)) SR := by
  unfold fx_first at E
  refine g_aload rfl rfl ?_
  refine g_getR rfl ty_x (fR_7_1 ty_x) ?_
  refine g_aload rfl rfl ?_
  refine g_getR rfl ty_x (fR_7_0 ty_x) ?_
  obtain ⟨S1, h1, E⟩ := ob E
  refine g_inv1 (dc := 2) rfl (by omega) fT_7_1 (Nat.le_of_ble_eq_true rfl) (fun d hd => tw_copyFrom hd 169 1 S0 fT_7_1 fT_7_0 _ h1) ?_
  refine g_aload rfl rfl ?_
  refine g_getR rfl ty_x (fR_7_1 ty_x) ?_
  refine g_push rfl ?_
  obtain ⟨S2, hS2, E⟩ := ob E
  refine g_putZ rfl fT_7_1 b00 hS2 ?_
  refine g_push rfl ?_
  refine g_istore (L2 := [(1, .inl 1), (0, .inr (some (some 0)))]) rfl rfl ?_
  exact g_loc (lsub_cons rfl (lsub_cons rfl lsub_nil)) (tx_first_21 hd LF 1 S2 _ _ E)
def fx_firstOtherwise_16b (k16 : Nat → Int32 → Int32 → Int32 → Mem → Option (Int32 × Mem)) (v1 : Nat) (v2 : Int32) (v3 : Int32) (v4 : Int32) (S0 : Mem) : Option (Int32 × Mem) := if 200 ≤ v4 then (if v2 ≤ v3 then (some ((-2), S0)) else (some (v3, S0))) else (if v2 ≤ v3 then (if v2 ≤ v3 then (some ((-2), S0)) else (some (v3, S0))) else (bd (fw_step 169 S0) fun x1 S1 => if x1 = 0 then (some (v3, S1)) else (if (S1 169 7) = (S0 169 7) then (k16 v1 v2 v3 (v4 + 1) S1) else ((fp_firstAt 175 ((S1 175 2) - 1) S1).bind fun x2 => (fn_at v1 (2 * v3) S1).bind fun x3 => if x2 = x3 then ((fp_secondAt 175 ((S1 175 2) - 1) S1).bind fun x4 => (fn_at v1 ((2 * v3) + 1) S1).bind fun x5 => if x4 = x5 then (k16 v1 v2 (v3 + 1) (v4 + 1) S1) else (some (v3, S1))) else (some (v3, S1))))))
set_option maxRecDepth 20000 in
set_option maxHeartbeats 4000000 in
theorem tx_firstOtherwise_16b {scr : Nat × (Nat → Int32)} {d : Nat} (hd : 6 ≤ d) {k16 : Nat → Int32 → Int32 → Int32 → Mem → Option (Int32 × Mem)} (hk16 : ∀ (v1 : Nat) (v2 : Int32) (v3 : Int32) (v4 : Int32) (S0 : Mem), Ty 2 v1 → ∀ (rv : Int32) (SR : Mem), k16 v1 v2 v3 v4 S0 = some (rv, SR) → XG scr d 80 16 [(0, .inr (some (some 0))), (1, .inr (some (some v1))), (2, .inl v2), (3, .inl v3), (4, .inl v4)] [] S0 (some (.inl rv)) SR) (v1 : Nat) (v2 : Int32) (v3 : Int32) (v4 : Int32) (S0 : Mem) (tv1 : Ty 2 v1) (rv : Int32) (SR : Mem) (E : fx_firstOtherwise_16b k16 v1 v2 v3 v4 S0 = some (rv, SR)) : XG scr d 80 16 [(0, .inr (some (some 0))), (1, .inr (some (some v1))), (2, .inl v2), (3, .inl v3), (4, .inl v4)] [] S0 (some (.inl rv)) SR := by
  unfold fx_firstOtherwise_16b at E
  refine g_iload rfl rfl ?_
  refine g_push rfl ?_
  rcases xif E with ⟨h1, E⟩ | ⟨h1, E⟩
  · refine g_icge_t rfl h1 ?_
    refine g_iload rfl rfl ?_
    refine g_iload rfl rfl ?_
    rcases xif E with ⟨h2, E⟩ | ⟨h2, E⟩
    · refine g_icge_t rfl h2 ?_
      refine g_push rfl ?_
      obtain ⟨rfl, rfl⟩ := so2 E
      exact g_iret rfl
    · refine g_icge_f rfl h2 ?_
      refine g_iload rfl rfl ?_
      refine g_goto rfl ?_
      obtain ⟨rfl, rfl⟩ := so2 E
      exact g_iret rfl
  · refine g_icge_f rfl h1 ?_
    refine g_iload rfl rfl ?_
    refine g_iload rfl rfl ?_
    rcases xif E with ⟨h3, E⟩ | ⟨h3, E⟩
    · refine g_icge_t rfl h3 ?_
      refine g_iload rfl rfl ?_
      refine g_iload rfl rfl ?_
      rcases xif E with ⟨h4, E⟩ | ⟨h4, E⟩
      · refine g_icge_t rfl h4 ?_
        refine g_push rfl ?_
        obtain ⟨rfl, rfl⟩ := so2 E
        exact g_iret rfl
      · refine g_icge_f rfl h4 ?_
        refine g_iload rfl rfl ?_
        refine g_goto rfl ?_
        obtain ⟨rfl, rfl⟩ := so2 E
        exact g_iret rfl
    · refine g_icge_f rfl h3 ?_
      refine g_aload rfl rfl ?_
      refine g_getR rfl ty_x (fR_7_1 ty_x) ?_
      refine g_getI rfl fT_7_1 ?_
      refine g_istore (L2 := [(5, .inl (S0 169 7)), (0, .inr (some (some 0))), (1, .inr (some (some v1))), (2, .inl v2), (3, .inl v3), (4, .inl v4)]) rfl rfl ?_
      refine g_aload rfl rfl ?_
      refine g_getR rfl ty_x (fR_7_1 ty_x) ?_
      obtain ⟨x1, S1, h5, E⟩ := ob2 E
      refine g_inv0 (dc := 5) rfl (by omega) fT_7_1 (Nat.le_of_ble_eq_true rfl) (fun d hd => tw_step hd 169 S0 fT_7_1 _ _ h5) ?_
      rcases xif E with ⟨h6, E⟩ | ⟨h6, E⟩
      · refine g_ifne_t rfl h6 ?_
        refine g_iload rfl rfl ?_
        obtain ⟨rfl, rfl⟩ := so2 E
        exact g_iret rfl
      · refine g_ifne_f rfl h6 ?_
        refine g_aload rfl rfl ?_
        refine g_getR rfl ty_x (fR_7_1 ty_x) ?_
        refine g_getI rfl fT_7_1 ?_
        refine g_iload rfl rfl ?_
        rcases xif E with ⟨h7, E⟩ | ⟨h7, E⟩
        · refine g_iceq_t rfl h7 ?_
          refine g_iinc (L2 := [(4, .inl (v4 + 1)), (5, .inl (S0 169 7)), (0, .inr (some (some 0))), (1, .inr (some (some v1))), (2, .inl v2), (3, .inl v3)]) rfl rfl rfl ?_
          refine g_goto rfl ?_
          exact g_loc (lsub_cons rfl (lsub_cons rfl (lsub_cons rfl (lsub_cons rfl (lsub_cons rfl lsub_nil))))) (hk16 v1 v2 v3 (v4 + 1) S1 tv1 _ _ E)
        · refine g_iceq_f rfl h7 ?_
          refine g_aload rfl rfl ?_
          refine g_getR rfl ty_x (fR_7_1 ty_x) ?_
          refine g_getR rfl fT_7_1 (fR_6_2 fT_7_1) ?_
          refine g_getI rfl (fT_6_2 fT_7_1) ?_
          refine g_push rfl ?_
          refine g_isub rfl ?_
          refine g_istore (L2 := [(6, .inl ((S1 175 2) - 1)), (5, .inl (S0 169 7)), (0, .inr (some (some 0))), (1, .inr (some (some v1))), (2, .inl v2), (3, .inl v3), (4, .inl v4)]) rfl rfl ?_
          refine g_aload rfl rfl ?_
          refine g_getR rfl ty_x (fR_7_1 ty_x) ?_
          refine g_getR rfl fT_7_1 (fR_6_2 fT_7_1) ?_
          refine g_iload rfl rfl ?_
          obtain ⟨x2, h8, E⟩ := ob E
          refine g_inv1 (dc := 0) rfl (by omega) (fT_6_2 fT_7_1) (Nat.le_of_ble_eq_true rfl) (fun d hd => tp_firstAt hd 175 ((S1 175 2) - 1) S1 (fT_6_2 fT_7_1) _ h8) ?_
          refine g_aload rfl rfl ?_
          refine g_push rfl ?_
          refine g_iload rfl rfl ?_
          refine g_imul rfl ?_
          obtain ⟨x3, h9, E⟩ := ob E
          refine g_inv1 (dc := 0) rfl (by omega) tv1 (Nat.le_of_ble_eq_true rfl) (fun d hd => tn_at hd v1 (2 * v3) S1 tv1 _ h9) ?_
          rcases xif E with ⟨h10, E⟩ | ⟨h10, E⟩
          · refine g_icne_t rfl h10 ?_
            refine g_aload rfl rfl ?_
            refine g_getR rfl ty_x (fR_7_1 ty_x) ?_
            refine g_getR rfl fT_7_1 (fR_6_2 fT_7_1) ?_
            refine g_iload rfl rfl ?_
            obtain ⟨x4, h11, E⟩ := ob E
            refine g_inv1 (dc := 0) rfl (by omega) (fT_6_2 fT_7_1) (Nat.le_of_ble_eq_true rfl) (fun d hd => tp_secondAt hd 175 ((S1 175 2) - 1) S1 (fT_6_2 fT_7_1) _ h11) ?_
            refine g_aload rfl rfl ?_
            refine g_push rfl ?_
            refine g_iload rfl rfl ?_
            refine g_imul rfl ?_
            refine g_push rfl ?_
            refine g_iadd rfl ?_
            obtain ⟨x5, h12, E⟩ := ob E
            refine g_inv1 (dc := 0) rfl (by omega) tv1 (Nat.le_of_ble_eq_true rfl) (fun d hd => tn_at hd v1 ((2 * v3) + 1) S1 tv1 _ h12) ?_
            rcases xif E with ⟨h13, E⟩ | ⟨h13, E⟩
            · refine g_iceq_t rfl h13 ?_
              refine g_iinc (L2 := [(3, .inl (v3 + 1)), (6, .inl ((S1 175 2) - 1)), (5, .inl (S0 169 7)), (0, .inr (some (some 0))), (1, .inr (some (some v1))), (2, .inl v2), (4, .inl v4)]) rfl rfl rfl ?_
              refine g_iinc (L2 := [(4, .inl (v4 + 1)), (3, .inl (v3 + 1)), (6, .inl ((S1 175 2) - 1)), (5, .inl (S0 169 7)), (0, .inr (some (some 0))), (1, .inr (some (some v1))), (2, .inl v2)]) rfl rfl rfl ?_
              refine g_goto rfl ?_
              exact g_loc (lsub_cons rfl (lsub_cons rfl (lsub_cons rfl (lsub_cons rfl (lsub_cons rfl lsub_nil))))) (hk16 v1 v2 (v3 + 1) (v4 + 1) S1 tv1 _ _ E)
            · refine g_iceq_f rfl h13 ?_
              refine g_iload rfl rfl ?_
              obtain ⟨rfl, rfl⟩ := so2 E
              exact g_iret rfl
          · refine g_icne_f rfl h10 ?_
            refine g_iload rfl rfl ?_
            obtain ⟨rfl, rfl⟩ := so2 E
            exact g_iret rfl
def fx_firstOtherwise_16  : Nat → Nat → Int32 → Int32 → Int32 → Mem → Option (Int32 × Mem)
  | 0 => fun _ _ _ _ _ => none
  | n + 1 => fx_firstOtherwise_16b  (fx_firstOtherwise_16  n)
set_option maxRecDepth 20000 in
set_option maxHeartbeats 4000000 in
theorem tx_firstOtherwise_16 {scr : Nat × (Nat → Int32)} {d : Nat} (hd : 6 ≤ d)  : ∀ (n : Nat) (v1 : Nat) (v2 : Int32) (v3 : Int32) (v4 : Int32) (S0 : Mem), Ty 2 v1 → ∀ (rv : Int32) (SR : Mem), fx_firstOtherwise_16  n v1 v2 v3 v4 S0 = some (rv, SR) → XG scr d 80 16 [(0, .inr (some (some 0))), (1, .inr (some (some v1))), (2, .inl v2), (3, .inl v3), (4, .inl v4)] [] S0 (some (.inl rv)) SR
  | 0, v1, v2, v3, v4, S0, tv1, rv, SR, E => nn E
  | n + 1, v1, v2, v3, v4, S0, tv1, rv, SR, E => tx_firstOtherwise_16b hd  (tx_firstOtherwise_16 hd  n) v1 v2 v3 v4 S0 tv1 rv SR E
def fx_firstOtherwise (v1 : Nat) (v2 : Int32) (S0 : Mem) : Option (Int32 × Mem) := (fw_copyFrom 169 1 S0).bind fun S1 => fx_firstOtherwise_16 LF v1 v2 0 0 S1
set_option maxRecDepth 20000 in
set_option maxHeartbeats 4000000 in
theorem tx_firstOtherwise {scr : Nat × (Nat → Int32)} {d : Nat} (hd : 6 ≤ d) (v1 : Nat) (v2 : Int32) (S0 : Mem) (tv1 : Ty 2 v1) (rv : Int32) (SR : Mem) (E : fx_firstOtherwise  v1 v2 S0 = some (rv, SR)) : XG scr d 80 0 [(0, .inr (some (some 0))), (1, .inr (some (some v1))), (2, .inl v2)] [] S0 (some (.inl rv)) SR := by
  unfold fx_firstOtherwise at E
  refine g_aload rfl rfl ?_
  refine g_getR rfl ty_x (fR_7_1 ty_x) ?_
  refine g_aload rfl rfl ?_
  refine g_getR rfl ty_x (fR_7_0 ty_x) ?_
  obtain ⟨S1, h1, E⟩ := ob E
  refine g_inv1 (dc := 2) rfl (by omega) fT_7_1 (Nat.le_of_ble_eq_true rfl) (fun d hd => tw_copyFrom hd 169 1 S0 fT_7_1 fT_7_0 _ h1) ?_
  refine g_push rfl ?_
  refine g_istore (L2 := [(3, .inl 0), (0, .inr (some (some 0))), (1, .inr (some (some v1))), (2, .inl v2)]) rfl rfl ?_
  refine g_push rfl ?_
  refine g_istore (L2 := [(4, .inl 0), (3, .inl 0), (0, .inr (some (some 0))), (1, .inr (some (some v1))), (2, .inl v2)]) rfl rfl ?_
  exact g_loc (lsub_cons rfl (lsub_cons rfl (lsub_cons rfl (lsub_cons rfl (lsub_cons rfl lsub_nil))))) (tx_firstOtherwise_16 hd LF v1 v2 0 0 S1 tv1 _ _ E)
def fx_isHandle (v0 : Int32) (S0 : Mem) : Option Int32 := if v0 < 0 then (some 0) else (if 6 ≤ v0 then (some 0) else (some 1))
set_option maxRecDepth 20000 in
set_option maxHeartbeats 4000000 in
theorem tx_isHandle {scr : Nat × (Nat → Int32)} {d : Nat} (hd : 0 ≤ d) (v0 : Int32) (S0 : Mem)  (rv : Int32) (E : fx_isHandle  v0 S0 = some rv) : XG scr d 84 0 [(0, .inl v0)] [] S0 (some (.inl rv)) S0 := by
  unfold fx_isHandle at E
  refine g_iload rfl rfl ?_
  rcases xif E with ⟨h1, E⟩ | ⟨h1, E⟩
  · refine g_iflt_t rfl h1 ?_
    refine g_push rfl ?_
    obtain rfl := so1 E
    exact g_zret rfl b00
  · refine g_iflt_f rfl h1 ?_
    refine g_iload rfl rfl ?_
    refine g_push rfl ?_
    rcases xif E with ⟨h2, E⟩ | ⟨h2, E⟩
    · refine g_icge_t rfl h2 ?_
      refine g_push rfl ?_
      obtain rfl := so1 E
      exact g_zret rfl b00
    · refine g_icge_f rfl h2 ?_
      refine g_push rfl ?_
      refine g_goto rfl ?_
      obtain rfl := so1 E
      exact g_zret rfl b01
def fx_hold_25  (v1 : Int32) (v2 : Int32) (S0 : Mem) : Option (Int32 × Mem) := (ix v1 6).bind fun i1 => if v2 = ((-1)) then ((some (up2 S0 (679 + 3 * i1) 1 0)).bind fun S1 => (ix v1 6).bind fun i2 => (some (up2 S1 (679 + 3 * i2) 2 v2)).bind fun S2 => some (1, S2)) else ((some (up2 S0 (679 + 3 * i1) 1 1)).bind fun S3 => (ix v1 6).bind fun i3 => (some (up2 S3 (679 + 3 * i3) 2 v2)).bind fun S4 => some (1, S4))
set_option maxRecDepth 20000 in
set_option maxHeartbeats 4000000 in
theorem tx_hold_25 {scr : Nat × (Nat → Int32)} {d : Nat} (hd : 1 ≤ d)  (v1 : Int32) (v2 : Int32) (S0 : Mem)  (rv : Int32) (SR : Mem) (E : fx_hold_25 v1 v2 S0 = some (rv, SR)) : XG scr d 81 25 [(0, .inr (some (some 0))), (1, .inl v1), (2, .inl v2)] [] S0 (some (.inl rv)) SR := by
  unfold fx_hold_25 at E
  refine g_aload rfl rfl ?_
  refine g_getR rfl ty_x (fR_7_5 ty_x) ?_
  refine g_iload rfl rfl ?_
  obtain ⟨i1, h1, E⟩ := ob E
  refine g_aald rfl (by decide) (show K0 678 = .inr (2, 6) by decide +kernel) (by decide) h1 (rA_h h1) ?_
  refine g_iload rfl rfl ?_
  refine g_push rfl ?_
  rcases xif E with ⟨h2, E⟩ | ⟨h2, E⟩
  · refine g_icne_t rfl h2 ?_
    refine g_push rfl ?_
    refine g_goto rfl ?_
    obtain ⟨S1, hS1, E⟩ := ob E
    refine g_putI rfl (eT_h h1) hS1 ?_
    refine g_aload rfl rfl ?_
    refine g_getR rfl ty_x (fR_7_5 ty_x) ?_
    refine g_iload rfl rfl ?_
    obtain ⟨i2, h3, E⟩ := ob E
    refine g_aald rfl (by decide) (show K0 678 = .inr (2, 6) by decide +kernel) (by decide) h3 (rA_h h3) ?_
    refine g_iload rfl rfl ?_
    obtain ⟨S2, hS2, E⟩ := ob E
    refine g_putI rfl (eT_h h3) hS2 ?_
    refine g_push rfl ?_
    obtain ⟨rfl, rfl⟩ := so2 E
    exact g_iret rfl
  · refine g_icne_f rfl h2 ?_
    refine g_push rfl ?_
    obtain ⟨S3, hS3, E⟩ := ob E
    refine g_putI rfl (eT_h h1) hS3 ?_
    refine g_aload rfl rfl ?_
    refine g_getR rfl ty_x (fR_7_5 ty_x) ?_
    refine g_iload rfl rfl ?_
    obtain ⟨i3, h4, E⟩ := ob E
    refine g_aald rfl (by decide) (show K0 678 = .inr (2, 6) by decide +kernel) (by decide) h4 (rA_h h4) ?_
    refine g_iload rfl rfl ?_
    obtain ⟨S4, hS4, E⟩ := ob E
    refine g_putI rfl (eT_h h4) hS4 ?_
    refine g_push rfl ?_
    obtain ⟨rfl, rfl⟩ := so2 E
    exact g_iret rfl
def fx_hold (v1 : Int32) (v2 : Int32) (S0 : Mem) : Option (Int32 × Mem) := (fx_isHandle v1 S0).bind fun x1 => if x1 = 0 then (some ((-1), S0)) else (if v2 = ((-1)) then (fx_hold_25 v1 v2 S0) else ((fw_isActor 1 v2 S0).bind fun x2 => if x2 = 0 then (some ((-1), S0)) else (fx_hold_25 v1 v2 S0)))
set_option maxRecDepth 20000 in
set_option maxHeartbeats 4000000 in
theorem tx_hold {scr : Nat × (Nat → Int32)} {d : Nat} (hd : 1 ≤ d) (v1 : Int32) (v2 : Int32) (S0 : Mem)  (rv : Int32) (SR : Mem) (E : fx_hold  v1 v2 S0 = some (rv, SR)) : XG scr d 81 0 [(0, .inr (some (some 0))), (1, .inl v1), (2, .inl v2)] [] S0 (some (.inl rv)) SR := by
  unfold fx_hold at E
  refine g_iload rfl rfl ?_
  obtain ⟨x1, h1, E⟩ := ob E
  refine g_invS1 (dc := 0) rfl (by omega) (Nat.le_of_ble_eq_true rfl) (fun d hd => tx_isHandle hd v1 S0 _ h1) ?_
  rcases xif E with ⟨h2, E⟩ | ⟨h2, E⟩
  · refine g_ifeq_t rfl h2 ?_
    refine g_push rfl ?_
    obtain ⟨rfl, rfl⟩ := so2 E
    exact g_iret rfl
  · refine g_ifeq_f rfl h2 ?_
    refine g_iload rfl rfl ?_
    refine g_push rfl ?_
    rcases xif E with ⟨h3, E⟩ | ⟨h3, E⟩
    · refine g_iceq_t rfl h3 ?_
      exact g_loc (lsub_cons rfl (lsub_cons rfl (lsub_cons rfl lsub_nil))) (tx_hold_25 hd v1 v2 S0 _ _ E)
    · refine g_iceq_f rfl h3 ?_
      refine g_aload rfl rfl ?_
      refine g_getR rfl ty_x (fR_7_0 ty_x) ?_
      refine g_iload rfl rfl ?_
      obtain ⟨x2, h4, E⟩ := ob E
      refine g_inv1 (dc := 0) rfl (by omega) fT_7_0 (Nat.le_of_ble_eq_true rfl) (fun d hd => tw_isActor hd 1 v2 S0 fT_7_0 _ h4) ?_
      rcases xif E with ⟨h5, E⟩ | ⟨h5, E⟩
      · refine g_ifne_t rfl h5 ?_
        refine g_push rfl ?_
        obtain ⟨rfl, rfl⟩ := so2 E
        exact g_iret rfl
      · refine g_ifne_f rfl h5 ?_
        exact g_loc (lsub_cons rfl (lsub_cons rfl (lsub_cons rfl lsub_nil))) (tx_hold_25 hd v1 v2 S0 _ _ E)
def fx_image  (S0 : Mem) : Option (Int32 × Mem) := (fw_copyFrom 337 1 S0).bind fun S1 => (some (up2 S1 0 6 1)).bind fun S2 => some (S2 337 4, S2)
set_option maxRecDepth 20000 in
set_option maxHeartbeats 4000000 in
theorem tx_image {scr : Nat × (Nat → Int32)} {d : Nat} (hd : 3 ≤ d)  (S0 : Mem)  (rv : Int32) (SR : Mem) (E : fx_image   S0 = some (rv, SR)) : XG scr d 82 0 [(0, .inr (some (some 0)))] [] S0 (some (.inl rv)) SR := by
  unfold fx_image at E
  refine g_aload rfl rfl ?_
  refine g_getR rfl ty_x (fR_7_2 ty_x) ?_
  refine g_aload rfl rfl ?_
  refine g_getR rfl ty_x (fR_7_0 ty_x) ?_
  obtain ⟨S1, h1, E⟩ := ob E
  refine g_inv1 (dc := 2) rfl (by omega) fT_7_2 (Nat.le_of_ble_eq_true rfl) (fun d hd => tw_copyFrom hd 337 1 S0 fT_7_2 fT_7_0 _ h1) ?_
  refine g_aload rfl rfl ?_
  refine g_push rfl ?_
  obtain ⟨S2, hS2, E⟩ := ob E
  refine g_putZ rfl ty_x b01 hS2 ?_
  refine g_aload rfl rfl ?_
  refine g_getR rfl ty_x (fR_7_2 ty_x) ?_
  refine g_getI rfl fT_7_2 ?_
  obtain ⟨rfl, rfl⟩ := so2 E
  exact g_iret rfl
def fx_isNumber (v0 : Int32) (S0 : Mem) : Option Int32 := if v0 < ((-99)) then (some 0) else (if 99 < v0 then (some 0) else (some 1))
set_option maxRecDepth 20000 in
set_option maxHeartbeats 4000000 in
theorem tx_isNumber {scr : Nat × (Nat → Int32)} {d : Nat} (hd : 0 ≤ d) (v0 : Int32) (S0 : Mem)  (rv : Int32) (E : fx_isNumber  v0 S0 = some rv) : XG scr d 85 0 [(0, .inl v0)] [] S0 (some (.inl rv)) S0 := by
  unfold fx_isNumber at E
  refine g_iload rfl rfl ?_
  refine g_push rfl ?_
  rcases xif E with ⟨h1, E⟩ | ⟨h1, E⟩
  · refine g_iclt_t rfl h1 ?_
    refine g_push rfl ?_
    obtain rfl := so1 E
    exact g_zret rfl b00
  · refine g_iclt_f rfl h1 ?_
    refine g_iload rfl rfl ?_
    refine g_push rfl ?_
    rcases xif E with ⟨h2, E⟩ | ⟨h2, E⟩
    · refine g_icgt_t rfl h2 ?_
      refine g_push rfl ?_
      obtain rfl := so1 E
      exact g_zret rfl b00
    · refine g_icgt_f rfl h2 ?_
      refine g_push rfl ?_
      refine g_goto rfl ?_
      obtain rfl := so1 E
      exact g_zret rfl b01
def fx_itemOf (v0 : Nat) (v1 : Int32) (S0 : Mem) : Option Int32 := if 0 ≤ v1 then (if (S0 v0 1) ≤ v1 then (some ((-2))) else ((fn_at v0 v1 S0).bind fun x1 => some x1)) else (some ((-1)))
set_option maxRecDepth 20000 in
set_option maxHeartbeats 4000000 in
theorem tx_itemOf {scr : Nat × (Nat → Int32)} {d : Nat} (hd : 1 ≤ d) (v0 : Nat) (v1 : Int32) (S0 : Mem) (tv0 : Ty 2 v0) (rv : Int32) (E : fx_itemOf  v0 v1 S0 = some rv) : XG scr d 87 0 [(0, .inr (some (some v0))), (1, .inl v1)] [] S0 (some (.inl rv)) S0 := by
  unfold fx_itemOf at E
  refine g_iload rfl rfl ?_
  rcases xif E with ⟨h1, E⟩ | ⟨h1, E⟩
  · refine g_ifge_t rfl h1 ?_
    refine g_iload rfl rfl ?_
    refine g_aload rfl rfl ?_
    refine g_getI rfl tv0 ?_
    rcases xif E with ⟨h2, E⟩ | ⟨h2, E⟩
    · refine g_icge_t rfl h2 ?_
      refine g_push rfl ?_
      obtain rfl := so1 E
      exact g_iret rfl
    · refine g_icge_f rfl h2 ?_
      refine g_aload rfl rfl ?_
      refine g_iload rfl rfl ?_
      obtain ⟨x1, h3, E⟩ := ob E
      refine g_inv1 (dc := 0) rfl (by omega) tv0 (Nat.le_of_ble_eq_true rfl) (fun d hd => tn_at hd v0 v1 S0 tv0 _ h3) ?_
      refine g_goto rfl ?_
      obtain rfl := so1 E
      exact g_iret rfl
  · refine g_ifge_f rfl h1 ?_
    refine g_push rfl ?_
    obtain rfl := so1 E
    exact g_iret rfl
def fx_log (v1 : Int32) (S0 : Mem) : Option Int32 := if 0 ≤ v1 then (if (S0 7 2) ≤ v1 then (some ((-2))) else ((fp_firstAt 7 v1 S0).bind fun x1 => (fp_secondAt 7 v1 S0).bind fun x2 => some (((1000 * x1) + x2) + 300))) else (some ((-1)))
set_option maxRecDepth 20000 in
set_option maxHeartbeats 4000000 in
theorem tx_log {scr : Nat × (Nat → Int32)} {d : Nat} (hd : 1 ≤ d) (v1 : Int32) (S0 : Mem)  (rv : Int32) (E : fx_log  v1 S0 = some rv) : XG scr d 88 0 [(0, .inr (some (some 0))), (1, .inl v1)] [] S0 (some (.inl rv)) S0 := by
  unfold fx_log at E
  refine g_iload rfl rfl ?_
  rcases xif E with ⟨h1, E⟩ | ⟨h1, E⟩
  · refine g_ifge_t rfl h1 ?_
    refine g_aload rfl rfl ?_
    refine g_getR rfl ty_x (fR_7_0 ty_x) ?_
    refine g_getR rfl fT_7_0 (fR_6_2 fT_7_0) ?_
    refine g_astore (L2 := [(2, .inr (some (some 7))), (0, .inr (some (some 0))), (1, .inl v1)]) rfl rfl ?_
    refine g_iload rfl rfl ?_
    refine g_aload rfl rfl ?_
    refine g_getI rfl (fT_6_2 fT_7_0) ?_
    rcases xif E with ⟨h2, E⟩ | ⟨h2, E⟩
    · refine g_icge_t rfl h2 ?_
      refine g_push rfl ?_
      obtain rfl := so1 E
      exact g_iret rfl
    · refine g_icge_f rfl h2 ?_
      refine g_push rfl ?_
      refine g_aload rfl rfl ?_
      refine g_iload rfl rfl ?_
      obtain ⟨x1, h3, E⟩ := ob E
      refine g_inv1 (dc := 0) rfl (by omega) (fT_6_2 fT_7_0) (Nat.le_of_ble_eq_true rfl) (fun d hd => tp_firstAt hd 7 v1 S0 (fT_6_2 fT_7_0) _ h3) ?_
      refine g_imul rfl ?_
      refine g_aload rfl rfl ?_
      refine g_iload rfl rfl ?_
      obtain ⟨x2, h4, E⟩ := ob E
      refine g_inv1 (dc := 0) rfl (by omega) (fT_6_2 fT_7_0) (Nat.le_of_ble_eq_true rfl) (fun d hd => tp_secondAt hd 7 v1 S0 (fT_6_2 fT_7_0) _ h4) ?_
      refine g_iadd rfl ?_
      refine g_push rfl ?_
      refine g_iadd rfl ?_
      refine g_goto rfl ?_
      obtain rfl := so1 E
      exact g_iret rfl
  · refine g_ifge_f rfl h1 ?_
    refine g_push rfl ?_
    obtain rfl := so1 E
    exact g_iret rfl
def fx_message (v1 : Int32) (v2 : Int32) (v3 : Int32) (S0 : Mem) : Option Int32 := (fw_isActor 1 v1 S0).bind fun x1 => if x1 = 0 then (some ((-1))) else (if 0 ≤ v2 then (if v3 = 0 then ((ix v1 12).bind fun i1 => if (S0 (1 + 12 + 13 * i1 + 3) 2) ≤ v2 then (some ((-2))) else ((fp_secondAt (1 + 12 + 13 * i1 + 3) v2 S0).bind fun x2 => some (100 + x2))) else ((ix v1 12).bind fun i2 => if (S0 (1 + 12 + 13 * i2 + 6) 2) ≤ v2 then (some ((-2))) else ((fp_secondAt (1 + 12 + 13 * i2 + 6) v2 S0).bind fun x3 => some (100 + x3)))) else (some ((-1))))
set_option maxRecDepth 20000 in
set_option maxHeartbeats 4000000 in
theorem tx_message {scr : Nat × (Nat → Int32)} {d : Nat} (hd : 1 ≤ d) (v1 : Int32) (v2 : Int32) (v3 : Int32) (S0 : Mem)  (rv : Int32) (E : fx_message  v1 v2 v3 S0 = some rv) : XG scr d 89 0 [(0, .inr (some (some 0))), (1, .inl v1), (2, .inl v2), (3, .inl v3)] [] S0 (some (.inl rv)) S0 := by
  unfold fx_message at E
  refine g_aload rfl rfl ?_
  refine g_getR rfl ty_x (fR_7_0 ty_x) ?_
  refine g_iload rfl rfl ?_
  obtain ⟨x1, h1, E⟩ := ob E
  refine g_inv1 (dc := 0) rfl (by omega) fT_7_0 (Nat.le_of_ble_eq_true rfl) (fun d hd => tw_isActor hd 1 v1 S0 fT_7_0 _ h1) ?_
  rcases xif E with ⟨h2, E⟩ | ⟨h2, E⟩
  · refine g_ifeq_t rfl h2 ?_
    refine g_push rfl ?_
    obtain rfl := so1 E
    exact g_iret rfl
  · refine g_ifeq_f rfl h2 ?_
    refine g_iload rfl rfl ?_
    rcases xif E with ⟨h3, E⟩ | ⟨h3, E⟩
    · refine g_ifge_t rfl h3 ?_
      refine g_iload rfl rfl ?_
      rcases xif E with ⟨h4, E⟩ | ⟨h4, E⟩
      · refine g_ifeq_t rfl h4 ?_
        refine g_aload rfl rfl ?_
        refine g_getR rfl ty_x (fR_7_0 ty_x) ?_
        refine g_getR rfl fT_7_0 (fR_6_0 fT_7_0) ?_
        refine g_iload rfl rfl ?_
        obtain ⟨i1, h5, E⟩ := ob E
        refine g_aald rfl (eK_a _ fT_7_0.1 fT_7_0.2).1.1 (eK_a _ fT_7_0.1 fT_7_0.2).1.2 (by decide) h5 (rA_a fT_7_0 h5) ?_
        refine g_getR rfl (eT_a fT_7_0 h5) (fR_0_8 (eT_a fT_7_0 h5)) ?_
        refine g_astore (L2 := [(4, .inr (some (some (1 + 12 + 13 * i1 + 3)))), (0, .inr (some (some 0))), (1, .inl v1), (2, .inl v2), (3, .inl v3)]) rfl rfl ?_
        refine g_iload rfl rfl ?_
        refine g_aload rfl rfl ?_
        refine g_getI rfl (fT_0_8 (eT_a fT_7_0 h5)) ?_
        rcases xif E with ⟨h6, E⟩ | ⟨h6, E⟩
        · refine g_icge_t rfl h6 ?_
          refine g_push rfl ?_
          obtain rfl := so1 E
          exact g_iret rfl
        · refine g_icge_f rfl h6 ?_
          refine g_push rfl ?_
          refine g_aload rfl rfl ?_
          refine g_iload rfl rfl ?_
          obtain ⟨x2, h7, E⟩ := ob E
          refine g_inv1 (dc := 0) rfl (by omega) (fT_0_8 (eT_a fT_7_0 h5)) (Nat.le_of_ble_eq_true rfl) (fun d hd => tp_secondAt hd (1 + 12 + 13 * i1 + 3) v2 S0 (fT_0_8 (eT_a fT_7_0 h5)) _ h7) ?_
          refine g_iadd rfl ?_
          refine g_goto rfl ?_
          obtain rfl := so1 E
          exact g_iret rfl
      · refine g_ifeq_f rfl h4 ?_
        refine g_aload rfl rfl ?_
        refine g_getR rfl ty_x (fR_7_0 ty_x) ?_
        refine g_getR rfl fT_7_0 (fR_6_0 fT_7_0) ?_
        refine g_iload rfl rfl ?_
        obtain ⟨i2, h8, E⟩ := ob E
        refine g_aald rfl (eK_a _ fT_7_0.1 fT_7_0.2).1.1 (eK_a _ fT_7_0.1 fT_7_0.2).1.2 (by decide) h8 (rA_a fT_7_0 h8) ?_
        refine g_getR rfl (eT_a fT_7_0 h8) (fR_0_9 (eT_a fT_7_0 h8)) ?_
        refine g_goto rfl ?_
        refine g_astore (L2 := [(4, .inr (some (some (1 + 12 + 13 * i2 + 6)))), (0, .inr (some (some 0))), (1, .inl v1), (2, .inl v2), (3, .inl v3)]) rfl rfl ?_
        refine g_iload rfl rfl ?_
        refine g_aload rfl rfl ?_
        refine g_getI rfl (fT_0_9 (eT_a fT_7_0 h8)) ?_
        rcases xif E with ⟨h9, E⟩ | ⟨h9, E⟩
        · refine g_icge_t rfl h9 ?_
          refine g_push rfl ?_
          obtain rfl := so1 E
          exact g_iret rfl
        · refine g_icge_f rfl h9 ?_
          refine g_push rfl ?_
          refine g_aload rfl rfl ?_
          refine g_iload rfl rfl ?_
          obtain ⟨x3, h10, E⟩ := ob E
          refine g_inv1 (dc := 0) rfl (by omega) (fT_0_9 (eT_a fT_7_0 h8)) (Nat.le_of_ble_eq_true rfl) (fun d hd => tp_secondAt hd (1 + 12 + 13 * i2 + 6) v2 S0 (fT_0_9 (eT_a fT_7_0 h8)) _ h10) ?_
          refine g_iadd rfl ?_
          refine g_goto rfl ?_
          obtain rfl := so1 E
          exact g_iret rfl
    · refine g_ifge_f rfl h3 ?_
      refine g_push rfl ?_
      obtain rfl := so1 E
      exact g_iret rfl
def fx_of (v1 : Int32) (v2 : Int32) (S0 : Mem) : Option Int32 := (fw_isActor 1 v1 S0).bind fun x1 => if x1 = 0 then (some ((-1))) else ((ix v1 12).bind fun i1 => if v2 = 0 then (if (S0 (1 + 12 + 13 * i1) 0) = ((-1)) then (some ((-2))) else (some (S0 (1 + 12 + 13 * i1) 0))) else (if v2 = 1 then (some (S0 (1 + 12 + 13 * i1) 1)) else (if v2 = 2 then (some (S0 (1 + 12 + 13 * i1) 2)) else (if v2 = 3 then (some (S0 (1 + 12 + 13 * i1) 3)) else (if v2 = 4 then (some (S0 (1 + 12 + 13 * i1) 4)) else (if v2 = 5 then (if (S0 (1 + 12 + 13 * i1) 6) = 0 then (some 0) else (some 1)) else (if v2 = 6 then ((fn_at (1 + 12 + 13 * i1 + 1) ((S0 (1 + 12 + 13 * i1 + 1) 1) - 1) S0).bind fun x2 => some x2) else (if v2 = 7 then (some (S0 (1 + 12 + 13 * i1 + 1) 1)) else (if v2 = 8 then (some (S0 (1 + 12 + 13 * i1 + 3) 2)) else (if v2 = 9 then (some (S0 (1 + 12 + 13 * i1 + 6) 2)) else (if v2 = 10 then (some (S0 (1 + 12 + 13 * i1 + 9) 1)) else (if v2 = 11 then ((fc_countOf 3 v1 S0).bind fun x3 => some x3) else (if v2 = 12 then ((fn_countFrom (1 + 12 + 13 * i1 + 11) ((S0 1 6) - (S0 (1 + 12 + 13 * i1) 4)) S0).bind fun x4 => some x4) else (if v2 = 13 then ((fw_childBits 1 v1 S0).bind fun x5 => some x5) else (some ((-1)))))))))))))))))
set_option maxRecDepth 20000 in
set_option maxHeartbeats 4000000 in
theorem tx_of {scr : Nat × (Nat → Int32)} {d : Nat} (hd : 1 ≤ d) (v1 : Int32) (v2 : Int32) (S0 : Mem)  (rv : Int32) (E : fx_of  v1 v2 S0 = some rv) : XG scr d 90 0 [(0, .inr (some (some 0))), (1, .inl v1), (2, .inl v2)] [] S0 (some (.inl rv)) S0 := by
  unfold fx_of at E
  refine g_aload rfl rfl ?_
  refine g_getR rfl ty_x (fR_7_0 ty_x) ?_
  refine g_iload rfl rfl ?_
  obtain ⟨x1, h1, E⟩ := ob E
  refine g_inv1 (dc := 0) rfl (by omega) fT_7_0 (Nat.le_of_ble_eq_true rfl) (fun d hd => tw_isActor hd 1 v1 S0 fT_7_0 _ h1) ?_
  rcases xif E with ⟨h2, E⟩ | ⟨h2, E⟩
  · refine g_ifne_t rfl h2 ?_
    refine g_push rfl ?_
    obtain rfl := so1 E
    exact g_iret rfl
  · refine g_ifne_f rfl h2 ?_
    refine g_aload rfl rfl ?_
    refine g_getR rfl ty_x (fR_7_0 ty_x) ?_
    refine g_getR rfl fT_7_0 (fR_6_0 fT_7_0) ?_
    refine g_iload rfl rfl ?_
    obtain ⟨i1, h3, E⟩ := ob E
    refine g_aald rfl (eK_a _ fT_7_0.1 fT_7_0.2).1.1 (eK_a _ fT_7_0.1 fT_7_0.2).1.2 (by decide) h3 (rA_a fT_7_0 h3) ?_
    refine g_astore (L2 := [(3, .inr (some (some (1 + 12 + 13 * i1)))), (0, .inr (some (some 0))), (1, .inl v1), (2, .inl v2)]) rfl rfl ?_
    refine g_iload rfl rfl ?_
    rcases xif E with ⟨h4, E⟩ | ⟨h4, E⟩
    · refine g_tsw (u := 96) rfl (by rw [h4]; decide +kernel) ?_
      refine g_aload rfl rfl ?_
      refine g_getI rfl (eT_a fT_7_0 h3) ?_
      refine g_push rfl ?_
      rcases xif E with ⟨h5, E⟩ | ⟨h5, E⟩
      · refine g_icne_t rfl h5 ?_
        refine g_push rfl ?_
        refine g_goto rfl ?_
        obtain rfl := so1 E
        exact g_iret rfl
      · refine g_icne_f rfl h5 ?_
        refine g_aload rfl rfl ?_
        refine g_getI rfl (eT_a fT_7_0 h3) ?_
        obtain rfl := so1 E
        exact g_iret rfl
    · rcases xif E with ⟨h6, E⟩ | ⟨h6, E⟩
      · refine g_tsw (u := 114) rfl (by rw [h6]; decide +kernel) ?_
        refine g_aload rfl rfl ?_
        refine g_getI rfl (eT_a fT_7_0 h3) ?_
        obtain rfl := so1 E
        exact g_iret rfl
      · rcases xif E with ⟨h7, E⟩ | ⟨h7, E⟩
        · refine g_tsw (u := 119) rfl (by rw [h7]; decide +kernel) ?_
          refine g_aload rfl rfl ?_
          refine g_getI rfl (eT_a fT_7_0 h3) ?_
          obtain rfl := so1 E
          exact g_iret rfl
        · rcases xif E with ⟨h8, E⟩ | ⟨h8, E⟩
          · refine g_tsw (u := 124) rfl (by rw [h8]; decide +kernel) ?_
            refine g_aload rfl rfl ?_
            refine g_getI rfl (eT_a fT_7_0 h3) ?_
            obtain rfl := so1 E
            exact g_iret rfl
          · rcases xif E with ⟨h9, E⟩ | ⟨h9, E⟩
            · refine g_tsw (u := 129) rfl (by rw [h9]; decide +kernel) ?_
              refine g_aload rfl rfl ?_
              refine g_getI rfl (eT_a fT_7_0 h3) ?_
              obtain rfl := so1 E
              exact g_iret rfl
            · rcases xif E with ⟨h10, E⟩ | ⟨h10, E⟩
              · refine g_tsw (u := 134) rfl (by rw [h10]; decide +kernel) ?_
                refine g_aload rfl rfl ?_
                refine g_getI rfl (eT_a fT_7_0 h3) ?_
                rcases xif E with ⟨h11, E⟩ | ⟨h11, E⟩
                · refine g_ifeq_t rfl h11 ?_
                  refine g_push rfl ?_
                  obtain rfl := so1 E
                  exact g_iret rfl
                · refine g_ifeq_f rfl h11 ?_
                  refine g_push rfl ?_
                  refine g_goto rfl ?_
                  obtain rfl := so1 E
                  exact g_iret rfl
              · rcases xif E with ⟨h12, E⟩ | ⟨h12, E⟩
                · refine g_tsw (u := 147) rfl (by rw [h12]; decide +kernel) ?_
                  refine g_aload rfl rfl ?_
                  refine g_getR rfl (eT_a fT_7_0 h3) (fR_0_7 (eT_a fT_7_0 h3)) ?_
                  refine g_aload rfl rfl ?_
                  refine g_getR rfl (eT_a fT_7_0 h3) (fR_0_7 (eT_a fT_7_0 h3)) ?_
                  refine g_getI rfl (fT_0_7 (eT_a fT_7_0 h3)) ?_
                  refine g_push rfl ?_
                  refine g_isub rfl ?_
                  obtain ⟨x2, h13, E⟩ := ob E
                  refine g_inv1 (dc := 0) rfl (by omega) (fT_0_7 (eT_a fT_7_0 h3)) (Nat.le_of_ble_eq_true rfl) (fun d hd => tn_at hd (1 + 12 + 13 * i1 + 1) ((S0 (1 + 12 + 13 * i1 + 1) 1) - 1) S0 (fT_0_7 (eT_a fT_7_0 h3)) _ h13) ?_
                  obtain rfl := so1 E
                  exact g_iret rfl
                · rcases xif E with ⟨h14, E⟩ | ⟨h14, E⟩
                  · refine g_tsw (u := 164) rfl (by rw [h14]; decide +kernel) ?_
                    refine g_aload rfl rfl ?_
                    refine g_getR rfl (eT_a fT_7_0 h3) (fR_0_7 (eT_a fT_7_0 h3)) ?_
                    refine g_getI rfl (fT_0_7 (eT_a fT_7_0 h3)) ?_
                    obtain rfl := so1 E
                    exact g_iret rfl
                  · rcases xif E with ⟨h15, E⟩ | ⟨h15, E⟩
                    · refine g_tsw (u := 172) rfl (by rw [h15]; decide +kernel) ?_
                      refine g_aload rfl rfl ?_
                      refine g_getR rfl (eT_a fT_7_0 h3) (fR_0_8 (eT_a fT_7_0 h3)) ?_
                      refine g_getI rfl (fT_0_8 (eT_a fT_7_0 h3)) ?_
                      obtain rfl := so1 E
                      exact g_iret rfl
                    · rcases xif E with ⟨h16, E⟩ | ⟨h16, E⟩
                      · refine g_tsw (u := 180) rfl (by rw [h16]; decide +kernel) ?_
                        refine g_aload rfl rfl ?_
                        refine g_getR rfl (eT_a fT_7_0 h3) (fR_0_9 (eT_a fT_7_0 h3)) ?_
                        refine g_getI rfl (fT_0_9 (eT_a fT_7_0 h3)) ?_
                        obtain rfl := so1 E
                        exact g_iret rfl
                      · rcases xif E with ⟨h17, E⟩ | ⟨h17, E⟩
                        · refine g_tsw (u := 188) rfl (by rw [h17]; decide +kernel) ?_
                          refine g_aload rfl rfl ?_
                          refine g_getR rfl (eT_a fT_7_0 h3) (fR_0_10 (eT_a fT_7_0 h3)) ?_
                          refine g_getI rfl (fT_0_10 (eT_a fT_7_0 h3)) ?_
                          obtain rfl := so1 E
                          exact g_iret rfl
                        · rcases xif E with ⟨h18, E⟩ | ⟨h18, E⟩
                          · refine g_tsw (u := 196) rfl (by rw [h18]; decide +kernel) ?_
                            refine g_aload rfl rfl ?_
                            refine g_getR rfl ty_x (fR_7_0 ty_x) ?_
                            refine g_getR rfl fT_7_0 (fR_6_1 fT_7_0) ?_
                            refine g_iload rfl rfl ?_
                            obtain ⟨x3, h19, E⟩ := ob E
                            refine g_inv1 (dc := 0) rfl (by omega) (fT_6_1 fT_7_0) (Nat.le_of_ble_eq_true rfl) (fun d hd => tc_countOf hd 3 v1 S0 (fT_6_1 fT_7_0) _ h19) ?_
                            obtain rfl := so1 E
                            exact g_iret rfl
                          · rcases xif E with ⟨h20, E⟩ | ⟨h20, E⟩
                            · refine g_tsw (u := 208) rfl (by rw [h20]; decide +kernel) ?_
                              refine g_aload rfl rfl ?_
                              refine g_getR rfl (eT_a fT_7_0 h3) (fR_0_11 (eT_a fT_7_0 h3)) ?_
                              refine g_aload rfl rfl ?_
                              refine g_getR rfl ty_x (fR_7_0 ty_x) ?_
                              refine g_getI rfl fT_7_0 ?_
                              refine g_aload rfl rfl ?_
                              refine g_getI rfl (eT_a fT_7_0 h3) ?_
                              refine g_isub rfl ?_
                              obtain ⟨x4, h21, E⟩ := ob E
                              refine g_inv1 (dc := 0) rfl (by omega) (fT_0_11 (eT_a fT_7_0 h3)) (Nat.le_of_ble_eq_true rfl) (fun d hd => tn_countFrom hd (1 + 12 + 13 * i1 + 11) ((S0 1 6) - (S0 (1 + 12 + 13 * i1) 4)) S0 (fT_0_11 (eT_a fT_7_0 h3)) _ h21) ?_
                              obtain rfl := so1 E
                              exact g_iret rfl
                            · rcases xif E with ⟨h22, E⟩ | ⟨h22, E⟩
                              · refine g_tsw (u := 228) rfl (by rw [h22]; decide +kernel) ?_
                                refine g_aload rfl rfl ?_
                                refine g_getR rfl ty_x (fR_7_0 ty_x) ?_
                                refine g_iload rfl rfl ?_
                                obtain ⟨x5, h23, E⟩ := ob E
                                refine g_inv1 (dc := 0) rfl (by omega) fT_7_0 (Nat.le_of_ble_eq_true rfl) (fun d hd => tw_childBits hd 1 v1 S0 fT_7_0 _ h23) ?_
                                obtain rfl := so1 E
                                exact g_iret rfl
                              · refine g_tsw (u := 237) rfl (tsw_d (sw_def (n := 13) rfl _ (by decide +kernel) (fc h4 (fc h6 (fc h7 (fc h8 (fc h9 (fc h10 (fc h12 (fc h14 (fc h15 (fc h16 (fc h17 (fc h18 (fc h20 (fc h22 fn)))))))))))))))) ?_
                                refine g_push rfl ?_
                                obtain rfl := so1 E
                                exact g_iret rfl
