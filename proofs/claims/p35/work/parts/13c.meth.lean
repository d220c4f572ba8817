/-! 13c: the methods as functions over the cells -/
def fl_law_210 (scr : Nat × (Nat → Int32))  (v3 : Int32) (v4 : Int32) (v5 : Int32) (v6 : Int32) (v9 : Int32) (S0 : Mem) : Option (Int32 × Mem) := if v6 = 0 then (if v9 < 0 then (bd (fx_back S0) fun x1 S1 => if x1 = v3 then ((fx_count 5 S1).bind fun x2 => if x2 = v4 then (bd (fx_dry 50 0 S1) fun x3 S2 => if x3 = v5 then ((fl_isFair S2).bind fun x4 => if x4 = 0 then (some (0, S2)) else (some (1, S2))) else (some (0, S2))) else (some (0, S1))) else (some (0, S1))) else (if v5 < v9 then (bd (fx_back S0) fun x5 S3 => if x5 = v3 then ((fx_count 5 S3).bind fun x6 => if x6 = v4 then (bd (fx_dry 50 0 S3) fun x7 S4 => if x7 = v5 then ((fl_isFair S4).bind fun x8 => if x8 = 0 then (some (0, S4)) else (some (1, S4))) else (some (0, S4))) else (some (0, S3))) else (some (0, S3))) else (some (0, S0)))) else (bd (fx_back S0) fun x9 S5 => if x9 = v3 then ((fx_count 5 S5).bind fun x10 => if x10 = v4 then (bd (fx_dry 50 0 S5) fun x11 S6 => if x11 = v5 then ((fl_isFair S6).bind fun x12 => if x12 = 0 then (some (0, S6)) else (some (1, S6))) else (some (0, S6))) else (some (0, S5))) else (some (0, S5)))
set_option maxRecDepth 20000 in
set_option maxHeartbeats 4000000 in
theorem tl_law_210 {scr : Nat × (Nat → Int32)} {d : Nat} (hd : 9 ≤ d)  (v3 : Int32) (v4 : Int32) (v5 : Int32) (v6 : Int32) (v9 : Int32) (S0 : Mem)  (rv : Int32) (SR : Mem) (E : fl_law_210 scr v3 v4 v5 v6 v9 S0 = some (rv, SR)) : XG scr d 190 210 [(1, .inr (some (some 0))), (3, .inl v3), (4, .inl v4), (5, .inl v5), (6, .inl v6), (9, .inl v9)] [] S0 (some (.inl rv)) SR := by
  unfold fl_law_210 at E
  refine g_iload rfl rfl ?_
  rcases xif E with ⟨h1, E⟩ | ⟨h1, E⟩
  · refine g_ifne_t rfl h1 ?_
    refine g_iload rfl rfl ?_
    rcases xif E with ⟨h2, E⟩ | ⟨h2, E⟩
    · refine g_iflt_t rfl h2 ?_
      refine g_aload rfl rfl ?_
      obtain ⟨x1, S1, h3, E⟩ := ob2 E
      refine g_inv0 (dc := 3) rfl (by omega) ty_x (Nat.le_of_ble_eq_true rfl) (fun d hd => tx_back hd S0 _ _ h3) ?_
      refine g_iload rfl rfl ?_
      rcases xif E with ⟨h4, E⟩ | ⟨h4, E⟩
      · refine g_icne_t rfl h4 ?_
        refine g_aload rfl rfl ?_
        refine g_push rfl ?_
        obtain ⟨x2, h5, E⟩ := ob E
        refine g_inv1 (dc := 1) rfl (by omega) ty_x (Nat.le_of_ble_eq_true rfl) (fun d hd => tx_count hd 5 S1 _ h5) ?_
        refine g_iload rfl rfl ?_
        rcases xif E with ⟨h6, E⟩ | ⟨h6, E⟩
        · refine g_icne_t rfl h6 ?_
          refine g_aload rfl rfl ?_
          refine g_push rfl ?_
          refine g_push rfl ?_
          obtain ⟨x3, S2, h7, E⟩ := ob2 E
          refine g_inv2 (dc := 7) rfl (by omega) ty_x (Nat.le_of_ble_eq_true rfl) (fun d hd => tx_dry hd 50 0 S1 _ _ h7) ?_
          refine g_iload rfl rfl ?_
          rcases xif E with ⟨h8, E⟩ | ⟨h8, E⟩
          · refine g_icne_t rfl h8 ?_
            refine g_aload rfl rfl ?_
            obtain ⟨x4, h9, E⟩ := ob E
            refine g_invS1 (dc := 3) rfl (by omega) (Nat.le_of_ble_eq_true rfl) (fun d hd => tl_isFair hd S2 _ h9) ?_
            rcases xif E with ⟨h10, E⟩ | ⟨h10, E⟩
            · refine g_ifeq_t rfl h10 ?_
              refine g_push rfl ?_
              obtain ⟨rfl, rfl⟩ := so2 E
              exact g_zret rfl b00
            · refine g_ifeq_f rfl h10 ?_
              refine g_push rfl ?_
              refine g_goto rfl ?_
              obtain ⟨rfl, rfl⟩ := so2 E
              exact g_zret rfl b01
          · refine g_icne_f rfl h8 ?_
            refine g_push rfl ?_
            obtain ⟨rfl, rfl⟩ := so2 E
            exact g_zret rfl b00
        · refine g_icne_f rfl h6 ?_
          refine g_push rfl ?_
          obtain ⟨rfl, rfl⟩ := so2 E
          exact g_zret rfl b00
      · refine g_icne_f rfl h4 ?_
        refine g_push rfl ?_
        obtain ⟨rfl, rfl⟩ := so2 E
        exact g_zret rfl b00
    · refine g_iflt_f rfl h2 ?_
      refine g_iload rfl rfl ?_
      refine g_iload rfl rfl ?_
      rcases xif E with ⟨h11, E⟩ | ⟨h11, E⟩
      · refine g_icgt_t rfl h11 ?_
        refine g_aload rfl rfl ?_
        obtain ⟨x5, S3, h12, E⟩ := ob2 E
        refine g_inv0 (dc := 3) rfl (by omega) ty_x (Nat.le_of_ble_eq_true rfl) (fun d hd => tx_back hd S0 _ _ h12) ?_
        refine g_iload rfl rfl ?_
        rcases xif E with ⟨h13, E⟩ | ⟨h13, E⟩
        · refine g_icne_t rfl h13 ?_
          refine g_aload rfl rfl ?_
          refine g_push rfl ?_
          obtain ⟨x6, h14, E⟩ := ob E
          refine g_inv1 (dc := 1) rfl (by omega) ty_x (Nat.le_of_ble_eq_true rfl) (fun d hd => tx_count hd 5 S3 _ h14) ?_
          refine g_iload rfl rfl ?_
          rcases xif E with ⟨h15, E⟩ | ⟨h15, E⟩
          · refine g_icne_t rfl h15 ?_
            refine g_aload rfl rfl ?_
            refine g_push rfl ?_
            refine g_push rfl ?_
            obtain ⟨x7, S4, h16, E⟩ := ob2 E
            refine g_inv2 (dc := 7) rfl (by omega) ty_x (Nat.le_of_ble_eq_true rfl) (fun d hd => tx_dry hd 50 0 S3 _ _ h16) ?_
            refine g_iload rfl rfl ?_
            rcases xif E with ⟨h17, E⟩ | ⟨h17, E⟩
            · refine g_icne_t rfl h17 ?_
              refine g_aload rfl rfl ?_
              obtain ⟨x8, h18, E⟩ := ob E
              refine g_invS1 (dc := 3) rfl (by omega) (Nat.le_of_ble_eq_true rfl) (fun d hd => tl_isFair hd S4 _ h18) ?_
              rcases xif E with ⟨h19, E⟩ | ⟨h19, E⟩
              · refine g_ifeq_t rfl h19 ?_
                refine g_push rfl ?_
                obtain ⟨rfl, rfl⟩ := so2 E
                exact g_zret rfl b00
              · refine g_ifeq_f rfl h19 ?_
                refine g_push rfl ?_
                refine g_goto rfl ?_
                obtain ⟨rfl, rfl⟩ := so2 E
                exact g_zret rfl b01
            · refine g_icne_f rfl h17 ?_
              refine g_push rfl ?_
              obtain ⟨rfl, rfl⟩ := so2 E
              exact g_zret rfl b00
          · refine g_icne_f rfl h15 ?_
            refine g_push rfl ?_
            obtain ⟨rfl, rfl⟩ := so2 E
            exact g_zret rfl b00
        · refine g_icne_f rfl h13 ?_
          refine g_push rfl ?_
          obtain ⟨rfl, rfl⟩ := so2 E
          exact g_zret rfl b00
      · refine g_icgt_f rfl h11 ?_
        refine g_push rfl ?_
        obtain ⟨rfl, rfl⟩ := so2 E
        exact g_zret rfl b00
  · refine g_ifne_f rfl h1 ?_
    refine g_aload rfl rfl ?_
    obtain ⟨x9, S5, h20, E⟩ := ob2 E
    refine g_inv0 (dc := 3) rfl (by omega) ty_x (Nat.le_of_ble_eq_true rfl) (fun d hd => tx_back hd S0 _ _ h20) ?_
    refine g_iload rfl rfl ?_
    rcases xif E with ⟨h21, E⟩ | ⟨h21, E⟩
    · refine g_icne_t rfl h21 ?_
      refine g_aload rfl rfl ?_
      refine g_push rfl ?_
      obtain ⟨x10, h22, E⟩ := ob E
      refine g_inv1 (dc := 1) rfl (by omega) ty_x (Nat.le_of_ble_eq_true rfl) (fun d hd => tx_count hd 5 S5 _ h22) ?_
      refine g_iload rfl rfl ?_
      rcases xif E with ⟨h23, E⟩ | ⟨h23, E⟩
      · refine g_icne_t rfl h23 ?_
        refine g_aload rfl rfl ?_
        refine g_push rfl ?_
        refine g_push rfl ?_
        obtain ⟨x11, S6, h24, E⟩ := ob2 E
        refine g_inv2 (dc := 7) rfl (by omega) ty_x (Nat.le_of_ble_eq_true rfl) (fun d hd => tx_dry hd 50 0 S5 _ _ h24) ?_
        refine g_iload rfl rfl ?_
        rcases xif E with ⟨h25, E⟩ | ⟨h25, E⟩
        · refine g_icne_t rfl h25 ?_
          refine g_aload rfl rfl ?_
          obtain ⟨x12, h26, E⟩ := ob E
          refine g_invS1 (dc := 3) rfl (by omega) (Nat.le_of_ble_eq_true rfl) (fun d hd => tl_isFair hd S6 _ h26) ?_
          rcases xif E with ⟨h27, E⟩ | ⟨h27, E⟩
          · refine g_ifeq_t rfl h27 ?_
            refine g_push rfl ?_
            obtain ⟨rfl, rfl⟩ := so2 E
            exact g_zret rfl b00
          · refine g_ifeq_f rfl h27 ?_
            refine g_push rfl ?_
            refine g_goto rfl ?_
            obtain ⟨rfl, rfl⟩ := so2 E
            exact g_zret rfl b01
        · refine g_icne_f rfl h25 ?_
          refine g_push rfl ?_
          obtain ⟨rfl, rfl⟩ := so2 E
          exact g_zret rfl b00
      · refine g_icne_f rfl h23 ?_
        refine g_push rfl ?_
        obtain ⟨rfl, rfl⟩ := so2 E
        exact g_zret rfl b00
    · refine g_icne_f rfl h21 ?_
      refine g_push rfl ?_
      obtain ⟨rfl, rfl⟩ := so2 E
      exact g_zret rfl b00
def fl_law_166b (scr : Nat × (Nat → Int32)) (k166 : Int32 → Int32 → Int32 → Int32 → Int32 → Int32 → Int32 → Mem → Option (Int32 × Mem)) (v3 : Int32) (v4 : Int32) (v5 : Int32) (v6 : Int32) (v7 : Int32) (v9 : Int32) (v10 : Int32) (S0 : Mem) : Option (Int32 × Mem) := if v3 ≤ v10 then (if v6 = 1 then (if v9 = v5 then (fl_law_210 scr v3 v4 v5 v6 v9 S0) else (some (0, S0))) else (fl_law_210 scr v3 v4 v5 v6 v9 S0)) else ((fx_of v10 5 S0).bind fun x1 => if ((v7 >>> (v10 &&& 31)) &&& (1 : Int32)) = x1 then (k166 v3 v4 v5 v6 v7 v9 (v10 + 1) S0) else (some (0, S0)))
set_option maxRecDepth 20000 in
set_option maxHeartbeats 4000000 in
theorem tl_law_166b {scr : Nat × (Nat → Int32)} {d : Nat} (hd : 9 ≤ d) {k166 : Int32 → Int32 → Int32 → Int32 → Int32 → Int32 → Int32 → Mem → Option (Int32 × Mem)} (hk166 : ∀ (v3 : Int32) (v4 : Int32) (v5 : Int32) (v6 : Int32) (v7 : Int32) (v9 : Int32) (v10 : Int32) (S0 : Mem), ∀ (rv : Int32) (SR : Mem), k166 v3 v4 v5 v6 v7 v9 v10 S0 = some (rv, SR) → XG scr d 190 166 [(1, .inr (some (some 0))), (3, .inl v3), (4, .inl v4), (5, .inl v5), (6, .inl v6), (7, .inl v7), (9, .inl v9), (10, .inl v10)] [] S0 (some (.inl rv)) SR) (v3 : Int32) (v4 : Int32) (v5 : Int32) (v6 : Int32) (v7 : Int32) (v9 : Int32) (v10 : Int32) (S0 : Mem)  (rv : Int32) (SR : Mem) (E : fl_law_166b scr k166 v3 v4 v5 v6 v7 v9 v10 S0 = some (rv, SR)) : XG scr d 190 166 [(1, .inr (some (some 0))), (3, .inl v3), (4, .inl v4), (5, .inl v5), (6, .inl v6), (7, .inl v7), (9, .inl v9), (10, .inl v10)] [] S0 (some (.inl rv)) SR := by
  unfold fl_law_166b at E
  refine g_iload rfl rfl ?_
  refine g_iload rfl rfl ?_
  rcases xif E with ⟨h1, E⟩ | ⟨h1, E⟩
  · refine g_icge_t rfl h1 ?_
    refine g_iload rfl rfl ?_
    refine g_push rfl ?_
    rcases xif E with ⟨h2, E⟩ | ⟨h2, E⟩
    · refine g_icne_t rfl h2 ?_
      refine g_iload rfl rfl ?_
      refine g_iload rfl rfl ?_
      rcases xif E with ⟨h3, E⟩ | ⟨h3, E⟩
      · refine g_icne_t rfl h3 ?_
        exact g_loc (lsub_cons rfl (lsub_cons rfl (lsub_cons rfl (lsub_cons rfl (lsub_cons rfl (lsub_cons rfl lsub_nil)))))) (tl_law_210 hd v3 v4 v5 v6 v9 S0 _ _ E)
      · refine g_icne_f rfl h3 ?_
        refine g_push rfl ?_
        obtain ⟨rfl, rfl⟩ := so2 E
        exact g_zret rfl b00
    · refine g_icne_f rfl h2 ?_
      exact g_loc (lsub_cons rfl (lsub_cons rfl (lsub_cons rfl (lsub_cons rfl (lsub_cons rfl (lsub_cons rfl lsub_nil)))))) (tl_law_210 hd v3 v4 v5 v6 v9 S0 _ _ E)
  · refine g_icge_f rfl h1 ?_
    refine g_iload rfl rfl ?_
    refine g_iload rfl rfl ?_
    refine g_ishr rfl ?_
    refine g_push rfl ?_
    refine g_iand rfl ?_
    refine g_aload rfl rfl ?_
    refine g_iload rfl rfl ?_
    refine g_push rfl ?_
    obtain ⟨x1, h4, E⟩ := ob E
    refine g_inv2 (dc := 1) rfl (by omega) ty_x (Nat.le_of_ble_eq_true rfl) (fun d hd => tx_of hd v10 5 S0 _ h4) ?_
    rcases xif E with ⟨h5, E⟩ | ⟨h5, E⟩
    · refine g_iceq_t rfl h5 ?_
      refine g_iinc (L2 := [(10, .inl (v10 + 1)), (1, .inr (some (some 0))), (3, .inl v3), (4, .inl v4), (5, .inl v5), (6, .inl v6), (7, .inl v7), (9, .inl v9)]) rfl rfl rfl ?_
      refine g_goto rfl ?_
      exact g_loc (lsub_cons rfl (lsub_cons rfl (lsub_cons rfl (lsub_cons rfl (lsub_cons rfl (lsub_cons rfl (lsub_cons rfl (lsub_cons rfl lsub_nil)))))))) (hk166 v3 v4 v5 v6 v7 v9 (v10 + 1) S0 _ _ E)
    · refine g_iceq_f rfl h5 ?_
      refine g_push rfl ?_
      obtain ⟨rfl, rfl⟩ := so2 E
      exact g_zret rfl b00
def fl_law_166 (scr : Nat × (Nat → Int32))  : Nat → Int32 → Int32 → Int32 → Int32 → Int32 → Int32 → Int32 → Mem → Option (Int32 × Mem)
  | 0 => fun _ _ _ _ _ _ _ _ => none
  | n + 1 => fl_law_166b scr (fl_law_166 scr n)
set_option maxRecDepth 20000 in
set_option maxHeartbeats 4000000 in
theorem tl_law_166 {scr : Nat × (Nat → Int32)} {d : Nat} (hd : 9 ≤ d)  : ∀ (n : Nat) (v3 : Int32) (v4 : Int32) (v5 : Int32) (v6 : Int32) (v7 : Int32) (v9 : Int32) (v10 : Int32) (S0 : Mem), ∀ (rv : Int32) (SR : Mem), fl_law_166 scr n v3 v4 v5 v6 v7 v9 v10 S0 = some (rv, SR) → XG scr d 190 166 [(1, .inr (some (some 0))), (3, .inl v3), (4, .inl v4), (5, .inl v5), (6, .inl v6), (7, .inl v7), (9, .inl v9), (10, .inl v10)] [] S0 (some (.inl rv)) SR
  | 0, v3, v4, v5, v6, v7, v9, v10, S0, rv, SR, E => nn E
  | n + 1, v3, v4, v5, v6, v7, v9, v10, S0, rv, SR, E => tl_law_166b hd  (tl_law_166 hd  n) v3 v4 v5 v6 v7 v9 v10 S0  rv SR E
def fl_law_25b (scr : Nat × (Nat → Int32)) (k25 : Int32 → Int32 → Mem → Option (Int32 × Mem)) (v2 : Int32) (v3 : Int32) (S0 : Mem) : Option (Int32 × Mem) := if v2 ≤ v3 then ((fx_count 0 S0).bind fun x1 => (fx_count 5 S0).bind fun x2 => bd (fx_dry 50 0 S0) fun x3 S1 => bd (fx_dry 50 1 S1) fun x4 S2 => bd (fx_dry 50 2 S2) fun x5 S3 => bd (fx_dry 50 3 S3) fun x6 S4 => bd (fx_quiet S4) fun x7 S5 => (fx_counted x1 S5).bind fun x8 => if x8 = ((-2000000000)) then (bd (fx_image S5) fun x9 S6 => if x9 = x1 then (bd (fx_run 50 S6) fun x10 S7 => if x10 = x3 then ((fx_ended S7).bind fun x11 => if x11 = x4 then ((fx_count 4 S7).bind fun x12 => if x12 = x6 then ((fl_isFair S7).bind fun x13 => if x13 = 0 then (some (0, S7)) else (fl_law_166 scr LF x1 x2 x3 x4 x5 x7 0 S7)) else (some (0, S7))) else (some (0, S7))) else (some (0, S7))) else (some (0, S6))) else (some (0, S5))) else ((fl_act scr v3 S0).bind fun S8 => (fl_isFair S8).bind fun x14 => if x14 = 0 then (some (0, S8)) else (k25 v2 (v3 + 1) S8))
set_option maxRecDepth 20000 in
set_option maxHeartbeats 4000000 in
theorem tl_law_25b {scr : Nat × (Nat → Int32)} {d : Nat} (hd : 9 ≤ d) {k25 : Int32 → Int32 → Mem → Option (Int32 × Mem)} (hk25 : ∀ (v2 : Int32) (v3 : Int32) (S0 : Mem), ∀ (rv : Int32) (SR : Mem), k25 v2 v3 S0 = some (rv, SR) → XG scr d 190 25 [(0, .inr (some none)), (1, .inr (some (some 0))), (2, .inl v2), (3, .inl v3)] [] S0 (some (.inl rv)) SR) (v2 : Int32) (v3 : Int32) (S0 : Mem)  (rv : Int32) (SR : Mem) (E : fl_law_25b scr k25 v2 v3 S0 = some (rv, SR)) : XG scr d 190 25 [(0, .inr (some none)), (1, .inr (some (some 0))), (2, .inl v2), (3, .inl v3)] [] S0 (some (.inl rv)) SR := by
  unfold fl_law_25b at E
  refine g_iload rfl rfl ?_
  refine g_iload rfl rfl ?_
  rcases xif E with ⟨h1, E⟩ | ⟨h1, E⟩
  · refine g_icge_t rfl h1 ?_
    refine g_aload rfl rfl ?_
    refine g_push rfl ?_
    obtain ⟨x1, h2, E⟩ := ob E
    refine g_inv1 (dc := 1) rfl (by omega) ty_x (Nat.le_of_ble_eq_true rfl) (fun d hd => tx_count hd 0 S0 _ h2) ?_
    refine g_istore (L2 := [(3, .inl x1), (0, .inr (some none)), (1, .inr (some (some 0))), (2, .inl v2)]) rfl rfl ?_
    refine g_aload rfl rfl ?_
    refine g_push rfl ?_
    obtain ⟨x2, h3, E⟩ := ob E
    refine g_inv1 (dc := 1) rfl (by omega) ty_x (Nat.le_of_ble_eq_true rfl) (fun d hd => tx_count hd 5 S0 _ h3) ?_
    refine g_istore (L2 := [(4, .inl x2), (3, .inl x1), (0, .inr (some none)), (1, .inr (some (some 0))), (2, .inl v2)]) rfl rfl ?_
    refine g_aload rfl rfl ?_
    refine g_push rfl ?_
    refine g_push rfl ?_
    obtain ⟨x3, S1, h4, E⟩ := ob2 E
    refine g_inv2 (dc := 7) rfl (by omega) ty_x (Nat.le_of_ble_eq_true rfl) (fun d hd => tx_dry hd 50 0 S0 _ _ h4) ?_
    refine g_istore (L2 := [(5, .inl x3), (4, .inl x2), (3, .inl x1), (0, .inr (some none)), (1, .inr (some (some 0))), (2, .inl v2)]) rfl rfl ?_
    refine g_aload rfl rfl ?_
    refine g_push rfl ?_
    refine g_push rfl ?_
    obtain ⟨x4, S2, h5, E⟩ := ob2 E
    refine g_inv2 (dc := 7) rfl (by omega) ty_x (Nat.le_of_ble_eq_true rfl) (fun d hd => tx_dry hd 50 1 S1 _ _ h5) ?_
    refine g_istore (L2 := [(6, .inl x4), (5, .inl x3), (4, .inl x2), (3, .inl x1), (0, .inr (some none)), (1, .inr (some (some 0))), (2, .inl v2)]) rfl rfl ?_
    refine g_aload rfl rfl ?_
    refine g_push rfl ?_
    refine g_push rfl ?_
    obtain ⟨x5, S3, h6, E⟩ := ob2 E
    refine g_inv2 (dc := 7) rfl (by omega) ty_x (Nat.le_of_ble_eq_true rfl) (fun d hd => tx_dry hd 50 2 S2 _ _ h6) ?_
    refine g_istore (L2 := [(7, .inl x5), (6, .inl x4), (5, .inl x3), (4, .inl x2), (3, .inl x1), (0, .inr (some none)), (1, .inr (some (some 0))), (2, .inl v2)]) rfl rfl ?_
    refine g_aload rfl rfl ?_
    refine g_push rfl ?_
    refine g_push rfl ?_
    obtain ⟨x6, S4, h7, E⟩ := ob2 E
    refine g_inv2 (dc := 7) rfl (by omega) ty_x (Nat.le_of_ble_eq_true rfl) (fun d hd => tx_dry hd 50 3 S3 _ _ h7) ?_
    refine g_istore (L2 := [(8, .inl x6), (7, .inl x5), (6, .inl x4), (5, .inl x3), (4, .inl x2), (3, .inl x1), (0, .inr (some none)), (1, .inr (some (some 0))), (2, .inl v2)]) rfl rfl ?_
    refine g_aload rfl rfl ?_
    obtain ⟨x7, S5, h8, E⟩ := ob2 E
    refine g_inv0 (dc := 6) rfl (by omega) ty_x (Nat.le_of_ble_eq_true rfl) (fun d hd => tx_quiet hd S4 _ _ h8) ?_
    refine g_istore (L2 := [(9, .inl x7), (8, .inl x6), (7, .inl x5), (6, .inl x4), (5, .inl x3), (4, .inl x2), (3, .inl x1), (0, .inr (some none)), (1, .inr (some (some 0))), (2, .inl v2)]) rfl rfl ?_
    refine g_aload rfl rfl ?_
    refine g_iload rfl rfl ?_
    obtain ⟨x8, h9, E⟩ := ob E
    refine g_inv1 (dc := 1) rfl (by omega) ty_x (Nat.le_of_ble_eq_true rfl) (fun d hd => tx_counted hd x1 S5 _ h9) ?_
    refine g_push rfl ?_
    rcases xif E with ⟨h10, E⟩ | ⟨h10, E⟩
    · refine g_icne_t rfl h10 ?_
      refine g_aload rfl rfl ?_
      obtain ⟨x9, S6, h11, E⟩ := ob2 E
      refine g_inv0 (dc := 3) rfl (by omega) ty_x (Nat.le_of_ble_eq_true rfl) (fun d hd => tx_image hd S5 _ _ h11) ?_
      refine g_iload rfl rfl ?_
      rcases xif E with ⟨h12, E⟩ | ⟨h12, E⟩
      · refine g_icne_t rfl h12 ?_
        refine g_aload rfl rfl ?_
        refine g_push rfl ?_
        obtain ⟨x10, S7, h13, E⟩ := ob2 E
        refine g_inv1 (dc := 7) rfl (by omega) ty_x (Nat.le_of_ble_eq_true rfl) (fun d hd => tx_run hd 50 S6 _ _ h13) ?_
        refine g_iload rfl rfl ?_
        rcases xif E with ⟨h14, E⟩ | ⟨h14, E⟩
        · refine g_icne_t rfl h14 ?_
          refine g_aload rfl rfl ?_
          obtain ⟨x11, h15, E⟩ := ob E
          refine g_inv0 (dc := 0) rfl (by omega) ty_x (Nat.le_of_ble_eq_true rfl) (fun d hd => tx_ended hd S7 _ h15) ?_
          refine g_iload rfl rfl ?_
          rcases xif E with ⟨h16, E⟩ | ⟨h16, E⟩
          · refine g_icne_t rfl h16 ?_
            refine g_aload rfl rfl ?_
            refine g_push rfl ?_
            obtain ⟨x12, h17, E⟩ := ob E
            refine g_inv1 (dc := 1) rfl (by omega) ty_x (Nat.le_of_ble_eq_true rfl) (fun d hd => tx_count hd 4 S7 _ h17) ?_
            refine g_iload rfl rfl ?_
            rcases xif E with ⟨h18, E⟩ | ⟨h18, E⟩
            · refine g_icne_t rfl h18 ?_
              refine g_aload rfl rfl ?_
              obtain ⟨x13, h19, E⟩ := ob E
              refine g_invS1 (dc := 3) rfl (by omega) (Nat.le_of_ble_eq_true rfl) (fun d hd => tl_isFair hd S7 _ h19) ?_
              rcases xif E with ⟨h20, E⟩ | ⟨h20, E⟩
              · refine g_ifne_t rfl h20 ?_
                refine g_push rfl ?_
                obtain ⟨rfl, rfl⟩ := so2 E
                exact g_zret rfl b00
              · refine g_ifne_f rfl h20 ?_
                refine g_push rfl ?_
                refine g_istore (L2 := [(10, .inl 0), (9, .inl x7), (8, .inl x6), (7, .inl x5), (6, .inl x4), (5, .inl x3), (4, .inl x2), (3, .inl x1), (0, .inr (some none)), (1, .inr (some (some 0))), (2, .inl v2)]) rfl rfl ?_
                exact g_loc (lsub_cons rfl (lsub_cons rfl (lsub_cons rfl (lsub_cons rfl (lsub_cons rfl (lsub_cons rfl (lsub_cons rfl (lsub_cons rfl lsub_nil)))))))) (tl_law_166 hd LF x1 x2 x3 x4 x5 x7 0 S7 _ _ E)
            · refine g_icne_f rfl h18 ?_
              refine g_push rfl ?_
              obtain ⟨rfl, rfl⟩ := so2 E
              exact g_zret rfl b00
          · refine g_icne_f rfl h16 ?_
            refine g_push rfl ?_
            obtain ⟨rfl, rfl⟩ := so2 E
            exact g_zret rfl b00
        · refine g_icne_f rfl h14 ?_
          refine g_push rfl ?_
          obtain ⟨rfl, rfl⟩ := so2 E
          exact g_zret rfl b00
      · refine g_icne_f rfl h12 ?_
        refine g_push rfl ?_
        obtain ⟨rfl, rfl⟩ := so2 E
        exact g_zret rfl b00
    · refine g_icne_f rfl h10 ?_
      refine g_push rfl ?_
      obtain ⟨rfl, rfl⟩ := so2 E
      exact g_zret rfl b00
  · refine g_icge_f rfl h1 ?_
    refine g_aload rfl rfl ?_
    refine g_aload rfl rfl ?_
    refine g_iload rfl rfl ?_
    obtain ⟨S8, h21, E⟩ := ob E
    refine g_invS3 (dc := 8) rfl (by omega) (Nat.le_of_ble_eq_true rfl) (fun d hd => tl_act hd v3 S0 _ h21) ?_
    refine g_aload rfl rfl ?_
    obtain ⟨x14, h22, E⟩ := ob E
    refine g_invS1 (dc := 3) rfl (by omega) (Nat.le_of_ble_eq_true rfl) (fun d hd => tl_isFair hd S8 _ h22) ?_
    rcases xif E with ⟨h23, E⟩ | ⟨h23, E⟩
    · refine g_ifne_t rfl h23 ?_
      refine g_push rfl ?_
      obtain ⟨rfl, rfl⟩ := so2 E
      exact g_zret rfl b00
    · refine g_ifne_f rfl h23 ?_
      refine g_iinc (L2 := [(3, .inl (v3 + 1)), (0, .inr (some none)), (1, .inr (some (some 0))), (2, .inl v2)]) rfl rfl rfl ?_
      refine g_goto rfl ?_
      exact g_loc (lsub_cons rfl (lsub_cons rfl (lsub_cons rfl (lsub_cons rfl lsub_nil)))) (hk25 v2 (v3 + 1) S8 _ _ E)
def fl_law_25 (scr : Nat × (Nat → Int32))  : Nat → Int32 → Int32 → Mem → Option (Int32 × Mem)
  | 0 => fun _ _ _ => none
  | n + 1 => fl_law_25b scr (fl_law_25 scr n)
set_option maxRecDepth 20000 in
set_option maxHeartbeats 4000000 in
theorem tl_law_25 {scr : Nat × (Nat → Int32)} {d : Nat} (hd : 9 ≤ d)  : ∀ (n : Nat) (v2 : Int32) (v3 : Int32) (S0 : Mem), ∀ (rv : Int32) (SR : Mem), fl_law_25 scr n v2 v3 S0 = some (rv, SR) → XG scr d 190 25 [(0, .inr (some none)), (1, .inr (some (some 0))), (2, .inl v2), (3, .inl v3)] [] S0 (some (.inl rv)) SR
  | 0, v2, v3, S0, rv, SR, E => nn E
  | n + 1, v2, v3, S0, rv, SR, E => tl_law_25b hd  (tl_law_25 hd  n) v2 v3 S0  rv SR E
def fl_law (scr : Nat × (Nat → Int32))  (S0 : Mem) : Option (Int32 × Mem) := if 60 ≤ (Int32.ofNat scr.1) then (fl_law_25 scr LF 60 0 S0) else (fl_law_25 scr LF (Int32.ofNat scr.1) 0 S0)
set_option maxRecDepth 20000 in
set_option maxHeartbeats 4000000 in
theorem tl_law {scr : Nat × (Nat → Int32)} {d : Nat} (hd : 9 ≤ d)  (S0 : Mem)  (rv : Int32) (SR : Mem) (E : fl_law scr  S0 = some (rv, SR)) : XG scr d 190 8 [(1, .inr (some (some 0))), (0, .inr (some none))] [] S0 (some (.inl rv)) SR := by
  unfold fl_law at E
  refine g_aload rfl rfl ?_
  refine g_slen rfl ?_
  refine g_push rfl ?_
  rcases xif E with ⟨h1, E⟩ | ⟨h1, E⟩
  · refine g_icge_t rfl h1 ?_
    refine g_push rfl ?_
    refine g_istore (L2 := [(2, .inl 60), (1, .inr (some (some 0))), (0, .inr (some none))]) rfl rfl ?_
    refine g_push rfl ?_
    refine g_istore (L2 := [(3, .inl 0), (2, .inl 60), (1, .inr (some (some 0))), (0, .inr (some none))]) rfl rfl ?_
    exact g_loc (lsub_cons rfl (lsub_cons rfl (lsub_cons rfl (lsub_cons rfl lsub_nil)))) (tl_law_25 hd LF 60 0 S0 _ _ E)
  · refine g_icge_f rfl h1 ?_
    refine g_aload rfl rfl ?_
    refine g_slen rfl ?_
    refine g_goto rfl ?_
    refine g_istore (L2 := [(2, .inl (Int32.ofNat scr.1)), (1, .inr (some (some 0))), (0, .inr (some none))]) rfl rfl ?_
    refine g_push rfl ?_
    refine g_istore (L2 := [(3, .inl 0), (2, .inl (Int32.ofNat scr.1)), (1, .inr (some (some 0))), (0, .inr (some none))]) rfl rfl ?_
    exact g_loc (lsub_cons rfl (lsub_cons rfl (lsub_cons rfl (lsub_cons rfl lsub_nil)))) (tl_law_25 hd LF (Int32.ofNat scr.1) 0 S0 _ _ E)
