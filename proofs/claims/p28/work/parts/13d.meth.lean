/-! 13d: the methods as functions over the cells -/
def fm_comesBack_80b (k80 : Int32 → Int32 → Int32 → Int32 → Int32 → Mem → Option Mem) (v1 : Int32) (v2 : Int32) (v3 : Int32) (v4 : Int32) (v5 : Int32) (S0 : Mem) : Option Mem := if (2 * v4) ≤ v5 then ((fm_sets v1 13 (v2 + v4) S0).bind fun S1 => (fm_sets v1 38 0 S1).bind fun S2 => (ald S2 698 927).bind fun x1 => (ast S2 698 927 (x1 + (v3 - v4))).bind fun S3 => some S3) else ((fm_at v1 (39 + v5) S0).bind fun x2 => (fm_sets v1 (14 + v5) x2 S0).bind fun S4 => k80 v1 v2 v3 v4 (v5 + 1) S4)
set_option maxRecDepth 20000 in
set_option maxHeartbeats 4000000 in
theorem tm_comesBack_80b {scr : Nat × (Nat → Int32)} {d : Nat} (hd : 1 ≤ d) {k80 : Int32 → Int32 → Int32 → Int32 → Int32 → Mem → Option Mem} (hk80 : ∀ (v1 : Int32) (v2 : Int32) (v3 : Int32) (v4 : Int32) (v5 : Int32) (S0 : Mem), ∀ (SR : Mem), k80 v1 v2 v3 v4 v5 S0 = some SR → XG scr d 115 80 [(0, .inr (some (some 697))), (1, .inl v1), (2, .inl v2), (3, .inl v3), (4, .inl v4), (5, .inl v5)] [] S0 none SR) (v1 : Int32) (v2 : Int32) (v3 : Int32) (v4 : Int32) (v5 : Int32) (S0 : Mem)  (SR : Mem) (E : fm_comesBack_80b k80 v1 v2 v3 v4 v5 S0 = some SR) : XG scr d 115 80 [(0, .inr (some (some 697))), (1, .inl v1), (2, .inl v2), (3, .inl v3), (4, .inl v4), (5, .inl v5)] [] S0 none SR := by
  unfold fm_comesBack_80b at E
  refine g_iload rfl rfl ?_
  refine g_push rfl ?_
  refine g_iload rfl rfl ?_
  refine g_imul rfl ?_
  rcases xif E with ⟨h1, E⟩ | ⟨h1, E⟩
  · refine g_icge_t rfl h1 ?_
    refine g_aload rfl rfl ?_
    refine g_iload rfl rfl ?_
    refine g_push rfl ?_
    refine g_iload rfl rfl ?_
    refine g_iload rfl rfl ?_
    refine g_iadd rfl ?_
    obtain ⟨S1, h2, E⟩ := ob E
    refine g_inv3 (dc := 0) rfl (by omega) ty_m (Nat.le_of_ble_eq_true rfl) (fun d hd => tm_sets hd v1 13 (v2 + v4) S0 _ h2) ?_
    refine g_aload rfl rfl ?_
    refine g_iload rfl rfl ?_
    refine g_push rfl ?_
    refine g_push rfl ?_
    obtain ⟨S2, h3, E⟩ := ob E
    refine g_inv3 (dc := 0) rfl (by omega) ty_m (Nat.le_of_ble_eq_true rfl) (fun d hd => tm_sets hd v1 38 0 S1 _ h3) ?_
    refine g_aload rfl rfl ?_
    refine g_getR rfl ty_m (fR_8_0 ty_m) ?_
    refine g_push rfl ?_
    refine g_dup2 rfl ?_
    obtain ⟨x1, h4, E⟩ := ob E
    refine g_iald rfl fT_8_0 h4 ?_
    refine g_iload rfl rfl ?_
    refine g_iload rfl rfl ?_
    refine g_isub rfl ?_
    refine g_iadd rfl ?_
    obtain ⟨S3, h5, E⟩ := ob E
    refine g_iast rfl fT_8_0 h5 ?_
    obtain rfl := so1 E
    exact g_ret rfl
  · refine g_icge_f rfl h1 ?_
    refine g_aload rfl rfl ?_
    refine g_iload rfl rfl ?_
    refine g_push rfl ?_
    refine g_iload rfl rfl ?_
    refine g_iadd rfl ?_
    refine g_aload rfl rfl ?_
    refine g_iload rfl rfl ?_
    refine g_push rfl ?_
    refine g_iload rfl rfl ?_
    refine g_iadd rfl ?_
    obtain ⟨x2, h6, E⟩ := ob E
    refine g_inv2 (dc := 0) rfl (by omega) ty_m (Nat.le_of_ble_eq_true rfl) (fun d hd => tm_at hd v1 (39 + v5) S0 _ h6) ?_
    obtain ⟨S4, h7, E⟩ := ob E
    refine g_inv3 (dc := 0) rfl (by omega) ty_m (Nat.le_of_ble_eq_true rfl) (fun d hd => tm_sets hd v1 (14 + v5) x2 S0 _ h7) ?_
    refine g_iinc (L2 := [(5, .inl (v5 + 1)), (0, .inr (some (some 697))), (1, .inl v1), (2, .inl v2), (3, .inl v3), (4, .inl v4)]) rfl rfl rfl ?_
    refine g_goto rfl ?_
    exact g_loc (lsub_cons rfl (lsub_cons rfl (lsub_cons rfl (lsub_cons rfl (lsub_cons rfl (lsub_cons rfl lsub_nil)))))) (hk80 v1 v2 v3 v4 (v5 + 1) S4 _ E)
def fm_comesBack_80  : Nat → Int32 → Int32 → Int32 → Int32 → Int32 → Mem → Option Mem
  | 0 => fun _ _ _ _ _ _ => none
  | n + 1 => fm_comesBack_80b  (fm_comesBack_80  n)
set_option maxRecDepth 20000 in
set_option maxHeartbeats 4000000 in
theorem tm_comesBack_80 {scr : Nat × (Nat → Int32)} {d : Nat} (hd : 1 ≤ d)  : ∀ (n : Nat) (v1 : Int32) (v2 : Int32) (v3 : Int32) (v4 : Int32) (v5 : Int32) (S0 : Mem), ∀ (SR : Mem), fm_comesBack_80  n v1 v2 v3 v4 v5 S0 = some SR → XG scr d 115 80 [(0, .inr (some (some 697))), (1, .inl v1), (2, .inl v2), (3, .inl v3), (4, .inl v4), (5, .inl v5)] [] S0 none SR
  | 0, v1, v2, v3, v4, v5, S0, SR, E => nn E
  | n + 1, v1, v2, v3, v4, v5, S0, SR, E => tm_comesBack_80b hd  (tm_comesBack_80 hd  n) v1 v2 v3 v4 v5 S0  SR E
def fm_comesBack_41b (k41 : Int32 → Int32 → Int32 → Int32 → Int32 → Mem → Option Mem) (v1 : Int32) (v2 : Int32) (v3 : Int32) (v4 : Int32) (v5 : Int32) (S0 : Mem) : Option Mem := if v5 < 0 then (fm_comesBack_80 LF v1 v2 v3 v4 0 S0) else ((fm_at v1 (14 + v5) S0).bind fun x1 => (fm_sets v1 ((14 + (2 * v4)) + v5) x1 S0).bind fun S1 => k41 v1 v2 v3 v4 (v5 + (-1)) S1)
set_option maxRecDepth 20000 in
set_option maxHeartbeats 4000000 in
theorem tm_comesBack_41b {scr : Nat × (Nat → Int32)} {d : Nat} (hd : 1 ≤ d) {k41 : Int32 → Int32 → Int32 → Int32 → Int32 → Mem → Option Mem} (hk41 : ∀ (v1 : Int32) (v2 : Int32) (v3 : Int32) (v4 : Int32) (v5 : Int32) (S0 : Mem), ∀ (SR : Mem), k41 v1 v2 v3 v4 v5 S0 = some SR → XG scr d 115 41 [(0, .inr (some (some 697))), (1, .inl v1), (2, .inl v2), (3, .inl v3), (4, .inl v4), (5, .inl v5)] [] S0 none SR) (v1 : Int32) (v2 : Int32) (v3 : Int32) (v4 : Int32) (v5 : Int32) (S0 : Mem)  (SR : Mem) (E : fm_comesBack_41b k41 v1 v2 v3 v4 v5 S0 = some SR) : XG scr d 115 41 [(0, .inr (some (some 697))), (1, .inl v1), (2, .inl v2), (3, .inl v3), (4, .inl v4), (5, .inl v5)] [] S0 none SR := by
  unfold fm_comesBack_41b at E
  refine g_iload rfl rfl ?_
  rcases xif E with ⟨h1, E⟩ | ⟨h1, E⟩
  · refine g_iflt_t rfl h1 ?_
    refine g_push rfl ?_
    refine g_istore (L2 := [(5, .inl 0), (0, .inr (some (some 697))), (1, .inl v1), (2, .inl v2), (3, .inl v3), (4, .inl v4)]) rfl rfl ?_
    exact g_loc (lsub_cons rfl (lsub_cons rfl (lsub_cons rfl (lsub_cons rfl (lsub_cons rfl (lsub_cons rfl lsub_nil)))))) (tm_comesBack_80 hd LF v1 v2 v3 v4 0 S0 _ E)
  · refine g_iflt_f rfl h1 ?_
    refine g_aload rfl rfl ?_
    refine g_iload rfl rfl ?_
    refine g_push rfl ?_
    refine g_push rfl ?_
    refine g_iload rfl rfl ?_
    refine g_imul rfl ?_
    refine g_iadd rfl ?_
    refine g_iload rfl rfl ?_
    refine g_iadd rfl ?_
    refine g_aload rfl rfl ?_
    refine g_iload rfl rfl ?_
    refine g_push rfl ?_
    refine g_iload rfl rfl ?_
    refine g_iadd rfl ?_
    obtain ⟨x1, h2, E⟩ := ob E
    refine g_inv2 (dc := 0) rfl (by omega) ty_m (Nat.le_of_ble_eq_true rfl) (fun d hd => tm_at hd v1 (14 + v5) S0 _ h2) ?_
    obtain ⟨S1, h3, E⟩ := ob E
    refine g_inv3 (dc := 0) rfl (by omega) ty_m (Nat.le_of_ble_eq_true rfl) (fun d hd => tm_sets hd v1 ((14 + (2 * v4)) + v5) x1 S0 _ h3) ?_
    refine g_iinc (L2 := [(5, .inl (v5 + (-1))), (0, .inr (some (some 697))), (1, .inl v1), (2, .inl v2), (3, .inl v3), (4, .inl v4)]) rfl rfl rfl ?_
    refine g_goto rfl ?_
    exact g_loc (lsub_cons rfl (lsub_cons rfl (lsub_cons rfl (lsub_cons rfl (lsub_cons rfl (lsub_cons rfl lsub_nil)))))) (hk41 v1 v2 v3 v4 (v5 + (-1)) S1 _ E)
def fm_comesBack_41  : Nat → Int32 → Int32 → Int32 → Int32 → Int32 → Mem → Option Mem
  | 0 => fun _ _ _ _ _ _ => none
  | n + 1 => fm_comesBack_41b  (fm_comesBack_41  n)
set_option maxRecDepth 20000 in
set_option maxHeartbeats 4000000 in
theorem tm_comesBack_41 {scr : Nat × (Nat → Int32)} {d : Nat} (hd : 1 ≤ d)  : ∀ (n : Nat) (v1 : Int32) (v2 : Int32) (v3 : Int32) (v4 : Int32) (v5 : Int32) (S0 : Mem), ∀ (SR : Mem), fm_comesBack_41  n v1 v2 v3 v4 v5 S0 = some SR → XG scr d 115 41 [(0, .inr (some (some 697))), (1, .inl v1), (2, .inl v2), (3, .inl v3), (4, .inl v4), (5, .inl v5)] [] S0 none SR
  | 0, v1, v2, v3, v4, v5, S0, SR, E => nn E
  | n + 1, v1, v2, v3, v4, v5, S0, SR, E => tm_comesBack_41b hd  (tm_comesBack_41 hd  n) v1 v2 v3 v4 v5 S0  SR E
def fm_comesBack (v1 : Int32) (S0 : Mem) : Option Mem := (fm_at v1 13 S0).bind fun x1 => (fm_at v1 38 S0).bind fun x2 => if (12 - x1) ≤ x2 then (fm_comesBack_41 LF v1 x1 x2 (12 - x1) ((2 * x1) - 1) S0) else (fm_comesBack_41 LF v1 x1 x2 x2 ((2 * x1) - 1) S0)
set_option maxRecDepth 20000 in
set_option maxHeartbeats 4000000 in
theorem tm_comesBack {scr : Nat × (Nat → Int32)} {d : Nat} (hd : 1 ≤ d) (v1 : Int32) (S0 : Mem)  (SR : Mem) (E : fm_comesBack  v1 S0 = some SR) : XG scr d 115 0 [(0, .inr (some (some 697))), (1, .inl v1)] [] S0 none SR := by
  unfold fm_comesBack at E
  refine g_aload rfl rfl ?_
  refine g_iload rfl rfl ?_
  refine g_push rfl ?_
  obtain ⟨x1, h1, E⟩ := ob E
  refine g_inv2 (dc := 0) rfl (by omega) ty_m (Nat.le_of_ble_eq_true rfl) (fun d hd => tm_at hd v1 13 S0 _ h1) ?_
  refine g_istore (L2 := [(2, .inl x1), (0, .inr (some (some 697))), (1, .inl v1)]) rfl rfl ?_
  refine g_aload rfl rfl ?_
  refine g_iload rfl rfl ?_
  refine g_push rfl ?_
  obtain ⟨x2, h2, E⟩ := ob E
  refine g_inv2 (dc := 0) rfl (by omega) ty_m (Nat.le_of_ble_eq_true rfl) (fun d hd => tm_at hd v1 38 S0 _ h2) ?_
  refine g_istore (L2 := [(3, .inl x2), (2, .inl x1), (0, .inr (some (some 697))), (1, .inl v1)]) rfl rfl ?_
  refine g_iload rfl rfl ?_
  refine g_push rfl ?_
  refine g_iload rfl rfl ?_
  refine g_isub rfl ?_
  rcases xif E with ⟨h3, E⟩ | ⟨h3, E⟩
  · refine g_icge_t rfl h3 ?_
    refine g_push rfl ?_
    refine g_iload rfl rfl ?_
    refine g_isub rfl ?_
    refine g_istore (L2 := [(4, .inl (12 - x1)), (3, .inl x2), (2, .inl x1), (0, .inr (some (some 697))), (1, .inl v1)]) rfl rfl ?_
    refine g_push rfl ?_
    refine g_iload rfl rfl ?_
    refine g_imul rfl ?_
    refine g_push rfl ?_
    refine g_isub rfl ?_
    refine g_istore (L2 := [(5, .inl ((2 * x1) - 1)), (4, .inl (12 - x1)), (3, .inl x2), (2, .inl x1), (0, .inr (some (some 697))), (1, .inl v1)]) rfl rfl ?_
    exact g_loc (lsub_cons rfl (lsub_cons rfl (lsub_cons rfl (lsub_cons rfl (lsub_cons rfl (lsub_cons rfl lsub_nil)))))) (tm_comesBack_41 hd LF v1 x1 x2 (12 - x1) ((2 * x1) - 1) S0 _ E)
  · refine g_icge_f rfl h3 ?_
    refine g_iload rfl rfl ?_
    refine g_goto rfl ?_
    refine g_istore (L2 := [(4, .inl x2), (3, .inl x2), (2, .inl x1), (0, .inr (some (some 697))), (1, .inl v1)]) rfl rfl ?_
    refine g_push rfl ?_
    refine g_iload rfl rfl ?_
    refine g_imul rfl ?_
    refine g_push rfl ?_
    refine g_isub rfl ?_
    refine g_istore (L2 := [(5, .inl ((2 * x1) - 1)), (4, .inl x2), (3, .inl x2), (2, .inl x1), (0, .inr (some (some 697))), (1, .inl v1)]) rfl rfl ?_
    exact g_loc (lsub_cons rfl (lsub_cons rfl (lsub_cons rfl (lsub_cons rfl (lsub_cons rfl (lsub_cons rfl lsub_nil)))))) (tm_comesBack_41 hd LF v1 x1 x2 x2 ((2 * x1) - 1) S0 _ E)
def fm_restarts (v1 : Int32) (S0 : Mem) : Option Mem := (fm_stopsChildren (fm_stops 14) v1 S0).bind fun S1 => (fm_sets v1 6 0 S1).bind fun S2 => (fm_forgets v1 S2).bind fun S3 => (fm_comesBack v1 S3).bind fun S4 => (some (up2 S4 697 6 ((S4 697 6) ||| (1 <<< (v1 &&& 31))))).bind fun S5 => some S5
set_option maxRecDepth 20000 in
set_option maxHeartbeats 4000000 in
theorem tm_restarts {scr : Nat × (Nat → Int32)} {d : Nat} (hd : 35 ≤ d) (v1 : Int32) (S0 : Mem)  (SR : Mem) (E : fm_restarts  v1 S0 = some SR) : XG scr d 163 0 [(0, .inr (some (some 697))), (1, .inl v1)] [] S0 none SR := by
  unfold fm_restarts at E
  refine g_aload rfl rfl ?_
  refine g_iload rfl rfl ?_
  obtain ⟨S1, h1, E⟩ := ob E
  refine g_inv1 (dc := 34) rfl (by omega) ty_m (Nat.le_of_ble_eq_true rfl) (fun d hd => tm_stopsChildren (D := 28) (by omega) (fun d hd => tm_stops 14 d (by omega)) v1 S0 _ h1) ?_
  refine g_aload rfl rfl ?_
  refine g_iload rfl rfl ?_
  refine g_push rfl ?_
  refine g_push rfl ?_
  obtain ⟨S2, h2, E⟩ := ob E
  refine g_inv3 (dc := 0) rfl (by omega) ty_m (Nat.le_of_ble_eq_true rfl) (fun d hd => tm_sets hd v1 6 0 S1 _ h2) ?_
  refine g_aload rfl rfl ?_
  refine g_iload rfl rfl ?_
  obtain ⟨S3, h3, E⟩ := ob E
  refine g_inv1 (dc := 1) rfl (by omega) ty_m (Nat.le_of_ble_eq_true rfl) (fun d hd => tm_forgets hd v1 S2 _ h3) ?_
  refine g_aload rfl rfl ?_
  refine g_iload rfl rfl ?_
  obtain ⟨S4, h4, E⟩ := ob E
  refine g_inv1 (dc := 1) rfl (by omega) ty_m (Nat.le_of_ble_eq_true rfl) (fun d hd => tm_comesBack hd v1 S3 _ h4) ?_
  refine g_aload rfl rfl ?_
  refine g_dup rfl ?_
  refine g_getI rfl ty_m ?_
  refine g_push rfl ?_
  refine g_iload rfl rfl ?_
  refine g_ishl rfl ?_
  refine g_ior rfl ?_
  obtain ⟨S5, hS5, E⟩ := ob E
  refine g_putI rfl ty_m hS5 ?_
  obtain rfl := so1 E
  exact g_ret rfl
def fm_fails_240b (k240 : Int32 → Int32 → Int32 → Int32 → Mem → Option Mem) (v3 : Int32) (v5 : Int32) (v6 : Int32) (v7 : Int32) (S0 : Mem) : Option Mem := (ald S0 698 924).bind fun x1 => if x1 ≤ v7 then (some S0) else (if v7 = v3 then ((fm_isLiveChild v7 v5 S0).bind fun x2 => if x2 = 0 then (k240 v3 v5 v6 (v7 + 1) S0) else ((fm_restarts v7 S0).bind fun S1 => k240 v3 v5 v6 (v7 + 1) S1)) else (if v6 = 1 then ((fm_isLiveChild v7 v5 S0).bind fun x3 => if x3 = 0 then (k240 v3 v5 v6 (v7 + 1) S0) else ((fm_restarts v7 S0).bind fun S2 => k240 v3 v5 v6 (v7 + 1) S2)) else (if v6 = 2 then (if v7 ≤ v3 then (k240 v3 v5 v6 (v7 + 1) S0) else ((fm_isLiveChild v7 v5 S0).bind fun x4 => if x4 = 0 then (k240 v3 v5 v6 (v7 + 1) S0) else ((fm_restarts v7 S0).bind fun S3 => k240 v3 v5 v6 (v7 + 1) S3))) else (k240 v3 v5 v6 (v7 + 1) S0))))
set_option maxRecDepth 20000 in
set_option maxHeartbeats 4000000 in
theorem tm_fails_240b {scr : Nat × (Nat → Int32)} {d : Nat} (hd : 36 ≤ d) {k240 : Int32 → Int32 → Int32 → Int32 → Mem → Option Mem} (hk240 : ∀ (v3 : Int32) (v5 : Int32) (v6 : Int32) (v7 : Int32) (S0 : Mem), ∀ (SR : Mem), k240 v3 v5 v6 v7 S0 = some SR → XG scr d 125 240 [(0, .inr (some (some 697))), (3, .inl v3), (5, .inl v5), (6, .inl v6), (7, .inl v7)] [] S0 none SR) (v3 : Int32) (v5 : Int32) (v6 : Int32) (v7 : Int32) (S0 : Mem)  (SR : Mem) (E : fm_fails_240b k240 v3 v5 v6 v7 S0 = some SR) : XG scr d 125 240 [(0, .inr (some (some 697))), (3, .inl v3), (5, .inl v5), (6, .inl v6), (7, .inl v7)] [] S0 none SR := by
  unfold fm_fails_240b at E
  refine g_iload rfl rfl ?_
  refine g_aload rfl rfl ?_
  refine g_getR rfl ty_m (fR_8_0 ty_m) ?_
  refine g_push rfl ?_
  obtain ⟨x1, h1, E⟩ := ob E
  refine g_iald rfl fT_8_0 h1 ?_
  rcases xif E with ⟨h2, E⟩ | ⟨h2, E⟩
  · refine g_icge_t rfl h2 ?_
    obtain rfl := so1 E
    exact g_ret rfl
  · refine g_icge_f rfl h2 ?_
    refine g_iload rfl rfl ?_
    refine g_iload rfl rfl ?_
    rcases xif E with ⟨h3, E⟩ | ⟨h3, E⟩
    · refine g_iceq_t rfl h3 ?_
      refine g_push rfl ?_
      refine g_goto rfl ?_
      refine g_istore (L2 := [(8, .inl 1), (0, .inr (some (some 697))), (3, .inl v3), (5, .inl v5), (6, .inl v6), (7, .inl v7)]) rfl rfl ?_
      refine g_iload rfl rfl ?_
      refine g_ifeq_f rfl (by decide) ?_
      refine g_aload rfl rfl ?_
      refine g_iload rfl rfl ?_
      refine g_iload rfl rfl ?_
      obtain ⟨x2, h4, E⟩ := ob E
      refine g_inv2 (dc := 2) rfl (by omega) ty_m (Nat.le_of_ble_eq_true rfl) (fun d hd => tm_isLiveChild hd v7 v5 S0 _ h4) ?_
      rcases xif E with ⟨h5, E⟩ | ⟨h5, E⟩
      · refine g_ifeq_t rfl h5 ?_
        refine g_iinc (L2 := [(7, .inl (v7 + 1)), (8, .inl 1), (0, .inr (some (some 697))), (3, .inl v3), (5, .inl v5), (6, .inl v6)]) rfl rfl rfl ?_
        refine g_goto rfl ?_
        exact g_loc (lsub_cons rfl (lsub_cons rfl (lsub_cons rfl (lsub_cons rfl (lsub_cons rfl lsub_nil))))) (hk240 v3 v5 v6 (v7 + 1) S0 _ E)
      · refine g_ifeq_f rfl h5 ?_
        refine g_aload rfl rfl ?_
        refine g_iload rfl rfl ?_
        obtain ⟨S1, h6, E⟩ := ob E
        refine g_inv1 (dc := 35) rfl (by omega) ty_m (Nat.le_of_ble_eq_true rfl) (fun d hd => tm_restarts hd v7 S0 _ h6) ?_
        refine g_iinc (L2 := [(7, .inl (v7 + 1)), (8, .inl 1), (0, .inr (some (some 697))), (3, .inl v3), (5, .inl v5), (6, .inl v6)]) rfl rfl rfl ?_
        refine g_goto rfl ?_
        exact g_loc (lsub_cons rfl (lsub_cons rfl (lsub_cons rfl (lsub_cons rfl (lsub_cons rfl lsub_nil))))) (hk240 v3 v5 v6 (v7 + 1) S1 _ E)
    · refine g_iceq_f rfl h3 ?_
      refine g_iload rfl rfl ?_
      refine g_push rfl ?_
      rcases xif E with ⟨h7, E⟩ | ⟨h7, E⟩
      · refine g_iceq_t rfl h7 ?_
        refine g_push rfl ?_
        refine g_goto rfl ?_
        refine g_istore (L2 := [(8, .inl 1), (0, .inr (some (some 697))), (3, .inl v3), (5, .inl v5), (6, .inl v6), (7, .inl v7)]) rfl rfl ?_
        refine g_iload rfl rfl ?_
        refine g_ifeq_f rfl (by decide) ?_
        refine g_aload rfl rfl ?_
        refine g_iload rfl rfl ?_
        refine g_iload rfl rfl ?_
        obtain ⟨x3, h8, E⟩ := ob E
        refine g_inv2 (dc := 2) rfl (by omega) ty_m (Nat.le_of_ble_eq_true rfl) (fun d hd => tm_isLiveChild hd v7 v5 S0 _ h8) ?_
        rcases xif E with ⟨h9, E⟩ | ⟨h9, E⟩
        · refine g_ifeq_t rfl h9 ?_
          refine g_iinc (L2 := [(7, .inl (v7 + 1)), (8, .inl 1), (0, .inr (some (some 697))), (3, .inl v3), (5, .inl v5), (6, .inl v6)]) rfl rfl rfl ?_
          refine g_goto rfl ?_
          exact g_loc (lsub_cons rfl (lsub_cons rfl (lsub_cons rfl (lsub_cons rfl (lsub_cons rfl lsub_nil))))) (hk240 v3 v5 v6 (v7 + 1) S0 _ E)
        · refine g_ifeq_f rfl h9 ?_
          refine g_aload rfl rfl ?_
          refine g_iload rfl rfl ?_
          obtain ⟨S2, h10, E⟩ := ob E
          refine g_inv1 (dc := 35) rfl (by omega) ty_m (Nat.le_of_ble_eq_true rfl) (fun d hd => tm_restarts hd v7 S0 _ h10) ?_
          refine g_iinc (L2 := [(7, .inl (v7 + 1)), (8, .inl 1), (0, .inr (some (some 697))), (3, .inl v3), (5, .inl v5), (6, .inl v6)]) rfl rfl rfl ?_
          refine g_goto rfl ?_
          exact g_loc (lsub_cons rfl (lsub_cons rfl (lsub_cons rfl (lsub_cons rfl (lsub_cons rfl lsub_nil))))) (hk240 v3 v5 v6 (v7 + 1) S2 _ E)
      · refine g_iceq_f rfl h7 ?_
        refine g_iload rfl rfl ?_
        refine g_push rfl ?_
        rcases xif E with ⟨h11, E⟩ | ⟨h11, E⟩
        · refine g_icne_t rfl h11 ?_
          refine g_iload rfl rfl ?_
          refine g_iload rfl rfl ?_
          rcases xif E with ⟨h12, E⟩ | ⟨h12, E⟩
          · refine g_icle_t rfl h12 ?_
            refine g_push rfl ?_
            refine g_istore (L2 := [(8, .inl 0), (0, .inr (some (some 697))), (3, .inl v3), (5, .inl v5), (6, .inl v6), (7, .inl v7)]) rfl rfl ?_
            refine g_iload rfl rfl ?_
            refine g_ifeq_t rfl (by decide) ?_
            refine g_iinc (L2 := [(7, .inl (v7 + 1)), (8, .inl 0), (0, .inr (some (some 697))), (3, .inl v3), (5, .inl v5), (6, .inl v6)]) rfl rfl rfl ?_
            refine g_goto rfl ?_
            exact g_loc (lsub_cons rfl (lsub_cons rfl (lsub_cons rfl (lsub_cons rfl (lsub_cons rfl lsub_nil))))) (hk240 v3 v5 v6 (v7 + 1) S0 _ E)
          · refine g_icle_f rfl h12 ?_
            refine g_push rfl ?_
            refine g_goto rfl ?_
            refine g_istore (L2 := [(8, .inl 1), (0, .inr (some (some 697))), (3, .inl v3), (5, .inl v5), (6, .inl v6), (7, .inl v7)]) rfl rfl ?_
            refine g_iload rfl rfl ?_
            refine g_ifeq_f rfl (by decide) ?_
            refine g_aload rfl rfl ?_
            refine g_iload rfl rfl ?_
            refine g_iload rfl rfl ?_
            obtain ⟨x4, h13, E⟩ := ob E
            refine g_inv2 (dc := 2) rfl (by omega) ty_m (Nat.le_of_ble_eq_true rfl) (fun d hd => tm_isLiveChild hd v7 v5 S0 _ h13) ?_
            rcases xif E with ⟨h14, E⟩ | ⟨h14, E⟩
            · refine g_ifeq_t rfl h14 ?_
              refine g_iinc (L2 := [(7, .inl (v7 + 1)), (8, .inl 1), (0, .inr (some (some 697))), (3, .inl v3), (5, .inl v5), (6, .inl v6)]) rfl rfl rfl ?_
              refine g_goto rfl ?_
              exact g_loc (lsub_cons rfl (lsub_cons rfl (lsub_cons rfl (lsub_cons rfl (lsub_cons rfl lsub_nil))))) (hk240 v3 v5 v6 (v7 + 1) S0 _ E)
            · refine g_ifeq_f rfl h14 ?_
              refine g_aload rfl rfl ?_
              refine g_iload rfl rfl ?_
              obtain ⟨S3, h15, E⟩ := ob E
              refine g_inv1 (dc := 35) rfl (by omega) ty_m (Nat.le_of_ble_eq_true rfl) (fun d hd => tm_restarts hd v7 S0 _ h15) ?_
              refine g_iinc (L2 := [(7, .inl (v7 + 1)), (8, .inl 1), (0, .inr (some (some 697))), (3, .inl v3), (5, .inl v5), (6, .inl v6)]) rfl rfl rfl ?_
              refine g_goto rfl ?_
              exact g_loc (lsub_cons rfl (lsub_cons rfl (lsub_cons rfl (lsub_cons rfl (lsub_cons rfl lsub_nil))))) (hk240 v3 v5 v6 (v7 + 1) S3 _ E)
        · refine g_icne_f rfl h11 ?_
          refine g_push rfl ?_
          refine g_istore (L2 := [(8, .inl 0), (0, .inr (some (some 697))), (3, .inl v3), (5, .inl v5), (6, .inl v6), (7, .inl v7)]) rfl rfl ?_
          refine g_iload rfl rfl ?_
          refine g_ifeq_t rfl (by decide) ?_
          refine g_iinc (L2 := [(7, .inl (v7 + 1)), (8, .inl 0), (0, .inr (some (some 697))), (3, .inl v3), (5, .inl v5), (6, .inl v6)]) rfl rfl rfl ?_
          refine g_goto rfl ?_
          exact g_loc (lsub_cons rfl (lsub_cons rfl (lsub_cons rfl (lsub_cons rfl (lsub_cons rfl lsub_nil))))) (hk240 v3 v5 v6 (v7 + 1) S0 _ E)
def fm_fails_240  : Nat → Int32 → Int32 → Int32 → Int32 → Mem → Option Mem
  | 0 => fun _ _ _ _ _ => none
  | n + 1 => fm_fails_240b  (fm_fails_240  n)
set_option maxRecDepth 20000 in
set_option maxHeartbeats 4000000 in
theorem tm_fails_240 {scr : Nat × (Nat → Int32)} {d : Nat} (hd : 36 ≤ d)  : ∀ (n : Nat) (v3 : Int32) (v5 : Int32) (v6 : Int32) (v7 : Int32) (S0 : Mem), ∀ (SR : Mem), fm_fails_240  n v3 v5 v6 v7 S0 = some SR → XG scr d 125 240 [(0, .inr (some (some 697))), (3, .inl v3), (5, .inl v5), (6, .inl v6), (7, .inl v7)] [] S0 none SR
  | 0, v3, v5, v6, v7, S0, SR, E => nn E
  | n + 1, v3, v5, v6, v7, S0, SR, E => tm_fails_240b hd  (tm_fails_240 hd  n) v3 v5 v6 v7 S0  SR E
def fm_fails_132b (k132 : Int32 → Int32 → Mem → Option Mem) (v3 : Int32) (v5 : Int32) (S0 : Mem) : Option Mem := if (S0 697 9) ≤ v5 then ((fm_at v3 0 S0).bind fun x1 => if 0 ≤ x1 then ((fm_at x1 2 S0).bind fun x2 => fm_fails_240 LF v3 x1 x2 0 S0) else ((fm_stops 14 v3 S0).bind fun S1 => some S1)) else ((ald S0 702 (2 * (((S0 697 9) - 1) - v5))).bind fun x3 => (ast S0 698 (994 + (2 * v5)) x3).bind fun S2 => (ald S2 702 ((2 * (((S2 697 9) - 1) - v5)) + 1)).bind fun x4 => (ast S2 698 ((994 + (2 * v5)) + 1) x4).bind fun S3 => k132 v3 (v5 + 1) S3)
set_option maxRecDepth 20000 in
set_option maxHeartbeats 4000000 in
theorem tm_fails_132b {scr : Nat × (Nat → Int32)} {d : Nat} (hd : 36 ≤ d) {k132 : Int32 → Int32 → Mem → Option Mem} (hk132 : ∀ (v3 : Int32) (v5 : Int32) (S0 : Mem), ∀ (SR : Mem), k132 v3 v5 S0 = some SR → XG scr d 125 132 [(0, .inr (some (some 697))), (3, .inl v3), (5, .inl v5)] [] S0 none SR) (v3 : Int32) (v5 : Int32) (S0 : Mem)  (SR : Mem) (E : fm_fails_132b k132 v3 v5 S0 = some SR) : XG scr d 125 132 [(0, .inr (some (some 697))), (3, .inl v3), (5, .inl v5)] [] S0 none SR := by
  unfold fm_fails_132b at E
  refine g_iload rfl rfl ?_
  refine g_aload rfl rfl ?_
  refine g_getI rfl ty_m ?_
  rcases xif E with ⟨h1, E⟩ | ⟨h1, E⟩
  · refine g_icge_t rfl h1 ?_
    refine g_aload rfl rfl ?_
    refine g_iload rfl rfl ?_
    refine g_push rfl ?_
    obtain ⟨x1, h2, E⟩ := ob E
    refine g_inv2 (dc := 0) rfl (by omega) ty_m (Nat.le_of_ble_eq_true rfl) (fun d hd => tm_at hd v3 0 S0 _ h2) ?_
    refine g_istore (L2 := [(5, .inl x1), (0, .inr (some (some 697))), (3, .inl v3)]) rfl rfl ?_
    refine g_iload rfl rfl ?_
    rcases xif E with ⟨h3, E⟩ | ⟨h3, E⟩
    · refine g_ifge_t rfl h3 ?_
      refine g_aload rfl rfl ?_
      refine g_iload rfl rfl ?_
      refine g_push rfl ?_
      obtain ⟨x2, h4, E⟩ := ob E
      refine g_inv2 (dc := 0) rfl (by omega) ty_m (Nat.le_of_ble_eq_true rfl) (fun d hd => tm_at hd x1 2 S0 _ h4) ?_
      refine g_istore (L2 := [(6, .inl x2), (5, .inl x1), (0, .inr (some (some 697))), (3, .inl v3)]) rfl rfl ?_
      refine g_push rfl ?_
      refine g_istore (L2 := [(7, .inl 0), (6, .inl x2), (5, .inl x1), (0, .inr (some (some 697))), (3, .inl v3)]) rfl rfl ?_
      exact g_loc (lsub_cons rfl (lsub_cons rfl (lsub_cons rfl (lsub_cons rfl (lsub_cons rfl lsub_nil))))) (tm_fails_240 hd LF v3 x1 x2 0 S0 _ E)
    · refine g_ifge_f rfl h3 ?_
      refine g_aload rfl rfl ?_
      refine g_iload rfl rfl ?_
      obtain ⟨S1, h5, E⟩ := ob E
      refine g_inv1 (dc := 33) rfl (by omega) ty_m (Nat.le_of_ble_eq_true rfl) (fun d hd => tm_stops 14 d (by omega) v3 S0 _ h5) ?_
      obtain rfl := so1 E
      exact g_ret rfl
  · refine g_icge_f rfl h1 ?_
    refine g_aload rfl rfl ?_
    refine g_getR rfl ty_m (fR_8_0 ty_m) ?_
    refine g_push rfl ?_
    refine g_push rfl ?_
    refine g_iload rfl rfl ?_
    refine g_imul rfl ?_
    refine g_iadd rfl ?_
    refine g_aload rfl rfl ?_
    refine g_getR rfl ty_m (fR_8_8 ty_m) ?_
    refine g_push rfl ?_
    refine g_aload rfl rfl ?_
    refine g_getI rfl ty_m ?_
    refine g_push rfl ?_
    refine g_isub rfl ?_
    refine g_iload rfl rfl ?_
    refine g_isub rfl ?_
    refine g_imul rfl ?_
    obtain ⟨x3, h6, E⟩ := ob E
    refine g_iald rfl fT_8_8 h6 ?_
    obtain ⟨S2, h7, E⟩ := ob E
    refine g_iast rfl fT_8_0 h7 ?_
    refine g_aload rfl rfl ?_
    refine g_getR rfl ty_m (fR_8_0 ty_m) ?_
    refine g_push rfl ?_
    refine g_push rfl ?_
    refine g_iload rfl rfl ?_
    refine g_imul rfl ?_
    refine g_iadd rfl ?_
    refine g_push rfl ?_
    refine g_iadd rfl ?_
    refine g_aload rfl rfl ?_
    refine g_getR rfl ty_m (fR_8_8 ty_m) ?_
    refine g_push rfl ?_
    refine g_aload rfl rfl ?_
    refine g_getI rfl ty_m ?_
    refine g_push rfl ?_
    refine g_isub rfl ?_
    refine g_iload rfl rfl ?_
    refine g_isub rfl ?_
    refine g_imul rfl ?_
    refine g_push rfl ?_
    refine g_iadd rfl ?_
    obtain ⟨x4, h8, E⟩ := ob E
    refine g_iald rfl fT_8_8 h8 ?_
    obtain ⟨S3, h9, E⟩ := ob E
    refine g_iast rfl fT_8_0 h9 ?_
    refine g_iinc (L2 := [(5, .inl (v5 + 1)), (0, .inr (some (some 697))), (3, .inl v3)]) rfl rfl rfl ?_
    refine g_goto rfl ?_
    exact g_loc (lsub_cons rfl (lsub_cons rfl (lsub_cons rfl lsub_nil))) (hk132 v3 (v5 + 1) S3 _ E)
def fm_fails_132  : Nat → Int32 → Int32 → Mem → Option Mem
  | 0 => fun _ _ _ => none
  | n + 1 => fm_fails_132b  (fm_fails_132  n)
set_option maxRecDepth 20000 in
set_option maxHeartbeats 4000000 in
theorem tm_fails_132 {scr : Nat × (Nat → Int32)} {d : Nat} (hd : 36 ≤ d)  : ∀ (n : Nat) (v3 : Int32) (v5 : Int32) (S0 : Mem), ∀ (SR : Mem), fm_fails_132  n v3 v5 S0 = some SR → XG scr d 125 132 [(0, .inr (some (some 697))), (3, .inl v3), (5, .inl v5)] [] S0 none SR
  | 0, v3, v5, S0, SR, E => nn E
  | n + 1, v3, v5, S0, SR, E => tm_fails_132b hd  (tm_fails_132 hd  n) v3 v5 S0  SR E
def fm_fails_66 (k34 : Int32 → Int32 → Mem → Option Mem) (v3 : Int32) (v5 : Int32) (s0 : Int32) (S0 : Mem) : Option Mem := if s0 = 0 then (k34 v3 s0 S0) else ((ast S0 702 (2 * (S0 697 9)) v5).bind fun S1 => (ast S1 702 ((2 * (S1 697 9)) + 1) 9).bind fun S2 => (some (up2 S2 697 9 ((S2 697 9) + 1))).bind fun S3 => k34 v5 s0 S3)
set_option maxRecDepth 20000 in
set_option maxHeartbeats 4000000 in
theorem tm_fails_66 {scr : Nat × (Nat → Int32)} {d : Nat} (hd : 36 ≤ d) {k34 : Int32 → Int32 → Mem → Option Mem} (hk34 : ∀ (v3 : Int32) (v4 : Int32) (S0 : Mem), ∀ (SR : Mem), k34 v3 v4 S0 = some SR → XG scr d 125 34 [(0, .inr (some (some 697))), (3, .inl v3), (4, .inl v4)] [] S0 none SR) (v3 : Int32) (v5 : Int32) (s0 : Int32) (S0 : Mem)  (SR : Mem) (E : fm_fails_66 k34 v3 v5 s0 S0 = some SR) : XG scr d 125 66 [(0, .inr (some (some 697))), (3, .inl v3), (5, .inl v5)] [.inl s0] S0 none SR := by
  unfold fm_fails_66 at E
  refine g_istore (L2 := [(4, .inl s0), (0, .inr (some (some 697))), (3, .inl v3), (5, .inl v5)]) rfl rfl ?_
  refine g_iload rfl rfl ?_
  rcases xif E with ⟨h1, E⟩ | ⟨h1, E⟩
  · refine g_ifeq_t rfl h1 ?_
    refine g_goto rfl ?_
    exact g_loc (lsub_cons rfl (lsub_cons rfl (lsub_cons rfl lsub_nil))) (hk34 v3 s0 S0 _ E)
  · refine g_ifeq_f rfl h1 ?_
    refine g_iload rfl rfl ?_
    refine g_istore (L2 := [(3, .inl v5), (4, .inl s0), (0, .inr (some (some 697))), (5, .inl v5)]) rfl rfl ?_
    refine g_aload rfl rfl ?_
    refine g_getR rfl ty_m (fR_8_8 ty_m) ?_
    refine g_push rfl ?_
    refine g_aload rfl rfl ?_
    refine g_getI rfl ty_m ?_
    refine g_imul rfl ?_
    refine g_iload rfl rfl ?_
    obtain ⟨S1, h2, E⟩ := ob E
    refine g_iast rfl fT_8_8 h2 ?_
    refine g_aload rfl rfl ?_
    refine g_getR rfl ty_m (fR_8_8 ty_m) ?_
    refine g_push rfl ?_
    refine g_aload rfl rfl ?_
    refine g_getI rfl ty_m ?_
    refine g_imul rfl ?_
    refine g_push rfl ?_
    refine g_iadd rfl ?_
    refine g_push rfl ?_
    obtain ⟨S2, h3, E⟩ := ob E
    refine g_iast rfl fT_8_8 h3 ?_
    refine g_aload rfl rfl ?_
    refine g_dup rfl ?_
    refine g_getI rfl ty_m ?_
    refine g_push rfl ?_
    refine g_iadd rfl ?_
    obtain ⟨S3, hS3, E⟩ := ob E
    refine g_putI rfl ty_m hS3 ?_
    refine g_goto rfl ?_
    exact g_loc (lsub_cons rfl (lsub_cons rfl (lsub_cons rfl lsub_nil))) (hk34 v5 s0 S3 _ E)
def fm_fails_34b (k34 : Int32 → Int32 → Mem → Option Mem) (v3 : Int32) (v4 : Int32) (S0 : Mem) : Option Mem := if v4 = 0 then ((ast S0 698 993 (S0 697 9)).bind fun S1 => fm_fails_132 LF v3 0 S1) else ((fm_at v3 0 S0).bind fun x1 => if x1 < 0 then (fm_fails_66 k34 v3 x1 0 S0) else (bd (fm_isOverBudget x1 S0) fun x2 S2 => if x2 = 0 then (fm_fails_66 k34 v3 x1 0 S2) else (fm_fails_66 k34 v3 x1 1 S2)))
set_option maxRecDepth 20000 in
set_option maxHeartbeats 4000000 in
theorem tm_fails_34b {scr : Nat × (Nat → Int32)} {d : Nat} (hd : 36 ≤ d) {k34 : Int32 → Int32 → Mem → Option Mem} (hk34 : ∀ (v3 : Int32) (v4 : Int32) (S0 : Mem), ∀ (SR : Mem), k34 v3 v4 S0 = some SR → XG scr d 125 34 [(0, .inr (some (some 697))), (3, .inl v3), (4, .inl v4)] [] S0 none SR) (v3 : Int32) (v4 : Int32) (S0 : Mem)  (SR : Mem) (E : fm_fails_34b k34 v3 v4 S0 = some SR) : XG scr d 125 34 [(0, .inr (some (some 697))), (3, .inl v3), (4, .inl v4)] [] S0 none SR := by
  unfold fm_fails_34b at E
  refine g_iload rfl rfl ?_
  rcases xif E with ⟨h1, E⟩ | ⟨h1, E⟩
  · refine g_ifeq_t rfl h1 ?_
    refine g_aload rfl rfl ?_
    refine g_getR rfl ty_m (fR_8_0 ty_m) ?_
    refine g_push rfl ?_
    refine g_aload rfl rfl ?_
    refine g_getI rfl ty_m ?_
    obtain ⟨S1, h2, E⟩ := ob E
    refine g_iast rfl fT_8_0 h2 ?_
    refine g_push rfl ?_
    refine g_istore (L2 := [(5, .inl 0), (0, .inr (some (some 697))), (3, .inl v3), (4, .inl v4)]) rfl rfl ?_
    exact g_loc (lsub_cons rfl (lsub_cons rfl (lsub_cons rfl lsub_nil))) (tm_fails_132 hd LF v3 0 S1 _ E)
  · refine g_ifeq_f rfl h1 ?_
    refine g_aload rfl rfl ?_
    refine g_iload rfl rfl ?_
    refine g_push rfl ?_
    obtain ⟨x1, h3, E⟩ := ob E
    refine g_inv2 (dc := 0) rfl (by omega) ty_m (Nat.le_of_ble_eq_true rfl) (fun d hd => tm_at hd v3 0 S0 _ h3) ?_
    refine g_istore (L2 := [(5, .inl x1), (0, .inr (some (some 697))), (3, .inl v3), (4, .inl v4)]) rfl rfl ?_
    refine g_iload rfl rfl ?_
    rcases xif E with ⟨h4, E⟩ | ⟨h4, E⟩
    · refine g_iflt_t rfl h4 ?_
      refine g_push rfl ?_
      exact g_loc (lsub_cons rfl (lsub_cons rfl (lsub_cons rfl lsub_nil))) (tm_fails_66 hd hk34 v3 x1 0 S0 _ E)
    · refine g_iflt_f rfl h4 ?_
      refine g_aload rfl rfl ?_
      refine g_iload rfl rfl ?_
      obtain ⟨x2, S2, h5, E⟩ := ob2 E
      refine g_inv1 (dc := 2) rfl (by omega) ty_m (Nat.le_of_ble_eq_true rfl) (fun d hd => tm_isOverBudget hd x1 S0 _ _ h5) ?_
      rcases xif E with ⟨h6, E⟩ | ⟨h6, E⟩
      · refine g_ifeq_t rfl h6 ?_
        refine g_push rfl ?_
        exact g_loc (lsub_cons rfl (lsub_cons rfl (lsub_cons rfl lsub_nil))) (tm_fails_66 hd hk34 v3 x1 0 S2 _ E)
      · refine g_ifeq_f rfl h6 ?_
        refine g_push rfl ?_
        refine g_goto rfl ?_
        exact g_loc (lsub_cons rfl (lsub_cons rfl (lsub_cons rfl lsub_nil))) (tm_fails_66 hd hk34 v3 x1 1 S2 _ E)
def fm_fails_34  : Nat → Int32 → Int32 → Mem → Option Mem
  | 0 => fun _ _ _ => none
  | n + 1 => fm_fails_34b  (fm_fails_34  n)
set_option maxRecDepth 20000 in
set_option maxHeartbeats 4000000 in
theorem tm_fails_34 {scr : Nat × (Nat → Int32)} {d : Nat} (hd : 36 ≤ d)  : ∀ (n : Nat) (v3 : Int32) (v4 : Int32) (S0 : Mem), ∀ (SR : Mem), fm_fails_34  n v3 v4 S0 = some SR → XG scr d 125 34 [(0, .inr (some (some 697))), (3, .inl v3), (4, .inl v4)] [] S0 none SR
  | 0, v3, v4, S0, SR, E => nn E
  | n + 1, v3, v4, S0, SR, E => tm_fails_34b hd  (tm_fails_34 hd  n) v3 v4 S0  SR E
def fm_fails (v1 : Int32) (v2 : Int32) (S0 : Mem) : Option Mem := (some (up2 S0 697 5 1)).bind fun S1 => (some (up2 S1 697 9 0)).bind fun S2 => (ast S2 702 0 v1).bind fun S3 => (ast S3 702 1 v2).bind fun S4 => (some (up2 S4 697 9 1)).bind fun S5 => fm_fails_34 LF v1 1 S5
set_option maxRecDepth 20000 in
set_option maxHeartbeats 4000000 in
theorem tm_fails {scr : Nat × (Nat → Int32)} {d : Nat} (hd : 36 ≤ d) (v1 : Int32) (v2 : Int32) (S0 : Mem)  (SR : Mem) (E : fm_fails  v1 v2 S0 = some SR) : XG scr d 125 0 [(0, .inr (some (some 697))), (1, .inl v1), (2, .inl v2)] [] S0 none SR := by
  unfold fm_fails at E
  refine g_aload rfl rfl ?_
  refine g_push rfl ?_
  obtain ⟨S1, hS1, E⟩ := ob E
  refine g_putZ rfl ty_m b01 hS1 ?_
  refine g_aload rfl rfl ?_
  refine g_push rfl ?_
  obtain ⟨S2, hS2, E⟩ := ob E
  refine g_putI rfl ty_m hS2 ?_
  refine g_iload rfl rfl ?_
  refine g_istore (L2 := [(3, .inl v1), (0, .inr (some (some 697))), (1, .inl v1), (2, .inl v2)]) rfl rfl ?_
  refine g_aload rfl rfl ?_
  refine g_getR rfl ty_m (fR_8_8 ty_m) ?_
  refine g_push rfl ?_
  refine g_iload rfl rfl ?_
  obtain ⟨S3, h1, E⟩ := ob E
  refine g_iast rfl fT_8_8 h1 ?_
  refine g_aload rfl rfl ?_
  refine g_getR rfl ty_m (fR_8_8 ty_m) ?_
  refine g_push rfl ?_
  refine g_iload rfl rfl ?_
  obtain ⟨S4, h2, E⟩ := ob E
  refine g_iast rfl fT_8_8 h2 ?_
  refine g_aload rfl rfl ?_
  refine g_push rfl ?_
  obtain ⟨S5, hS5, E⟩ := ob E
  refine g_putI rfl ty_m hS5 ?_
  refine g_push rfl ?_
  refine g_istore (L2 := [(4, .inl 1), (3, .inl v1), (0, .inr (some (some 697))), (1, .inl v1), (2, .inl v2)]) rfl rfl ?_
  exact g_loc (lsub_cons rfl (lsub_cons rfl (lsub_cons rfl lsub_nil))) (tm_fails_34 hd LF v1 1 S5 _ E)
def fm_brings (v1 : Int32) (v2 : Int32) (S0 : Mem) : Option (Int32 × Mem) := (fm_isActor v1 S0).bind fun x1 => if x1 = 0 then (some ((-2000000000), S0)) else ((fm_in v2 0 2 S0).bind fun x2 => if x2 = 0 then (some ((-2000000000), S0)) else ((fm_isLive v1 S0).bind fun x3 => if x3 = 0 then (some ((-2000000000), S0)) else ((fm_take 698 699 S0).bind fun S1 => (fm_liveOnes S1).bind fun x4 => (some (up2 S1 697 6 0)).bind fun S2 => (fm_fails v1 5 S2).bind fun S3 => if v2 = 0 then ((fm_take 699 698 S3).bind fun S4 => some (S3 697 6, S4)) else (if v2 = 1 then ((fm_liveOnes S3).bind fun x5 => (fm_take 699 698 S3).bind fun S5 => some (x4 &&& (x5 ^^^ ((-1))), S5)) else ((ald S3 698 994).bind fun x6 => (fm_take 699 698 S3).bind fun S6 => some (x6, S6))))))
set_option maxRecDepth 20000 in
set_option maxHeartbeats 4000000 in
theorem tm_brings {scr : Nat × (Nat → Int32)} {d : Nat} (hd : 37 ≤ d) (v1 : Int32) (v2 : Int32) (S0 : Mem)  (rv : Int32) (SR : Mem) (E : fm_brings  v1 v2 S0 = some (rv, SR)) : XG scr d 111 0 [(0, .inr (some (some 697))), (1, .inl v1), (2, .inl v2)] [] S0 (some (.inl rv)) SR := by
  unfold fm_brings at E
  refine g_aload rfl rfl ?_
  refine g_iload rfl rfl ?_
  obtain ⟨x1, h1, E⟩ := ob E
  refine g_inv1 (dc := 1) rfl (by omega) ty_m (Nat.le_of_ble_eq_true rfl) (fun d hd => tm_isActor hd v1 S0 _ h1) ?_
  rcases xif E with ⟨h2, E⟩ | ⟨h2, E⟩
  · refine g_ifeq_t rfl h2 ?_
    refine g_push rfl ?_
    obtain ⟨rfl, rfl⟩ := so2 E
    exact g_iret rfl
  · refine g_ifeq_f rfl h2 ?_
    refine g_iload rfl rfl ?_
    refine g_push rfl ?_
    refine g_push rfl ?_
    obtain ⟨x2, h3, E⟩ := ob E
    refine g_invS3 (dc := 0) rfl (by omega) (Nat.le_of_ble_eq_true rfl) (fun d hd => tm_in hd v2 0 2 S0 _ h3) ?_
    rcases xif E with ⟨h4, E⟩ | ⟨h4, E⟩
    · refine g_ifeq_t rfl h4 ?_
      refine g_push rfl ?_
      obtain ⟨rfl, rfl⟩ := so2 E
      exact g_iret rfl
    · refine g_ifeq_f rfl h4 ?_
      refine g_aload rfl rfl ?_
      refine g_iload rfl rfl ?_
      obtain ⟨x3, h5, E⟩ := ob E
      refine g_inv1 (dc := 1) rfl (by omega) ty_m (Nat.le_of_ble_eq_true rfl) (fun d hd => tm_isLive hd v1 S0 _ h5) ?_
      rcases xif E with ⟨h6, E⟩ | ⟨h6, E⟩
      · refine g_ifne_t rfl h6 ?_
        refine g_push rfl ?_
        obtain ⟨rfl, rfl⟩ := so2 E
        exact g_iret rfl
      · refine g_ifne_f rfl h6 ?_
        refine g_aload rfl rfl ?_
        refine g_getR rfl ty_m (fR_8_0 ty_m) ?_
        refine g_aload rfl rfl ?_
        refine g_getR rfl ty_m (fR_8_1 ty_m) ?_
        obtain ⟨S1, h7, E⟩ := ob E
        refine g_invS2 (dc := 0) rfl (by omega) (Nat.le_of_ble_eq_true rfl) (fun d hd => tm_take hd 698 699 S0 fT_8_0 fT_8_1 _ h7) ?_
        refine g_aload rfl rfl ?_
        obtain ⟨x4, h8, E⟩ := ob E
        refine g_inv0 (dc := 2) rfl (by omega) ty_m (Nat.le_of_ble_eq_true rfl) (fun d hd => tm_liveOnes hd S1 _ h8) ?_
        refine g_istore (L2 := [(3, .inl x4), (0, .inr (some (some 697))), (1, .inl v1), (2, .inl v2)]) rfl rfl ?_
        refine g_aload rfl rfl ?_
        refine g_push rfl ?_
        obtain ⟨S2, hS2, E⟩ := ob E
        refine g_putI rfl ty_m hS2 ?_
        refine g_aload rfl rfl ?_
        refine g_iload rfl rfl ?_
        refine g_push rfl ?_
        obtain ⟨S3, h9, E⟩ := ob E
        refine g_inv2 (dc := 36) rfl (by omega) ty_m (Nat.le_of_ble_eq_true rfl) (fun d hd => tm_fails hd v1 5 S2 _ h9) ?_
        refine g_iload rfl rfl ?_
        rcases xif E with ⟨h10, E⟩ | ⟨h10, E⟩
        · refine g_ifne_t rfl h10 ?_
          refine g_aload rfl rfl ?_
          refine g_getI rfl ty_m ?_
          refine g_goto rfl ?_
          refine g_istore (L2 := [(4, .inl (S3 697 6)), (3, .inl x4), (0, .inr (some (some 697))), (1, .inl v1), (2, .inl v2)]) rfl rfl ?_
          refine g_aload rfl rfl ?_
          refine g_getR rfl ty_m (fR_8_1 ty_m) ?_
          refine g_aload rfl rfl ?_
          refine g_getR rfl ty_m (fR_8_0 ty_m) ?_
          obtain ⟨S4, h11, E⟩ := ob E
          refine g_invS2 (dc := 0) rfl (by omega) (Nat.le_of_ble_eq_true rfl) (fun d hd => tm_take hd 699 698 S3 fT_8_1 fT_8_0 _ h11) ?_
          refine g_iload rfl rfl ?_
          obtain ⟨rfl, rfl⟩ := so2 E
          exact g_iret rfl
        · refine g_ifne_f rfl h10 ?_
          refine g_iload rfl rfl ?_
          refine g_push rfl ?_
          rcases xif E with ⟨h12, E⟩ | ⟨h12, E⟩
          · refine g_icne_t rfl h12 ?_
            refine g_iload rfl rfl ?_
            refine g_aload rfl rfl ?_
            obtain ⟨x5, h13, E⟩ := ob E
            refine g_inv0 (dc := 2) rfl (by omega) ty_m (Nat.le_of_ble_eq_true rfl) (fun d hd => tm_liveOnes hd S3 _ h13) ?_
            refine g_push rfl ?_
            refine g_ixor rfl ?_
            refine g_iand rfl ?_
            refine g_goto rfl ?_
            refine g_istore (L2 := [(4, .inl (x4 &&& (x5 ^^^ ((-1))))), (3, .inl x4), (0, .inr (some (some 697))), (1, .inl v1), (2, .inl v2)]) rfl rfl ?_
            refine g_aload rfl rfl ?_
            refine g_getR rfl ty_m (fR_8_1 ty_m) ?_
            refine g_aload rfl rfl ?_
            refine g_getR rfl ty_m (fR_8_0 ty_m) ?_
            obtain ⟨S5, h14, E⟩ := ob E
            refine g_invS2 (dc := 0) rfl (by omega) (Nat.le_of_ble_eq_true rfl) (fun d hd => tm_take hd 699 698 S3 fT_8_1 fT_8_0 _ h14) ?_
            refine g_iload rfl rfl ?_
            obtain ⟨rfl, rfl⟩ := so2 E
            exact g_iret rfl
          · refine g_icne_f rfl h12 ?_
            refine g_aload rfl rfl ?_
            refine g_getR rfl ty_m (fR_8_0 ty_m) ?_
            refine g_push rfl ?_
            obtain ⟨x6, h15, E⟩ := ob E
            refine g_iald rfl fT_8_0 h15 ?_
            refine g_istore (L2 := [(4, .inl x6), (3, .inl x4), (0, .inr (some (some 697))), (1, .inl v1), (2, .inl v2)]) rfl rfl ?_
            refine g_aload rfl rfl ?_
            refine g_getR rfl ty_m (fR_8_1 ty_m) ?_
            refine g_aload rfl rfl ?_
            refine g_getR rfl ty_m (fR_8_0 ty_m) ?_
            obtain ⟨S6, h16, E⟩ := ob E
            refine g_invS2 (dc := 0) rfl (by omega) (Nat.le_of_ble_eq_true rfl) (fun d hd => tm_take hd 699 698 S3 fT_8_1 fT_8_0 _ h16) ?_
            refine g_iload rfl rfl ?_
            obtain ⟨rfl, rfl⟩ := so2 E
            exact g_iret rfl
def fm_cause (v1 : Int32) (v2 : Int32) (S0 : Mem) : Option Int32 := if v1 < 0 then (some ((-1))) else ((fm_in v2 0 1 S0).bind fun x1 => if x1 = 0 then (some ((-1))) else ((ald S0 698 993).bind fun x2 => if x2 ≤ v1 then (some ((-2))) else ((ald S0 698 ((994 + (2 * v1)) + v2)).bind fun x3 => some x3)))
set_option maxRecDepth 20000 in
set_option maxHeartbeats 4000000 in
theorem tm_cause {scr : Nat × (Nat → Int32)} {d : Nat} (hd : 1 ≤ d) (v1 : Int32) (v2 : Int32) (S0 : Mem)  (rv : Int32) (E : fm_cause  v1 v2 S0 = some rv) : XG scr d 113 0 [(0, .inr (some (some 697))), (1, .inl v1), (2, .inl v2)] [] S0 (some (.inl rv)) S0 := by
  unfold fm_cause at E
  refine g_iload rfl rfl ?_
  rcases xif E with ⟨h1, E⟩ | ⟨h1, E⟩
  · refine g_iflt_t rfl h1 ?_
    refine g_push rfl ?_
    obtain rfl := so1 E
    exact g_iret rfl
  · refine g_iflt_f rfl h1 ?_
    refine g_iload rfl rfl ?_
    refine g_push rfl ?_
    refine g_push rfl ?_
    obtain ⟨x1, h2, E⟩ := ob E
    refine g_invS3 (dc := 0) rfl (by omega) (Nat.le_of_ble_eq_true rfl) (fun d hd => tm_in hd v2 0 1 S0 _ h2) ?_
    rcases xif E with ⟨h3, E⟩ | ⟨h3, E⟩
    · refine g_ifne_t rfl h3 ?_
      refine g_push rfl ?_
      obtain rfl := so1 E
      exact g_iret rfl
    · refine g_ifne_f rfl h3 ?_
      refine g_iload rfl rfl ?_
      refine g_aload rfl rfl ?_
      refine g_getR rfl ty_m (fR_8_0 ty_m) ?_
      refine g_push rfl ?_
      obtain ⟨x2, h4, E⟩ := ob E
      refine g_iald rfl fT_8_0 h4 ?_
      rcases xif E with ⟨h5, E⟩ | ⟨h5, E⟩
      · refine g_icge_t rfl h5 ?_
        refine g_push rfl ?_
        obtain rfl := so1 E
        exact g_iret rfl
      · refine g_icge_f rfl h5 ?_
        refine g_aload rfl rfl ?_
        refine g_getR rfl ty_m (fR_8_0 ty_m) ?_
        refine g_push rfl ?_
        refine g_push rfl ?_
        refine g_iload rfl rfl ?_
        refine g_imul rfl ?_
        refine g_iadd rfl ?_
        refine g_iload rfl rfl ?_
        refine g_iadd rfl ?_
        obtain ⟨x3, h6, E⟩ := ob E
        refine g_iald rfl fT_8_0 h6 ?_
        refine g_goto rfl ?_
        obtain rfl := so1 E
        exact g_iret rfl
def fm_childrenOf_4b (k4 : Int32 → Int32 → Int32 → Mem → Option Int32) (v1 : Int32) (v2 : Int32) (v3 : Int32) (S0 : Mem) : Option Int32 := (ald S0 698 924).bind fun x1 => if x1 ≤ v3 then (some v2) else ((fm_at v3 0 S0).bind fun x2 => if x2 = v1 then (k4 v1 (v2 ||| (1 <<< (v3 &&& 31))) (v3 + 1) S0) else (k4 v1 (v2 ||| 0) (v3 + 1) S0))
set_option maxRecDepth 20000 in
set_option maxHeartbeats 4000000 in
theorem tm_childrenOf_4b {scr : Nat × (Nat → Int32)} {d : Nat} (hd : 1 ≤ d) {k4 : Int32 → Int32 → Int32 → Mem → Option Int32} (hk4 : ∀ (v1 : Int32) (v2 : Int32) (v3 : Int32) (S0 : Mem), ∀ (rv : Int32), k4 v1 v2 v3 S0 = some rv → XG scr d 114 4 [(0, .inr (some (some 697))), (1, .inl v1), (2, .inl v2), (3, .inl v3)] [] S0 (some (.inl rv)) S0) (v1 : Int32) (v2 : Int32) (v3 : Int32) (S0 : Mem)  (rv : Int32) (E : fm_childrenOf_4b k4 v1 v2 v3 S0 = some rv) : XG scr d 114 4 [(0, .inr (some (some 697))), (1, .inl v1), (2, .inl v2), (3, .inl v3)] [] S0 (some (.inl rv)) S0 := by
  unfold fm_childrenOf_4b at E
  refine g_iload rfl rfl ?_
  refine g_aload rfl rfl ?_
  refine g_getR rfl ty_m (fR_8_0 ty_m) ?_
  refine g_push rfl ?_
  obtain ⟨x1, h1, E⟩ := ob E
  refine g_iald rfl fT_8_0 h1 ?_
  rcases xif E with ⟨h2, E⟩ | ⟨h2, E⟩
  · refine g_icge_t rfl h2 ?_
    refine g_iload rfl rfl ?_
    obtain rfl := so1 E
    exact g_iret rfl
  · refine g_icge_f rfl h2 ?_
    refine g_iload rfl rfl ?_
    refine g_aload rfl rfl ?_
    refine g_iload rfl rfl ?_
    refine g_push rfl ?_
    obtain ⟨x2, h3, E⟩ := ob E
    refine g_inv2 (dc := 0) rfl (by omega) ty_m (Nat.le_of_ble_eq_true rfl) (fun d hd => tm_at hd v3 0 S0 _ h3) ?_
    refine g_iload rfl rfl ?_
    rcases xif E with ⟨h4, E⟩ | ⟨h4, E⟩
    · refine g_icne_t rfl h4 ?_
      refine g_push rfl ?_
      refine g_iload rfl rfl ?_
      refine g_ishl rfl ?_
      refine g_goto rfl ?_
      refine g_ior rfl ?_
      refine g_istore (L2 := [(2, .inl (v2 ||| (1 <<< (v3 &&& 31)))), (0, .inr (some (some 697))), (1, .inl v1), (3, .inl v3)]) rfl rfl ?_
      refine g_iinc (L2 := [(3, .inl (v3 + 1)), (2, .inl (v2 ||| (1 <<< (v3 &&& 31)))), (0, .inr (some (some 697))), (1, .inl v1)]) rfl rfl rfl ?_
      refine g_goto rfl ?_
      exact g_loc (lsub_cons rfl (lsub_cons rfl (lsub_cons rfl (lsub_cons rfl lsub_nil)))) (hk4 v1 (v2 ||| (1 <<< (v3 &&& 31))) (v3 + 1) S0 _ E)
    · refine g_icne_f rfl h4 ?_
      refine g_push rfl ?_
      refine g_ior rfl ?_
      refine g_istore (L2 := [(2, .inl (v2 ||| 0)), (0, .inr (some (some 697))), (1, .inl v1), (3, .inl v3)]) rfl rfl ?_
      refine g_iinc (L2 := [(3, .inl (v3 + 1)), (2, .inl (v2 ||| 0)), (0, .inr (some (some 697))), (1, .inl v1)]) rfl rfl rfl ?_
      refine g_goto rfl ?_
      exact g_loc (lsub_cons rfl (lsub_cons rfl (lsub_cons rfl (lsub_cons rfl lsub_nil)))) (hk4 v1 (v2 ||| 0) (v3 + 1) S0 _ E)
def fm_childrenOf_4  : Nat → Int32 → Int32 → Int32 → Mem → Option Int32
  | 0 => fun _ _ _ _ => none
  | n + 1 => fm_childrenOf_4b  (fm_childrenOf_4  n)
set_option maxRecDepth 20000 in
set_option maxHeartbeats 4000000 in
theorem tm_childrenOf_4 {scr : Nat × (Nat → Int32)} {d : Nat} (hd : 1 ≤ d)  : ∀ (n : Nat) (v1 : Int32) (v2 : Int32) (v3 : Int32) (S0 : Mem), ∀ (rv : Int32), fm_childrenOf_4  n v1 v2 v3 S0 = some rv → XG scr d 114 4 [(0, .inr (some (some 697))), (1, .inl v1), (2, .inl v2), (3, .inl v3)] [] S0 (some (.inl rv)) S0
  | 0, v1, v2, v3, S0, rv, E => nn E
  | n + 1, v1, v2, v3, S0, rv, E => tm_childrenOf_4b hd  (tm_childrenOf_4 hd  n) v1 v2 v3 S0  rv E
def fm_childrenOf (v1 : Int32) (S0 : Mem) : Option Int32 := fm_childrenOf_4 LF v1 0 0 S0
set_option maxRecDepth 20000 in
set_option maxHeartbeats 4000000 in
theorem tm_childrenOf {scr : Nat × (Nat → Int32)} {d : Nat} (hd : 1 ≤ d) (v1 : Int32) (S0 : Mem)  (rv : Int32) (E : fm_childrenOf  v1 S0 = some rv) : XG scr d 114 0 [(0, .inr (some (some 697))), (1, .inl v1)] [] S0 (some (.inl rv)) S0 := by
  unfold fm_childrenOf at E
  refine g_push rfl ?_
  refine g_istore (L2 := [(2, .inl 0), (0, .inr (some (some 697))), (1, .inl v1)]) rfl rfl ?_
  refine g_push rfl ?_
  refine g_istore (L2 := [(3, .inl 0), (2, .inl 0), (0, .inr (some (some 697))), (1, .inl v1)]) rfl rfl ?_
  exact g_loc (lsub_cons rfl (lsub_cons rfl (lsub_cons rfl (lsub_cons rfl lsub_nil)))) (tm_childrenOf_4 hd LF v1 0 0 S0 _ E)
def fm_count_75b (k75 : Int32 → Int32 → Mem → Option Int32) (v2 : Int32) (v3 : Int32) (S0 : Mem) : Option Int32 := (ald S0 698 924).bind fun x1 => if x1 ≤ v3 then (some v2) else ((fm_at v3 13 S0).bind fun x2 => k75 (v2 + x2) (v3 + 1) S0)
set_option maxRecDepth 20000 in
set_option maxHeartbeats 4000000 in
theorem tm_count_75b {scr : Nat × (Nat → Int32)} {d : Nat} (hd : 3 ≤ d) {k75 : Int32 → Int32 → Mem → Option Int32} (hk75 : ∀ (v2 : Int32) (v3 : Int32) (S0 : Mem), ∀ (rv : Int32), k75 v2 v3 S0 = some rv → XG scr d 116 75 [(0, .inr (some (some 697))), (2, .inl v2), (3, .inl v3)] [] S0 (some (.inl rv)) S0) (v2 : Int32) (v3 : Int32) (S0 : Mem)  (rv : Int32) (E : fm_count_75b k75 v2 v3 S0 = some rv) : XG scr d 116 75 [(0, .inr (some (some 697))), (2, .inl v2), (3, .inl v3)] [] S0 (some (.inl rv)) S0 := by
  unfold fm_count_75b at E
  refine g_iload rfl rfl ?_
  refine g_aload rfl rfl ?_
  refine g_getR rfl ty_m (fR_8_0 ty_m) ?_
  refine g_push rfl ?_
  obtain ⟨x1, h1, E⟩ := ob E
  refine g_iald rfl fT_8_0 h1 ?_
  rcases xif E with ⟨h2, E⟩ | ⟨h2, E⟩
  · refine g_icge_t rfl h2 ?_
    refine g_iload rfl rfl ?_
    obtain rfl := so1 E
    exact g_iret rfl
  · refine g_icge_f rfl h2 ?_
    refine g_iload rfl rfl ?_
    refine g_aload rfl rfl ?_
    refine g_iload rfl rfl ?_
    refine g_push rfl ?_
    obtain ⟨x2, h3, E⟩ := ob E
    refine g_inv2 (dc := 0) rfl (by omega) ty_m (Nat.le_of_ble_eq_true rfl) (fun d hd => tm_at hd v3 13 S0 _ h3) ?_
    refine g_iadd rfl ?_
    refine g_istore (L2 := [(2, .inl (v2 + x2)), (0, .inr (some (some 697))), (3, .inl v3)]) rfl rfl ?_
    refine g_iinc (L2 := [(3, .inl (v3 + 1)), (2, .inl (v2 + x2)), (0, .inr (some (some 697)))]) rfl rfl rfl ?_
    refine g_goto rfl ?_
    exact g_loc (lsub_cons rfl (lsub_cons rfl (lsub_cons rfl lsub_nil))) (hk75 (v2 + x2) (v3 + 1) S0 _ E)
def fm_count_75  : Nat → Int32 → Int32 → Mem → Option Int32
  | 0 => fun _ _ _ => none
  | n + 1 => fm_count_75b  (fm_count_75  n)
set_option maxRecDepth 20000 in
set_option maxHeartbeats 4000000 in
theorem tm_count_75 {scr : Nat × (Nat → Int32)} {d : Nat} (hd : 3 ≤ d)  : ∀ (n : Nat) (v2 : Int32) (v3 : Int32) (S0 : Mem), ∀ (rv : Int32), fm_count_75  n v2 v3 S0 = some rv → XG scr d 116 75 [(0, .inr (some (some 697))), (2, .inl v2), (3, .inl v3)] [] S0 (some (.inl rv)) S0
  | 0, v2, v3, S0, rv, E => nn E
  | n + 1, v2, v3, S0, rv, E => tm_count_75b hd  (tm_count_75 hd  n) v2 v3 S0  rv E
def fm_count (v1 : Int32) (S0 : Mem) : Option Int32 := if v1 = 0 then ((ald S0 698 924).bind fun x1 => some x1) else (if v1 = 1 then ((fm_liveOnes S0).bind fun x2 => (fm_bits x2 S0).bind fun x3 => some x3) else (if v1 = 2 then (fm_count_75 LF 0 0 S0) else (if v1 = 3 then ((ald S0 698 931).bind fun x4 => some x4) else (if v1 = 4 then ((ald S0 698 927).bind fun x5 => some x5) else (if v1 = 5 then ((ald S0 698 926).bind fun x6 => some x6) else (if v1 = 6 then ((ald S0 698 925).bind fun x7 => some x7) else (if v1 = 7 then ((ald S0 698 993).bind fun x8 => some x8) else (if v1 = 8 then ((ald S0 698 962).bind fun x9 => some x9) else (if v1 = 9 then (some (S0 697 11)) else (some ((-1))))))))))))
set_option maxRecDepth 20000 in
set_option maxHeartbeats 4000000 in
theorem tm_count {scr : Nat × (Nat → Int32)} {d : Nat} (hd : 3 ≤ d) (v1 : Int32) (S0 : Mem)  (rv : Int32) (E : fm_count  v1 S0 = some rv) : XG scr d 116 0 [(0, .inr (some (some 697))), (1, .inl v1)] [] S0 (some (.inl rv)) S0 := by
  unfold fm_count at E
  refine g_push rfl ?_
  refine g_istore (L2 := [(2, .inl 0), (0, .inr (some (some 697))), (1, .inl v1)]) rfl rfl ?_
  refine g_iload rfl rfl ?_
  rcases xif E with ⟨h1, E⟩ | ⟨h1, E⟩
  · refine g_tsw (u := 56) rfl (by rw [h1]; decide +kernel) ?_
    refine g_aload rfl rfl ?_
    refine g_getR rfl ty_m (fR_8_0 ty_m) ?_
    refine g_push rfl ?_
    obtain ⟨x1, h2, E⟩ := ob E
    refine g_iald rfl fT_8_0 h2 ?_
    obtain rfl := so1 E
    exact g_iret rfl
  · rcases xif E with ⟨h3, E⟩ | ⟨h3, E⟩
    · refine g_tsw (u := 65) rfl (by rw [h3]; decide +kernel) ?_
      refine g_aload rfl rfl ?_
      obtain ⟨x2, h4, E⟩ := ob E
      refine g_inv0 (dc := 2) rfl (by omega) ty_m (Nat.le_of_ble_eq_true rfl) (fun d hd => tm_liveOnes hd S0 _ h4) ?_
      obtain ⟨x3, h5, E⟩ := ob E
      refine g_invS1 (dc := 0) rfl (by omega) (Nat.le_of_ble_eq_true rfl) (fun d hd => tm_bits hd x2 S0 _ h5) ?_
      obtain rfl := so1 E
      exact g_iret rfl
    · rcases xif E with ⟨h6, E⟩ | ⟨h6, E⟩
      · refine g_tsw (u := 73) rfl (by rw [h6]; decide +kernel) ?_
        refine g_push rfl ?_
        refine g_istore (L2 := [(3, .inl 0), (2, .inl 0), (0, .inr (some (some 697))), (1, .inl v1)]) rfl rfl ?_
        exact g_loc (lsub_cons rfl (lsub_cons rfl (lsub_cons rfl lsub_nil))) (tm_count_75 hd LF 0 0 S0 _ E)
      · rcases xif E with ⟨h7, E⟩ | ⟨h7, E⟩
        · refine g_tsw (u := 105) rfl (by rw [h7]; decide +kernel) ?_
          refine g_aload rfl rfl ?_
          refine g_getR rfl ty_m (fR_8_0 ty_m) ?_
          refine g_push rfl ?_
          obtain ⟨x4, h8, E⟩ := ob E
          refine g_iald rfl fT_8_0 h8 ?_
          obtain rfl := so1 E
          exact g_iret rfl
        · rcases xif E with ⟨h9, E⟩ | ⟨h9, E⟩
          · refine g_tsw (u := 114) rfl (by rw [h9]; decide +kernel) ?_
            refine g_aload rfl rfl ?_
            refine g_getR rfl ty_m (fR_8_0 ty_m) ?_
            refine g_push rfl ?_
            obtain ⟨x5, h10, E⟩ := ob E
            refine g_iald rfl fT_8_0 h10 ?_
            obtain rfl := so1 E
            exact g_iret rfl
          · rcases xif E with ⟨h11, E⟩ | ⟨h11, E⟩
            · refine g_tsw (u := 123) rfl (by rw [h11]; decide +kernel) ?_
              refine g_aload rfl rfl ?_
              refine g_getR rfl ty_m (fR_8_0 ty_m) ?_
              refine g_push rfl ?_
              obtain ⟨x6, h12, E⟩ := ob E
              refine g_iald rfl fT_8_0 h12 ?_
              obtain rfl := so1 E
              exact g_iret rfl
            · rcases xif E with ⟨h13, E⟩ | ⟨h13, E⟩
              · refine g_tsw (u := 132) rfl (by rw [h13]; decide +kernel) ?_
                refine g_aload rfl rfl ?_
                refine g_getR rfl ty_m (fR_8_0 ty_m) ?_
                refine g_push rfl ?_
                obtain ⟨x7, h14, E⟩ := ob E
                refine g_iald rfl fT_8_0 h14 ?_
                obtain rfl := so1 E
                exact g_iret rfl
              · rcases xif E with ⟨h15, E⟩ | ⟨h15, E⟩
                · refine g_tsw (u := 141) rfl (by rw [h15]; decide +kernel) ?_
                  refine g_aload rfl rfl ?_
                  refine g_getR rfl ty_m (fR_8_0 ty_m) ?_
                  refine g_push rfl ?_
                  obtain ⟨x8, h16, E⟩ := ob E
                  refine g_iald rfl fT_8_0 h16 ?_
                  obtain rfl := so1 E
                  exact g_iret rfl
                · rcases xif E with ⟨h17, E⟩ | ⟨h17, E⟩
                  · refine g_tsw (u := 150) rfl (by rw [h17]; decide +kernel) ?_
                    refine g_aload rfl rfl ?_
                    refine g_getR rfl ty_m (fR_8_0 ty_m) ?_
                    refine g_push rfl ?_
                    obtain ⟨x9, h18, E⟩ := ob E
                    refine g_iald rfl fT_8_0 h18 ?_
                    obtain rfl := so1 E
                    exact g_iret rfl
                  · rcases xif E with ⟨h19, E⟩ | ⟨h19, E⟩
                    · refine g_tsw (u := 159) rfl (by rw [h19]; decide +kernel) ?_
                      refine g_aload rfl rfl ?_
                      refine g_getI rfl ty_m ?_
                      obtain rfl := so1 E
                      exact g_iret rfl
                    · refine g_tsw (u := 164) rfl (tsw_d (sw_def (n := 9) rfl _ (by decide +kernel) (fc h1 (fc h3 (fc h6 (fc h7 (fc h9 (fc h11 (fc h13 (fc h15 (fc h17 (fc h19 fn)))))))))))) ?_
                      refine g_push rfl ?_
                      obtain rfl := so1 E
                      exact g_iret rfl
def fm_counted (v1 : Int32) (S0 : Mem) : Option Int32 := (fm_isActor v1 S0).bind fun x1 => if x1 = 0 then (some ((-2000000000))) else ((fm_at v1 6 S0).bind fun x2 => some x2)
set_option maxRecDepth 20000 in
set_option maxHeartbeats 4000000 in
theorem tm_counted {scr : Nat × (Nat → Int32)} {d : Nat} (hd : 2 ≤ d) (v1 : Int32) (S0 : Mem)  (rv : Int32) (E : fm_counted  v1 S0 = some rv) : XG scr d 117 0 [(0, .inr (some (some 697))), (1, .inl v1)] [] S0 (some (.inl rv)) S0 := by
  unfold fm_counted at E
  refine g_aload rfl rfl ?_
  refine g_iload rfl rfl ?_
  obtain ⟨x1, h1, E⟩ := ob E
  refine g_inv1 (dc := 1) rfl (by omega) ty_m (Nat.le_of_ble_eq_true rfl) (fun d hd => tm_isActor hd v1 S0 _ h1) ?_
  rcases xif E with ⟨h2, E⟩ | ⟨h2, E⟩
  · refine g_ifeq_t rfl h2 ?_
    refine g_push rfl ?_
    obtain rfl := so1 E
    exact g_iret rfl
  · refine g_ifeq_f rfl h2 ?_
    refine g_aload rfl rfl ?_
    refine g_iload rfl rfl ?_
    refine g_push rfl ?_
    obtain ⟨x2, h3, E⟩ := ob E
    refine g_inv2 (dc := 0) rfl (by omega) ty_m (Nat.le_of_ble_eq_true rfl) (fun d hd => tm_at hd v1 6 S0 _ h3) ?_
    refine g_goto rfl ?_
    obtain rfl := so1 E
    exact g_iret rfl
def fm_doing (v1 : Int32) (S0 : Mem) : Option Int32 := (fm_at v1 7 S0).bind fun x1 => (fm_at v1 ((8 + x1) - 1) S0).bind fun x2 => some x2
set_option maxRecDepth 20000 in
set_option maxHeartbeats 4000000 in
theorem tm_doing {scr : Nat × (Nat → Int32)} {d : Nat} (hd : 1 ≤ d) (v1 : Int32) (S0 : Mem)  (rv : Int32) (E : fm_doing  v1 S0 = some rv) : XG scr d 121 0 [(0, .inr (some (some 697))), (1, .inl v1)] [] S0 (some (.inl rv)) S0 := by
  unfold fm_doing at E
  refine g_aload rfl rfl ?_
  refine g_iload rfl rfl ?_
  refine g_push rfl ?_
  refine g_aload rfl rfl ?_
  refine g_iload rfl rfl ?_
  refine g_push rfl ?_
  obtain ⟨x1, h1, E⟩ := ob E
  refine g_inv2 (dc := 0) rfl (by omega) ty_m (Nat.le_of_ble_eq_true rfl) (fun d hd => tm_at hd v1 7 S0 _ h1) ?_
  refine g_iadd rfl ?_
  refine g_push rfl ?_
  refine g_isub rfl ?_
  obtain ⟨x2, h2, E⟩ := ob E
  refine g_inv2 (dc := 0) rfl (by omega) ty_m (Nat.le_of_ble_eq_true rfl) (fun d hd => tm_at hd v1 ((8 + x1) - 1) S0 _ h2) ?_
  obtain rfl := so1 E
  exact g_iret rfl
def fm_pass_3b (k3 : Int32 → Int32 → Int32 → Int32 → Mem → Option Mem) (v1 : Int32) (v2 : Int32) (v3 : Int32) (v4 : Int32) (S0 : Mem) : Option Mem := (ald S0 698 924).bind fun x1 => if x1 ≤ v4 then (some S0) else ((fm_isLiveChild v4 v1 S0).bind fun x2 => if x2 = 0 then (k3 v1 v2 v3 (v4 + 1) S0) else (bd (fm_sends v4 v1 v2 S0) fun x3 S1 => if v3 = 0 then (some S1) else (k3 v1 v2 v3 (v4 + 1) S1)))
set_option maxRecDepth 20000 in
set_option maxHeartbeats 4000000 in
theorem tm_pass_3b {scr : Nat × (Nat → Int32)} {d : Nat} (hd : 3 ≤ d) {k3 : Int32 → Int32 → Int32 → Int32 → Mem → Option Mem} (hk3 : ∀ (v1 : Int32) (v2 : Int32) (v3 : Int32) (v4 : Int32) (S0 : Mem), ∀ (SR : Mem), k3 v1 v2 v3 v4 S0 = some SR → XG scr d 159 3 [(0, .inr (some (some 697))), (1, .inl v1), (2, .inl v2), (3, .inl v3), (4, .inl v4)] [] S0 none SR) (v1 : Int32) (v2 : Int32) (v3 : Int32) (v4 : Int32) (S0 : Mem)  (SR : Mem) (E : fm_pass_3b k3 v1 v2 v3 v4 S0 = some SR) : XG scr d 159 3 [(0, .inr (some (some 697))), (1, .inl v1), (2, .inl v2), (3, .inl v3), (4, .inl v4)] [] S0 none SR := by
  unfold fm_pass_3b at E
  refine g_iload rfl rfl ?_
  refine g_aload rfl rfl ?_
  refine g_getR rfl ty_m (fR_8_0 ty_m) ?_
  refine g_push rfl ?_
  obtain ⟨x1, h1, E⟩ := ob E
  refine g_iald rfl fT_8_0 h1 ?_
  rcases xif E with ⟨h2, E⟩ | ⟨h2, E⟩
  · refine g_icge_t rfl h2 ?_
    obtain rfl := so1 E
    exact g_ret rfl
  · refine g_icge_f rfl h2 ?_
    refine g_aload rfl rfl ?_
    refine g_iload rfl rfl ?_
    refine g_iload rfl rfl ?_
    obtain ⟨x2, h3, E⟩ := ob E
    refine g_inv2 (dc := 2) rfl (by omega) ty_m (Nat.le_of_ble_eq_true rfl) (fun d hd => tm_isLiveChild hd v4 v1 S0 _ h3) ?_
    rcases xif E with ⟨h4, E⟩ | ⟨h4, E⟩
    · refine g_ifeq_t rfl h4 ?_
      refine g_iinc (L2 := [(4, .inl (v4 + 1)), (0, .inr (some (some 697))), (1, .inl v1), (2, .inl v2), (3, .inl v3)]) rfl rfl rfl ?_
      refine g_goto rfl ?_
      exact g_loc (lsub_cons rfl (lsub_cons rfl (lsub_cons rfl (lsub_cons rfl (lsub_cons rfl lsub_nil))))) (hk3 v1 v2 v3 (v4 + 1) S0 _ E)
    · refine g_ifeq_f rfl h4 ?_
      refine g_aload rfl rfl ?_
      refine g_iload rfl rfl ?_
      refine g_iload rfl rfl ?_
      refine g_iload rfl rfl ?_
      obtain ⟨x3, S1, h5, E⟩ := ob2 E
      refine g_inv3 (dc := 2) rfl (by omega) ty_m (Nat.le_of_ble_eq_true rfl) (fun d hd => tm_sends hd v4 v1 v2 S0 _ _ h5) ?_
      refine g_pop rfl ?_
      refine g_iload rfl rfl ?_
      rcases xif E with ⟨h6, E⟩ | ⟨h6, E⟩
      · refine g_ifne_t rfl h6 ?_
        obtain rfl := so1 E
        exact g_ret rfl
      · refine g_ifne_f rfl h6 ?_
        refine g_iinc (L2 := [(4, .inl (v4 + 1)), (0, .inr (some (some 697))), (1, .inl v1), (2, .inl v2), (3, .inl v3)]) rfl rfl rfl ?_
        refine g_goto rfl ?_
        exact g_loc (lsub_cons rfl (lsub_cons rfl (lsub_cons rfl (lsub_cons rfl (lsub_cons rfl lsub_nil))))) (hk3 v1 v2 v3 (v4 + 1) S1 _ E)
def fm_pass_3  : Nat → Int32 → Int32 → Int32 → Int32 → Mem → Option Mem
  | 0 => fun _ _ _ _ _ => none
  | n + 1 => fm_pass_3b  (fm_pass_3  n)
set_option maxRecDepth 20000 in
set_option maxHeartbeats 4000000 in
theorem tm_pass_3 {scr : Nat × (Nat → Int32)} {d : Nat} (hd : 3 ≤ d)  : ∀ (n : Nat) (v1 : Int32) (v2 : Int32) (v3 : Int32) (v4 : Int32) (S0 : Mem), ∀ (SR : Mem), fm_pass_3  n v1 v2 v3 v4 S0 = some SR → XG scr d 159 3 [(0, .inr (some (some 697))), (1, .inl v1), (2, .inl v2), (3, .inl v3), (4, .inl v4)] [] S0 none SR
  | 0, v1, v2, v3, v4, S0, SR, E => nn E
  | n + 1, v1, v2, v3, v4, S0, SR, E => tm_pass_3b hd  (tm_pass_3 hd  n) v1 v2 v3 v4 S0  SR E
def fm_pass (v1 : Int32) (v2 : Int32) (v3 : Int32) (S0 : Mem) : Option Mem := fm_pass_3 LF v1 v2 v3 0 S0
set_option maxRecDepth 20000 in
set_option maxHeartbeats 4000000 in
theorem tm_pass {scr : Nat × (Nat → Int32)} {d : Nat} (hd : 3 ≤ d) (v1 : Int32) (v2 : Int32) (v3 : Int32) (S0 : Mem)  (SR : Mem) (E : fm_pass  v1 v2 v3 S0 = some SR) : XG scr d 159 0 [(0, .inr (some (some 697))), (1, .inl v1), (2, .inl v2), (3, .inl v3)] [] S0 none SR := by
  unfold fm_pass at E
  refine g_push rfl ?_
  refine g_istore (L2 := [(4, .inl 0), (0, .inr (some (some 697))), (1, .inl v1), (2, .inl v2), (3, .inl v3)]) rfl rfl ?_
  exact g_loc (lsub_cons rfl (lsub_cons rfl (lsub_cons rfl (lsub_cons rfl (lsub_cons rfl lsub_nil))))) (tm_pass_3 hd LF v1 v2 v3 0 S0 _ E)
def fm_holds (v1 : Int32) (v2 : Int32) (v3 : Int32) (S0 : Mem) : Option Mem := if (irm v3 2) = 0 then ((fm_comesBack v1 S0).bind fun S1 => some S1) else ((fm_at v1 38 S0).bind fun x1 => if x1 = 6 then ((fm_fails v1 3 S0).bind fun S2 => some S2) else ((fm_at v1 38 S0).bind fun x2 => (fm_sets v1 (39 + (2 * x2)) v2 S0).bind fun S3 => (fm_sets v1 ((39 + (2 * x2)) + 1) v3 S3).bind fun S4 => (fm_sets v1 38 (x2 + 1) S4).bind fun S5 => some S5))
set_option maxRecDepth 20000 in
set_option maxHeartbeats 4000000 in
theorem tm_holds {scr : Nat × (Nat → Int32)} {d : Nat} (hd : 37 ≤ d) (v1 : Int32) (v2 : Int32) (v3 : Int32) (S0 : Mem)  (SR : Mem) (E : fm_holds  v1 v2 v3 S0 = some SR) : XG scr d 132 0 [(0, .inr (some (some 697))), (1, .inl v1), (2, .inl v2), (3, .inl v3)] [] S0 none SR := by
  unfold fm_holds at E
  refine g_iload rfl rfl ?_
  refine g_push rfl ?_
  refine g_irem rfl (by decide) ?_
  rcases xif E with ⟨h1, E⟩ | ⟨h1, E⟩
  · refine g_ifne_t rfl h1 ?_
    refine g_aload rfl rfl ?_
    refine g_iload rfl rfl ?_
    obtain ⟨S1, h2, E⟩ := ob E
    refine g_inv1 (dc := 1) rfl (by omega) ty_m (Nat.le_of_ble_eq_true rfl) (fun d hd => tm_comesBack hd v1 S0 _ h2) ?_
    refine g_goto rfl ?_
    obtain rfl := so1 E
    exact g_ret rfl
  · refine g_ifne_f rfl h1 ?_
    refine g_aload rfl rfl ?_
    refine g_iload rfl rfl ?_
    refine g_push rfl ?_
    obtain ⟨x1, h3, E⟩ := ob E
    refine g_inv2 (dc := 0) rfl (by omega) ty_m (Nat.le_of_ble_eq_true rfl) (fun d hd => tm_at hd v1 38 S0 _ h3) ?_
    refine g_push rfl ?_
    rcases xif E with ⟨h4, E⟩ | ⟨h4, E⟩
    · refine g_icne_t rfl h4 ?_
      refine g_aload rfl rfl ?_
      refine g_iload rfl rfl ?_
      refine g_push rfl ?_
      obtain ⟨S2, h5, E⟩ := ob E
      refine g_inv2 (dc := 36) rfl (by omega) ty_m (Nat.le_of_ble_eq_true rfl) (fun d hd => tm_fails hd v1 3 S0 _ h5) ?_
      refine g_goto rfl ?_
      obtain rfl := so1 E
      exact g_ret rfl
    · refine g_icne_f rfl h4 ?_
      refine g_aload rfl rfl ?_
      refine g_iload rfl rfl ?_
      refine g_push rfl ?_
      obtain ⟨x2, h6, E⟩ := ob E
      refine g_inv2 (dc := 0) rfl (by omega) ty_m (Nat.le_of_ble_eq_true rfl) (fun d hd => tm_at hd v1 38 S0 _ h6) ?_
      refine g_istore (L2 := [(4, .inl x2), (0, .inr (some (some 697))), (1, .inl v1), (2, .inl v2), (3, .inl v3)]) rfl rfl ?_
      refine g_aload rfl rfl ?_
      refine g_iload rfl rfl ?_
      refine g_push rfl ?_
      refine g_push rfl ?_
      refine g_iload rfl rfl ?_
      refine g_imul rfl ?_
      refine g_iadd rfl ?_
      refine g_iload rfl rfl ?_
      obtain ⟨S3, h7, E⟩ := ob E
      refine g_inv3 (dc := 0) rfl (by omega) ty_m (Nat.le_of_ble_eq_true rfl) (fun d hd => tm_sets hd v1 (39 + (2 * x2)) v2 S0 _ h7) ?_
      refine g_aload rfl rfl ?_
      refine g_iload rfl rfl ?_
      refine g_push rfl ?_
      refine g_push rfl ?_
      refine g_iload rfl rfl ?_
      refine g_imul rfl ?_
      refine g_iadd rfl ?_
      refine g_push rfl ?_
      refine g_iadd rfl ?_
      refine g_iload rfl rfl ?_
      obtain ⟨S4, h8, E⟩ := ob E
      refine g_inv3 (dc := 0) rfl (by omega) ty_m (Nat.le_of_ble_eq_true rfl) (fun d hd => tm_sets hd v1 ((39 + (2 * x2)) + 1) v3 S3 _ h8) ?_
      refine g_aload rfl rfl ?_
      refine g_iload rfl rfl ?_
      refine g_push rfl ?_
      refine g_iload rfl rfl ?_
      refine g_push rfl ?_
      refine g_iadd rfl ?_
      obtain ⟨S5, h9, E⟩ := ob E
      refine g_inv3 (dc := 0) rfl (by omega) ty_m (Nat.le_of_ble_eq_true rfl) (fun d hd => tm_sets hd v1 38 (x2 + 1) S4 _ h9) ?_
      obtain rfl := so1 E
      exact g_ret rfl
def fm_switches (v1 : Int32) (v2 : Int32) (S0 : Mem) : Option Mem := (fm_at v1 7 S0).bind fun x1 => if 0 ≤ v2 then (if x1 = 5 then ((fm_fails v1 4 S0).bind fun S1 => some S1) else ((fm_sets v1 (8 + x1) (irm v2 10) S0).bind fun S2 => (fm_sets v1 7 (x1 + 1) S2).bind fun S3 => some S3)) else (if x1 ≤ 1 then ((fm_sets v1 7 1 S0).bind fun S4 => some S4) else ((fm_sets v1 7 (x1 - 1) S0).bind fun S5 => some S5))
set_option maxRecDepth 20000 in
set_option maxHeartbeats 4000000 in
theorem tm_switches {scr : Nat × (Nat → Int32)} {d : Nat} (hd : 37 ≤ d) (v1 : Int32) (v2 : Int32) (S0 : Mem)  (SR : Mem) (E : fm_switches  v1 v2 S0 = some SR) : XG scr d 178 0 [(0, .inr (some (some 697))), (1, .inl v1), (2, .inl v2)] [] S0 none SR := by
  unfold fm_switches at E
  refine g_aload rfl rfl ?_
  refine g_iload rfl rfl ?_
  refine g_push rfl ?_
  obtain ⟨x1, h1, E⟩ := ob E
  refine g_inv2 (dc := 0) rfl (by omega) ty_m (Nat.le_of_ble_eq_true rfl) (fun d hd => tm_at hd v1 7 S0 _ h1) ?_
  refine g_istore (L2 := [(3, .inl x1), (0, .inr (some (some 697))), (1, .inl v1), (2, .inl v2)]) rfl rfl ?_
  refine g_iload rfl rfl ?_
  rcases xif E with ⟨h2, E⟩ | ⟨h2, E⟩
  · refine g_ifge_t rfl h2 ?_
    refine g_iload rfl rfl ?_
    refine g_push rfl ?_
    rcases xif E with ⟨h3, E⟩ | ⟨h3, E⟩
    · refine g_icne_t rfl h3 ?_
      refine g_aload rfl rfl ?_
      refine g_iload rfl rfl ?_
      refine g_push rfl ?_
      obtain ⟨S1, h4, E⟩ := ob E
      refine g_inv2 (dc := 36) rfl (by omega) ty_m (Nat.le_of_ble_eq_true rfl) (fun d hd => tm_fails hd v1 4 S0 _ h4) ?_
      refine g_goto rfl ?_
      obtain rfl := so1 E
      exact g_ret rfl
    · refine g_icne_f rfl h3 ?_
      refine g_aload rfl rfl ?_
      refine g_iload rfl rfl ?_
      refine g_push rfl ?_
      refine g_iload rfl rfl ?_
      refine g_iadd rfl ?_
      refine g_iload rfl rfl ?_
      refine g_push rfl ?_
      refine g_irem rfl (by decide) ?_
      obtain ⟨S2, h5, E⟩ := ob E
      refine g_inv3 (dc := 0) rfl (by omega) ty_m (Nat.le_of_ble_eq_true rfl) (fun d hd => tm_sets hd v1 (8 + x1) (irm v2 10) S0 _ h5) ?_
      refine g_aload rfl rfl ?_
      refine g_iload rfl rfl ?_
      refine g_push rfl ?_
      refine g_iload rfl rfl ?_
      refine g_push rfl ?_
      refine g_iadd rfl ?_
      obtain ⟨S3, h6, E⟩ := ob E
      refine g_inv3 (dc := 0) rfl (by omega) ty_m (Nat.le_of_ble_eq_true rfl) (fun d hd => tm_sets hd v1 7 (x1 + 1) S2 _ h6) ?_
      obtain rfl := so1 E
      exact g_ret rfl
  · refine g_ifge_f rfl h2 ?_
    refine g_aload rfl rfl ?_
    refine g_iload rfl rfl ?_
    refine g_push rfl ?_
    refine g_iload rfl rfl ?_
    refine g_push rfl ?_
    rcases xif E with ⟨h7, E⟩ | ⟨h7, E⟩
    · refine g_icle_t rfl h7 ?_
      refine g_push rfl ?_
      obtain ⟨S4, h8, E⟩ := ob E
      refine g_inv3 (dc := 0) rfl (by omega) ty_m (Nat.le_of_ble_eq_true rfl) (fun d hd => tm_sets hd v1 7 1 S0 _ h8) ?_
      refine g_goto rfl ?_
      obtain rfl := so1 E
      exact g_ret rfl
    · refine g_icle_f rfl h7 ?_
      refine g_iload rfl rfl ?_
      refine g_push rfl ?_
      refine g_isub rfl ?_
      refine g_goto rfl ?_
      obtain ⟨S5, h9, E⟩ := ob E
      refine g_inv3 (dc := 0) rfl (by omega) ty_m (Nat.le_of_ble_eq_true rfl) (fun d hd => tm_sets hd v1 7 (x1 - 1) S0 _ h9) ?_
      refine g_goto rfl ?_
      obtain rfl := so1 E
      exact g_ret rfl
def fm_delays (v1 : Int32) (v2 : Int32) (S0 : Mem) : Option Mem := if v2 ≤ 0 then (some S0) else ((ald S0 698 931).bind fun x1 => if 10 ≤ x1 then (some S0) else ((ald S0 698 931).bind fun x2 => (ast S0 698 (932 + (3 * x2)) v1).bind fun S1 => (ald S1 698 925).bind fun x3 => (ast S1 698 ((932 + (3 * x2)) + 1) ((x3 + 1) + (irm v2 8))).bind fun S2 => (ast S2 698 ((932 + (3 * x2)) + 2) (v2 - 1)).bind fun S3 => (ald S3 698 931).bind fun x4 => (ast S3 698 931 (x4 + 1)).bind fun S4 => some S4))
set_option maxRecDepth 20000 in
set_option maxHeartbeats 4000000 in
theorem tm_delays {scr : Nat × (Nat → Int32)} {d : Nat} (hd : 0 ≤ d) (v1 : Int32) (v2 : Int32) (S0 : Mem)  (SR : Mem) (E : fm_delays  v1 v2 S0 = some SR) : XG scr d 119 0 [(0, .inr (some (some 697))), (1, .inl v1), (2, .inl v2)] [] S0 none SR := by
  unfold fm_delays at E
  refine g_iload rfl rfl ?_
  rcases xif E with ⟨h1, E⟩ | ⟨h1, E⟩
  · refine g_ifle_t rfl h1 ?_
    obtain rfl := so1 E
    exact g_ret rfl
  · refine g_ifle_f rfl h1 ?_
    refine g_aload rfl rfl ?_
    refine g_getR rfl ty_m (fR_8_0 ty_m) ?_
    refine g_push rfl ?_
    obtain ⟨x1, h2, E⟩ := ob E
    refine g_iald rfl fT_8_0 h2 ?_
    refine g_push rfl ?_
    rcases xif E with ⟨h3, E⟩ | ⟨h3, E⟩
    · refine g_icge_t rfl h3 ?_
      obtain rfl := so1 E
      exact g_ret rfl
    · refine g_icge_f rfl h3 ?_
      refine g_push rfl ?_
      refine g_push rfl ?_
      refine g_aload rfl rfl ?_
      refine g_getR rfl ty_m (fR_8_0 ty_m) ?_
      refine g_push rfl ?_
      obtain ⟨x2, h4, E⟩ := ob E
      refine g_iald rfl fT_8_0 h4 ?_
      refine g_imul rfl ?_
      refine g_iadd rfl ?_
      refine g_istore (L2 := [(3, .inl (932 + (3 * x2))), (0, .inr (some (some 697))), (1, .inl v1), (2, .inl v2)]) rfl rfl ?_
      refine g_aload rfl rfl ?_
      refine g_getR rfl ty_m (fR_8_0 ty_m) ?_
      refine g_iload rfl rfl ?_
      refine g_iload rfl rfl ?_
      obtain ⟨S1, h5, E⟩ := ob E
      refine g_iast rfl fT_8_0 h5 ?_
      refine g_aload rfl rfl ?_
      refine g_getR rfl ty_m (fR_8_0 ty_m) ?_
      refine g_iload rfl rfl ?_
      refine g_push rfl ?_
      refine g_iadd rfl ?_
      refine g_aload rfl rfl ?_
      refine g_getR rfl ty_m (fR_8_0 ty_m) ?_
      refine g_push rfl ?_
      obtain ⟨x3, h6, E⟩ := ob E
      refine g_iald rfl fT_8_0 h6 ?_
      refine g_push rfl ?_
      refine g_iadd rfl ?_
      refine g_iload rfl rfl ?_
      refine g_push rfl ?_
      refine g_irem rfl (by decide) ?_
      refine g_iadd rfl ?_
      obtain ⟨S2, h7, E⟩ := ob E
      refine g_iast rfl fT_8_0 h7 ?_
      refine g_aload rfl rfl ?_
      refine g_getR rfl ty_m (fR_8_0 ty_m) ?_
      refine g_iload rfl rfl ?_
      refine g_push rfl ?_
      refine g_iadd rfl ?_
      refine g_iload rfl rfl ?_
      refine g_push rfl ?_
      refine g_isub rfl ?_
      obtain ⟨S3, h8, E⟩ := ob E
      refine g_iast rfl fT_8_0 h8 ?_
      refine g_aload rfl rfl ?_
      refine g_getR rfl ty_m (fR_8_0 ty_m) ?_
      refine g_push rfl ?_
      refine g_dup2 rfl ?_
      obtain ⟨x4, h9, E⟩ := ob E
      refine g_iald rfl fT_8_0 h9 ?_
      refine g_push rfl ?_
      refine g_iadd rfl ?_
      obtain ⟨S4, h10, E⟩ := ob E
      refine g_iast rfl fT_8_0 h10 ?_
      obtain rfl := so1 E
      exact g_ret rfl
def fm_watches_61b (k61 : Int32 → Int32 → Int32 → Int32 → Mem → Option Mem) (v1 : Int32) (v3 : Int32) (v4 : Int32) (v5 : Int32) (S0 : Mem) : Option Mem := if v4 ≤ v5 then ((fm_sets v3 (52 + v4) v1 S0).bind fun S1 => (fm_sets v3 51 (v4 + 1) S1).bind fun S2 => some S2) else ((fm_at v3 (52 + v5) S0).bind fun x1 => if x1 = v1 then (some S0) else (k61 v1 v3 v4 (v5 + 1) S0))
set_option maxRecDepth 20000 in
set_option maxHeartbeats 4000000 in
theorem tm_watches_61b {scr : Nat × (Nat → Int32)} {d : Nat} (hd : 3 ≤ d) {k61 : Int32 → Int32 → Int32 → Int32 → Mem → Option Mem} (hk61 : ∀ (v1 : Int32) (v3 : Int32) (v4 : Int32) (v5 : Int32) (S0 : Mem), ∀ (SR : Mem), k61 v1 v3 v4 v5 S0 = some SR → XG scr d 187 61 [(0, .inr (some (some 697))), (1, .inl v1), (3, .inl v3), (4, .inl v4), (5, .inl v5)] [] S0 none SR) (v1 : Int32) (v3 : Int32) (v4 : Int32) (v5 : Int32) (S0 : Mem)  (SR : Mem) (E : fm_watches_61b k61 v1 v3 v4 v5 S0 = some SR) : XG scr d 187 61 [(0, .inr (some (some 697))), (1, .inl v1), (3, .inl v3), (4, .inl v4), (5, .inl v5)] [] S0 none SR := by
  unfold fm_watches_61b at E
  refine g_iload rfl rfl ?_
  refine g_iload rfl rfl ?_
  rcases xif E with ⟨h1, E⟩ | ⟨h1, E⟩
  · refine g_icge_t rfl h1 ?_
    refine g_aload rfl rfl ?_
    refine g_iload rfl rfl ?_
    refine g_push rfl ?_
    refine g_iload rfl rfl ?_
    refine g_iadd rfl ?_
    refine g_iload rfl rfl ?_
    obtain ⟨S1, h2, E⟩ := ob E
    refine g_inv3 (dc := 0) rfl (by omega) ty_m (Nat.le_of_ble_eq_true rfl) (fun d hd => tm_sets hd v3 (52 + v4) v1 S0 _ h2) ?_
    refine g_aload rfl rfl ?_
    refine g_iload rfl rfl ?_
    refine g_push rfl ?_
    refine g_iload rfl rfl ?_
    refine g_push rfl ?_
    refine g_iadd rfl ?_
    obtain ⟨S2, h3, E⟩ := ob E
    refine g_inv3 (dc := 0) rfl (by omega) ty_m (Nat.le_of_ble_eq_true rfl) (fun d hd => tm_sets hd v3 51 (v4 + 1) S1 _ h3) ?_
    obtain rfl := so1 E
    exact g_ret rfl
  · refine g_icge_f rfl h1 ?_
    refine g_aload rfl rfl ?_
    refine g_iload rfl rfl ?_
    refine g_push rfl ?_
    refine g_iload rfl rfl ?_
    refine g_iadd rfl ?_
    obtain ⟨x1, h4, E⟩ := ob E
    refine g_inv2 (dc := 0) rfl (by omega) ty_m (Nat.le_of_ble_eq_true rfl) (fun d hd => tm_at hd v3 (52 + v5) S0 _ h4) ?_
    refine g_iload rfl rfl ?_
    rcases xif E with ⟨h5, E⟩ | ⟨h5, E⟩
    · refine g_icne_t rfl h5 ?_
      obtain rfl := so1 E
      exact g_ret rfl
    · refine g_icne_f rfl h5 ?_
      refine g_iinc (L2 := [(5, .inl (v5 + 1)), (0, .inr (some (some 697))), (1, .inl v1), (3, .inl v3), (4, .inl v4)]) rfl rfl rfl ?_
      refine g_goto rfl ?_
      exact g_loc (lsub_cons rfl (lsub_cons rfl (lsub_cons rfl (lsub_cons rfl (lsub_cons rfl lsub_nil))))) (hk61 v1 v3 v4 (v5 + 1) S0 _ E)
def fm_watches_61  : Nat → Int32 → Int32 → Int32 → Int32 → Mem → Option Mem
  | 0 => fun _ _ _ _ _ => none
  | n + 1 => fm_watches_61b  (fm_watches_61  n)
set_option maxRecDepth 20000 in
set_option maxHeartbeats 4000000 in
theorem tm_watches_61 {scr : Nat × (Nat → Int32)} {d : Nat} (hd : 3 ≤ d)  : ∀ (n : Nat) (v1 : Int32) (v3 : Int32) (v4 : Int32) (v5 : Int32) (S0 : Mem), ∀ (SR : Mem), fm_watches_61  n v1 v3 v4 v5 S0 = some SR → XG scr d 187 61 [(0, .inr (some (some 697))), (1, .inl v1), (3, .inl v3), (4, .inl v4), (5, .inl v5)] [] S0 none SR
  | 0, v1, v3, v4, v5, S0, SR, E => nn E
  | n + 1, v1, v3, v4, v5, S0, SR, E => tm_watches_61b hd  (tm_watches_61 hd  n) v1 v3 v4 v5 S0  SR E
def fm_watches_12  (v1 : Int32) (s0 : Int32) (S0 : Mem) : Option Mem := (ald S0 698 924).bind fun x1 => (nz x1).bind fun z1 => if (irm s0 x1) = v1 then (some S0) else ((fm_isLive (irm s0 x1) S0).bind fun x2 => if x2 = 0 then (bd (fm_sends v1 ((-1)) (1000 + (irm s0 x1)) S0) fun x3 S1 => some S1) else ((fm_at (irm s0 x1) 51 S0).bind fun x4 => fm_watches_61 LF v1 (irm s0 x1) x4 0 S0))
set_option maxRecDepth 20000 in
set_option maxHeartbeats 4000000 in
theorem tm_watches_12 {scr : Nat × (Nat → Int32)} {d : Nat} (hd : 3 ≤ d)  (v1 : Int32) (s0 : Int32) (S0 : Mem)  (SR : Mem) (E : fm_watches_12 v1 s0 S0 = some SR) : XG scr d 187 12 [(0, .inr (some (some 697))), (1, .inl v1)] [.inl s0] S0 none SR := by
  unfold fm_watches_12 at E
  refine g_aload rfl rfl ?_
  refine g_getR rfl ty_m (fR_8_0 ty_m) ?_
  refine g_push rfl ?_
  obtain ⟨x1, h1, E⟩ := ob E
  refine g_iald rfl fT_8_0 h1 ?_
  obtain ⟨z1, h2, E⟩ := ob E
  refine g_irem rfl (nz_of h2).1 ?_
  refine g_istore (L2 := [(3, .inl (irm s0 x1)), (0, .inr (some (some 697))), (1, .inl v1)]) rfl rfl ?_
  refine g_iload rfl rfl ?_
  refine g_iload rfl rfl ?_
  rcases xif E with ⟨h3, E⟩ | ⟨h3, E⟩
  · refine g_icne_t rfl h3 ?_
    obtain rfl := so1 E
    exact g_ret rfl
  · refine g_icne_f rfl h3 ?_
    refine g_aload rfl rfl ?_
    refine g_iload rfl rfl ?_
    obtain ⟨x2, h4, E⟩ := ob E
    refine g_inv1 (dc := 1) rfl (by omega) ty_m (Nat.le_of_ble_eq_true rfl) (fun d hd => tm_isLive hd (irm s0 x1) S0 _ h4) ?_
    rcases xif E with ⟨h5, E⟩ | ⟨h5, E⟩
    · refine g_ifne_t rfl h5 ?_
      refine g_aload rfl rfl ?_
      refine g_iload rfl rfl ?_
      refine g_push rfl ?_
      refine g_push rfl ?_
      refine g_iload rfl rfl ?_
      refine g_iadd rfl ?_
      obtain ⟨x3, S1, h6, E⟩ := ob2 E
      refine g_inv3 (dc := 2) rfl (by omega) ty_m (Nat.le_of_ble_eq_true rfl) (fun d hd => tm_sends hd v1 ((-1)) (1000 + (irm s0 x1)) S0 _ _ h6) ?_
      refine g_pop rfl ?_
      obtain rfl := so1 E
      exact g_ret rfl
    · refine g_ifne_f rfl h5 ?_
      refine g_aload rfl rfl ?_
      refine g_iload rfl rfl ?_
      refine g_push rfl ?_
      obtain ⟨x4, h7, E⟩ := ob E
      refine g_inv2 (dc := 0) rfl (by omega) ty_m (Nat.le_of_ble_eq_true rfl) (fun d hd => tm_at hd (irm s0 x1) 51 S0 _ h7) ?_
      refine g_istore (L2 := [(4, .inl x4), (3, .inl (irm s0 x1)), (0, .inr (some (some 697))), (1, .inl v1)]) rfl rfl ?_
      refine g_push rfl ?_
      refine g_istore (L2 := [(5, .inl 0), (4, .inl x4), (3, .inl (irm s0 x1)), (0, .inr (some (some 697))), (1, .inl v1)]) rfl rfl ?_
      exact g_loc (lsub_cons rfl (lsub_cons rfl (lsub_cons rfl (lsub_cons rfl (lsub_cons rfl lsub_nil))))) (tm_watches_61 hd LF v1 (irm s0 x1) x4 0 S0 _ E)
def fm_watches (v1 : Int32) (v2 : Int32) (S0 : Mem) : Option Mem := if 0 ≤ v2 then (fm_watches_12 v1 v2 S0) else (fm_watches_12 v1 (v2 + 99) S0)
set_option maxRecDepth 20000 in
set_option maxHeartbeats 4000000 in
theorem tm_watches {scr : Nat × (Nat → Int32)} {d : Nat} (hd : 3 ≤ d) (v1 : Int32) (v2 : Int32) (S0 : Mem)  (SR : Mem) (E : fm_watches  v1 v2 S0 = some SR) : XG scr d 187 0 [(0, .inr (some (some 697))), (1, .inl v1), (2, .inl v2)] [] S0 none SR := by
  unfold fm_watches at E
  refine g_iload rfl rfl ?_
  rcases xif E with ⟨h1, E⟩ | ⟨h1, E⟩
  · refine g_ifge_t rfl h1 ?_
    refine g_iload rfl rfl ?_
    exact g_loc (lsub_cons rfl (lsub_cons rfl lsub_nil)) (tm_watches_12 hd v1 v2 S0 _ E)
  · refine g_ifge_f rfl h1 ?_
    refine g_iload rfl rfl ?_
    refine g_push rfl ?_
    refine g_iadd rfl ?_
    refine g_goto rfl ?_
    exact g_loc (lsub_cons rfl (lsub_cons rfl lsub_nil)) (tm_watches_12 hd v1 (v2 + 99) S0 _ E)
def fm_deals (v1 : Int32) (v2 : Int32) (v3 : Int32) (S0 : Mem) : Option Mem := (fm_doing v1 S0).bind fun x1 => if v3 < 1000 then (if x1 = 0 then ((fm_at v1 6 S0).bind fun x2 => (fm_sets v1 6 (x2 + v3) S0).bind fun S1 => some S1) else (if x1 = 1 then ((fm_pass v1 v3 0 S0).bind fun S2 => some S2) else (if x1 = 2 then (if v3 ≤ 0 then (some S0) else (if v2 < 0 then (some S0) else (bd (fm_sends v2 v1 (v3 - 1) S0) fun x3 S3 => some S3))) else (if x1 = 3 then ((fm_holds v1 v2 v3 S0).bind fun S4 => some S4) else (if x1 = 4 then ((fm_switches v1 v3 S0).bind fun S5 => some S5) else (if x1 = 5 then ((fm_at v1 6 S0).bind fun x4 => if x4 ≤ v3 then ((fm_sets v1 6 v3 S0).bind fun S6 => some S6) else ((fm_fails v1 1 S0).bind fun S7 => some S7)) else (if x1 = 6 then ((fm_delays v1 v3 S0).bind fun S8 => some S8) else (if x1 = 7 then ((fm_pass v1 v3 1 S0).bind fun S9 => some S9) else (if x1 = 8 then ((fm_watches v1 v3 S0).bind fun S10 => some S10) else ((fm_stops 14 v1 S0).bind fun S11 => some S11)))))))))) else (if x1 = 5 then ((fm_fails v1 2 S0).bind fun S12 => some S12) else ((fm_at v1 6 S0).bind fun x5 => (fm_sets v1 6 (((x5 + 100) + v3) - 1000) S0).bind fun S13 => some S13))
set_option maxRecDepth 20000 in
set_option maxHeartbeats 4000000 in
theorem tm_deals {scr : Nat × (Nat → Int32)} {d : Nat} (hd : 38 ≤ d) (v1 : Int32) (v2 : Int32) (v3 : Int32) (S0 : Mem)  (SR : Mem) (E : fm_deals  v1 v2 v3 S0 = some SR) : XG scr d 118 0 [(0, .inr (some (some 697))), (1, .inl v1), (2, .inl v2), (3, .inl v3)] [] S0 none SR := by
  unfold fm_deals at E
  refine g_aload rfl rfl ?_
  refine g_iload rfl rfl ?_
  obtain ⟨x1, h1, E⟩ := ob E
  refine g_inv1 (dc := 1) rfl (by omega) ty_m (Nat.le_of_ble_eq_true rfl) (fun d hd => tm_doing hd v1 S0 _ h1) ?_
  refine g_istore (L2 := [(4, .inl x1), (0, .inr (some (some 697))), (1, .inl v1), (2, .inl v2), (3, .inl v3)]) rfl rfl ?_
  refine g_iload rfl rfl ?_
  refine g_push rfl ?_
  rcases xif E with ⟨h2, E⟩ | ⟨h2, E⟩
  · refine g_iclt_t rfl h2 ?_
    refine g_iload rfl rfl ?_
    rcases xif E with ⟨h3, E⟩ | ⟨h3, E⟩
    · refine g_tsw (u := 104) rfl (by rw [h3]; decide +kernel) ?_
      refine g_aload rfl rfl ?_
      refine g_iload rfl rfl ?_
      refine g_push rfl ?_
      refine g_aload rfl rfl ?_
      refine g_iload rfl rfl ?_
      refine g_push rfl ?_
      obtain ⟨x2, h4, E⟩ := ob E
      refine g_inv2 (dc := 0) rfl (by omega) ty_m (Nat.le_of_ble_eq_true rfl) (fun d hd => tm_at hd v1 6 S0 _ h4) ?_
      refine g_iload rfl rfl ?_
      refine g_iadd rfl ?_
      obtain ⟨S1, h5, E⟩ := ob E
      refine g_inv3 (dc := 0) rfl (by omega) ty_m (Nat.le_of_ble_eq_true rfl) (fun d hd => tm_sets hd v1 6 (x2 + v3) S0 _ h5) ?_
      refine g_goto rfl ?_
      obtain rfl := so1 E
      exact g_ret rfl
    · rcases xif E with ⟨h6, E⟩ | ⟨h6, E⟩
      · refine g_tsw (u := 123) rfl (by rw [h6]; decide +kernel) ?_
        refine g_aload rfl rfl ?_
        refine g_iload rfl rfl ?_
        refine g_iload rfl rfl ?_
        refine g_push rfl ?_
        obtain ⟨S2, h7, E⟩ := ob E
        refine g_inv3 (dc := 3) rfl (by omega) ty_m (Nat.le_of_ble_eq_true rfl) (fun d hd => tm_pass hd v1 v3 0 S0 _ h7) ?_
        refine g_goto rfl ?_
        obtain rfl := so1 E
        exact g_ret rfl
      · rcases xif E with ⟨h8, E⟩ | ⟨h8, E⟩
        · refine g_tsw (u := 133) rfl (by rw [h8]; decide +kernel) ?_
          refine g_iload rfl rfl ?_
          rcases xif E with ⟨h9, E⟩ | ⟨h9, E⟩
          · refine g_ifle_t rfl h9 ?_
            obtain rfl := so1 E
            exact g_ret rfl
          · refine g_ifle_f rfl h9 ?_
            refine g_iload rfl rfl ?_
            rcases xif E with ⟨h10, E⟩ | ⟨h10, E⟩
            · refine g_iflt_t rfl h10 ?_
              obtain rfl := so1 E
              exact g_ret rfl
            · refine g_iflt_f rfl h10 ?_
              refine g_aload rfl rfl ?_
              refine g_iload rfl rfl ?_
              refine g_iload rfl rfl ?_
              refine g_iload rfl rfl ?_
              refine g_push rfl ?_
              refine g_isub rfl ?_
              obtain ⟨x3, S3, h11, E⟩ := ob2 E
              refine g_inv3 (dc := 2) rfl (by omega) ty_m (Nat.le_of_ble_eq_true rfl) (fun d hd => tm_sends hd v2 v1 (v3 - 1) S0 _ _ h11) ?_
              refine g_pop rfl ?_
              refine g_goto rfl ?_
              obtain rfl := so1 E
              exact g_ret rfl
        · rcases xif E with ⟨h12, E⟩ | ⟨h12, E⟩
          · refine g_tsw (u := 154) rfl (by rw [h12]; decide +kernel) ?_
            refine g_aload rfl rfl ?_
            refine g_iload rfl rfl ?_
            refine g_iload rfl rfl ?_
            refine g_iload rfl rfl ?_
            obtain ⟨S4, h13, E⟩ := ob E
            refine g_inv3 (dc := 37) rfl (by omega) ty_m (Nat.le_of_ble_eq_true rfl) (fun d hd => tm_holds hd v1 v2 v3 S0 _ h13) ?_
            refine g_goto rfl ?_
            obtain rfl := so1 E
            exact g_ret rfl
          · rcases xif E with ⟨h14, E⟩ | ⟨h14, E⟩
            · refine g_tsw (u := 164) rfl (by rw [h14]; decide +kernel) ?_
              refine g_aload rfl rfl ?_
              refine g_iload rfl rfl ?_
              refine g_iload rfl rfl ?_
              obtain ⟨S5, h15, E⟩ := ob E
              refine g_inv2 (dc := 37) rfl (by omega) ty_m (Nat.le_of_ble_eq_true rfl) (fun d hd => tm_switches hd v1 v3 S0 _ h15) ?_
              refine g_goto rfl ?_
              obtain rfl := so1 E
              exact g_ret rfl
            · rcases xif E with ⟨h16, E⟩ | ⟨h16, E⟩
              · refine g_tsw (u := 173) rfl (by rw [h16]; decide +kernel) ?_
                refine g_iload rfl rfl ?_
                refine g_aload rfl rfl ?_
                refine g_iload rfl rfl ?_
                refine g_push rfl ?_
                obtain ⟨x4, h17, E⟩ := ob E
                refine g_inv2 (dc := 0) rfl (by omega) ty_m (Nat.le_of_ble_eq_true rfl) (fun d hd => tm_at hd v1 6 S0 _ h17) ?_
                rcases xif E with ⟨h18, E⟩ | ⟨h18, E⟩
                · refine g_icge_t rfl h18 ?_
                  refine g_aload rfl rfl ?_
                  refine g_iload rfl rfl ?_
                  refine g_push rfl ?_
                  refine g_iload rfl rfl ?_
                  obtain ⟨S6, h19, E⟩ := ob E
                  refine g_inv3 (dc := 0) rfl (by omega) ty_m (Nat.le_of_ble_eq_true rfl) (fun d hd => tm_sets hd v1 6 v3 S0 _ h19) ?_
                  refine g_goto rfl ?_
                  obtain rfl := so1 E
                  exact g_ret rfl
                · refine g_icge_f rfl h18 ?_
                  refine g_aload rfl rfl ?_
                  refine g_iload rfl rfl ?_
                  refine g_push rfl ?_
                  obtain ⟨S7, h20, E⟩ := ob E
                  refine g_inv2 (dc := 36) rfl (by omega) ty_m (Nat.le_of_ble_eq_true rfl) (fun d hd => tm_fails hd v1 1 S0 _ h20) ?_
                  refine g_goto rfl ?_
                  obtain rfl := so1 E
                  exact g_ret rfl
              · rcases xif E with ⟨h21, E⟩ | ⟨h21, E⟩
                · refine g_tsw (u := 204) rfl (by rw [h21]; decide +kernel) ?_
                  refine g_aload rfl rfl ?_
                  refine g_iload rfl rfl ?_
                  refine g_iload rfl rfl ?_
                  obtain ⟨S8, h22, E⟩ := ob E
                  refine g_inv2 (dc := 0) rfl (by omega) ty_m (Nat.le_of_ble_eq_true rfl) (fun d hd => tm_delays hd v1 v3 S0 _ h22) ?_
                  refine g_goto rfl ?_
                  obtain rfl := so1 E
                  exact g_ret rfl
                · rcases xif E with ⟨h23, E⟩ | ⟨h23, E⟩
                  · refine g_tsw (u := 213) rfl (by rw [h23]; decide +kernel) ?_
                    refine g_aload rfl rfl ?_
                    refine g_iload rfl rfl ?_
                    refine g_iload rfl rfl ?_
                    refine g_push rfl ?_
                    obtain ⟨S9, h24, E⟩ := ob E
                    refine g_inv3 (dc := 3) rfl (by omega) ty_m (Nat.le_of_ble_eq_true rfl) (fun d hd => tm_pass hd v1 v3 1 S0 _ h24) ?_
                    refine g_goto rfl ?_
                    obtain rfl := so1 E
                    exact g_ret rfl
                  · rcases xif E with ⟨h25, E⟩ | ⟨h25, E⟩
                    · refine g_tsw (u := 223) rfl (by rw [h25]; decide +kernel) ?_
                      refine g_aload rfl rfl ?_
                      refine g_iload rfl rfl ?_
                      refine g_iload rfl rfl ?_
                      obtain ⟨S10, h26, E⟩ := ob E
                      refine g_inv2 (dc := 3) rfl (by omega) ty_m (Nat.le_of_ble_eq_true rfl) (fun d hd => tm_watches hd v1 v3 S0 _ h26) ?_
                      refine g_goto rfl ?_
                      obtain rfl := so1 E
                      exact g_ret rfl
                    · refine g_tsw (u := 232) rfl (tsw_d (sw_def (n := 8) rfl _ (by decide +kernel) (fc h3 (fc h6 (fc h8 (fc h12 (fc h14 (fc h16 (fc h21 (fc h23 (fc h25 fn))))))))))) ?_
                      refine g_aload rfl rfl ?_
                      refine g_iload rfl rfl ?_
                      obtain ⟨S11, h27, E⟩ := ob E
                      refine g_inv1 (dc := 33) rfl (by omega) ty_m (Nat.le_of_ble_eq_true rfl) (fun d hd => tm_stops 14 d (by omega) v1 S0 _ h27) ?_
                      obtain rfl := so1 E
                      exact g_ret rfl
  · refine g_iclt_f rfl h2 ?_
    refine g_iload rfl rfl ?_
    refine g_push rfl ?_
    rcases xif E with ⟨h28, E⟩ | ⟨h28, E⟩
    · refine g_icne_t rfl h28 ?_
      refine g_aload rfl rfl ?_
      refine g_iload rfl rfl ?_
      refine g_push rfl ?_
      obtain ⟨S12, h29, E⟩ := ob E
      refine g_inv2 (dc := 36) rfl (by omega) ty_m (Nat.le_of_ble_eq_true rfl) (fun d hd => tm_fails hd v1 2 S0 _ h29) ?_
      refine g_goto rfl ?_
      obtain rfl := so1 E
      exact g_ret rfl
    · refine g_icne_f rfl h28 ?_
      refine g_aload rfl rfl ?_
      refine g_iload rfl rfl ?_
      refine g_push rfl ?_
      refine g_aload rfl rfl ?_
      refine g_iload rfl rfl ?_
      refine g_push rfl ?_
      obtain ⟨x5, h30, E⟩ := ob E
      refine g_inv2 (dc := 0) rfl (by omega) ty_m (Nat.le_of_ble_eq_true rfl) (fun d hd => tm_at hd v1 6 S0 _ h30) ?_
      refine g_push rfl ?_
      refine g_iadd rfl ?_
      refine g_iload rfl rfl ?_
      refine g_iadd rfl ?_
      refine g_push rfl ?_
      refine g_isub rfl ?_
      obtain ⟨S13, h31, E⟩ := ob E
      refine g_inv3 (dc := 0) rfl (by omega) ty_m (Nat.le_of_ble_eq_true rfl) (fun d hd => tm_sets hd v1 6 (((x5 + 100) + v3) - 1000) S0 _ h31) ?_
      obtain rfl := so1 E
      exact g_ret rfl
def fm_nextActor_2b (k2 : Int32 → Mem → Option Int32) (v1 : Int32) (S0 : Mem) : Option Int32 := if 12 < v1 then (some ((-2))) else ((ald S0 698 928).bind fun x1 => (ald S0 698 924).bind fun x2 => if x2 ≤ (irm ((x1 + v1) + 12) 12) then (k2 (v1 + 1) S0) else ((fm_isLive (irm ((x1 + v1) + 12) 12) S0).bind fun x3 => if x3 = 0 then (k2 (v1 + 1) S0) else ((fm_at (irm ((x1 + v1) + 12) 12) 13 S0).bind fun x4 => if x4 ≤ 0 then (k2 (v1 + 1) S0) else (some (irm ((x1 + v1) + 12) 12)))))
set_option maxRecDepth 20000 in
set_option maxHeartbeats 4000000 in
theorem tm_nextActor_2b {scr : Nat × (Nat → Int32)} {d : Nat} (hd : 2 ≤ d) {k2 : Int32 → Mem → Option Int32} (hk2 : ∀ (v1 : Int32) (S0 : Mem), ∀ (rv : Int32), k2 v1 S0 = some rv → XG scr d 153 2 [(0, .inr (some (some 697))), (1, .inl v1)] [] S0 (some (.inl rv)) S0) (v1 : Int32) (S0 : Mem)  (rv : Int32) (E : fm_nextActor_2b k2 v1 S0 = some rv) : XG scr d 153 2 [(0, .inr (some (some 697))), (1, .inl v1)] [] S0 (some (.inl rv)) S0 := by
  unfold fm_nextActor_2b at E
  refine g_iload rfl rfl ?_
  refine g_push rfl ?_
  rcases xif E with ⟨h1, E⟩ | ⟨h1, E⟩
  · refine g_icgt_t rfl h1 ?_
    refine g_push rfl ?_
    obtain rfl := so1 E
    exact g_iret rfl
  · refine g_icgt_f rfl h1 ?_
    refine g_aload rfl rfl ?_
    refine g_getR rfl ty_m (fR_8_0 ty_m) ?_
    refine g_push rfl ?_
    obtain ⟨x1, h2, E⟩ := ob E
    refine g_iald rfl fT_8_0 h2 ?_
    refine g_iload rfl rfl ?_
    refine g_iadd rfl ?_
    refine g_push rfl ?_
    refine g_iadd rfl ?_
    refine g_push rfl ?_
    refine g_irem rfl (by decide) ?_
    refine g_istore (L2 := [(2, .inl (irm ((x1 + v1) + 12) 12)), (0, .inr (some (some 697))), (1, .inl v1)]) rfl rfl ?_
    refine g_iload rfl rfl ?_
    refine g_aload rfl rfl ?_
    refine g_getR rfl ty_m (fR_8_0 ty_m) ?_
    refine g_push rfl ?_
    obtain ⟨x2, h3, E⟩ := ob E
    refine g_iald rfl fT_8_0 h3 ?_
    rcases xif E with ⟨h4, E⟩ | ⟨h4, E⟩
    · refine g_icge_t rfl h4 ?_
      refine g_iinc (L2 := [(1, .inl (v1 + 1)), (2, .inl (irm ((x1 + v1) + 12) 12)), (0, .inr (some (some 697)))]) rfl rfl rfl ?_
      refine g_goto rfl ?_
      exact g_loc (lsub_cons rfl (lsub_cons rfl lsub_nil)) (hk2 (v1 + 1) S0 _ E)
    · refine g_icge_f rfl h4 ?_
      refine g_aload rfl rfl ?_
      refine g_iload rfl rfl ?_
      obtain ⟨x3, h5, E⟩ := ob E
      refine g_inv1 (dc := 1) rfl (by omega) ty_m (Nat.le_of_ble_eq_true rfl) (fun d hd => tm_isLive hd (irm ((x1 + v1) + 12) 12) S0 _ h5) ?_
      rcases xif E with ⟨h6, E⟩ | ⟨h6, E⟩
      · refine g_ifeq_t rfl h6 ?_
        refine g_iinc (L2 := [(1, .inl (v1 + 1)), (2, .inl (irm ((x1 + v1) + 12) 12)), (0, .inr (some (some 697)))]) rfl rfl rfl ?_
        refine g_goto rfl ?_
        exact g_loc (lsub_cons rfl (lsub_cons rfl lsub_nil)) (hk2 (v1 + 1) S0 _ E)
      · refine g_ifeq_f rfl h6 ?_
        refine g_aload rfl rfl ?_
        refine g_iload rfl rfl ?_
        refine g_push rfl ?_
        obtain ⟨x4, h7, E⟩ := ob E
        refine g_inv2 (dc := 0) rfl (by omega) ty_m (Nat.le_of_ble_eq_true rfl) (fun d hd => tm_at hd (irm ((x1 + v1) + 12) 12) 13 S0 _ h7) ?_
        rcases xif E with ⟨h8, E⟩ | ⟨h8, E⟩
        · refine g_ifle_t rfl h8 ?_
          refine g_iinc (L2 := [(1, .inl (v1 + 1)), (2, .inl (irm ((x1 + v1) + 12) 12)), (0, .inr (some (some 697)))]) rfl rfl rfl ?_
          refine g_goto rfl ?_
          exact g_loc (lsub_cons rfl (lsub_cons rfl lsub_nil)) (hk2 (v1 + 1) S0 _ E)
        · refine g_ifle_f rfl h8 ?_
          refine g_iload rfl rfl ?_
          obtain rfl := so1 E
          exact g_iret rfl
def fm_nextActor_2  : Nat → Int32 → Mem → Option Int32
  | 0 => fun _ _ => none
  | n + 1 => fm_nextActor_2b  (fm_nextActor_2  n)
set_option maxRecDepth 20000 in
set_option maxHeartbeats 4000000 in
theorem tm_nextActor_2 {scr : Nat × (Nat → Int32)} {d : Nat} (hd : 2 ≤ d)  : ∀ (n : Nat) (v1 : Int32) (S0 : Mem), ∀ (rv : Int32), fm_nextActor_2  n v1 S0 = some rv → XG scr d 153 2 [(0, .inr (some (some 697))), (1, .inl v1)] [] S0 (some (.inl rv)) S0
  | 0, v1, S0, rv, E => nn E
  | n + 1, v1, S0, rv, E => tm_nextActor_2b hd  (tm_nextActor_2 hd  n) v1 S0  rv E
def fm_nextActor  (S0 : Mem) : Option Int32 := fm_nextActor_2 LF 1 S0
set_option maxRecDepth 20000 in
set_option maxHeartbeats 4000000 in
theorem tm_nextActor {scr : Nat × (Nat → Int32)} {d : Nat} (hd : 2 ≤ d)  (S0 : Mem)  (rv : Int32) (E : fm_nextActor   S0 = some rv) : XG scr d 153 0 [(0, .inr (some (some 697)))] [] S0 (some (.inl rv)) S0 := by
  unfold fm_nextActor at E
  refine g_push rfl ?_
  refine g_istore (L2 := [(1, .inl 1), (0, .inr (some (some 697)))]) rfl rfl ?_
  exact g_loc (lsub_cons rfl (lsub_cons rfl lsub_nil)) (tm_nextActor_2 hd LF 1 S0 _ E)
def fm_hasStep  (S0 : Mem) : Option Int32 := (fm_nextActor S0).bind fun x1 => if 0 ≤ x1 then (some 1) else ((ald S0 698 931).bind fun x2 => if x2 ≤ 0 then (some 0) else (some 1))
set_option maxRecDepth 20000 in
set_option maxHeartbeats 4000000 in
theorem tm_hasStep {scr : Nat × (Nat → Int32)} {d : Nat} (hd : 3 ≤ d)  (S0 : Mem)  (rv : Int32) (E : fm_hasStep   S0 = some rv) : XG scr d 130 0 [(0, .inr (some (some 697)))] [] S0 (some (.inl rv)) S0 := by
  unfold fm_hasStep at E
  refine g_aload rfl rfl ?_
  obtain ⟨x1, h1, E⟩ := ob E
  refine g_inv0 (dc := 2) rfl (by omega) ty_m (Nat.le_of_ble_eq_true rfl) (fun d hd => tm_nextActor hd S0 _ h1) ?_
  rcases xif E with ⟨h2, E⟩ | ⟨h2, E⟩
  · refine g_ifge_t rfl h2 ?_
    refine g_push rfl ?_
    refine g_goto rfl ?_
    obtain rfl := so1 E
    exact g_zret rfl b01
  · refine g_ifge_f rfl h2 ?_
    refine g_aload rfl rfl ?_
    refine g_getR rfl ty_m (fR_8_0 ty_m) ?_
    refine g_push rfl ?_
    obtain ⟨x2, h3, E⟩ := ob E
    refine g_iald rfl fT_8_0 h3 ?_
    rcases xif E with ⟨h4, E⟩ | ⟨h4, E⟩
    · refine g_ifle_t rfl h4 ?_
      refine g_push rfl ?_
      obtain rfl := so1 E
      exact g_zret rfl b00
    · refine g_ifle_f rfl h4 ?_
      refine g_push rfl ?_
      refine g_goto rfl ?_
      obtain rfl := so1 E
      exact g_zret rfl b01
def fm_isEnd_24  (v1 : Int32) (v2 : Int32) (S0 : Mem) : Option (Int32 × Mem) := (fm_hasStep S0).bind fun x1 => if x1 = 0 then ((some (up2 S0 697 18 1)).bind fun S1 => if 0 < (S1 697 18) then (some (1, S1)) else (if v1 = v2 then (some (1, S1)) else (some (0, S1)))) else ((some (up2 S0 697 18 0)).bind fun S2 => if 0 < (S2 697 18) then (some (1, S2)) else (if v1 = v2 then (some (1, S2)) else (some (0, S2))))
set_option maxRecDepth 20000 in
set_option maxHeartbeats 4000000 in
theorem tm_isEnd_24 {scr : Nat × (Nat → Int32)} {d : Nat} (hd : 4 ≤ d)  (v1 : Int32) (v2 : Int32) (S0 : Mem)  (rv : Int32) (SR : Mem) (E : fm_isEnd_24 v1 v2 S0 = some (rv, SR)) : XG scr d 137 24 [(0, .inr (some (some 697))), (1, .inl v1), (2, .inl v2)] [.inr (some (some 697))] S0 (some (.inl rv)) SR := by
  unfold fm_isEnd_24 at E
  refine g_aload rfl rfl ?_
  obtain ⟨x1, h1, E⟩ := ob E
  refine g_inv0 (dc := 3) rfl (by omega) ty_m (Nat.le_of_ble_eq_true rfl) (fun d hd => tm_hasStep hd S0 _ h1) ?_
  rcases xif E with ⟨h2, E⟩ | ⟨h2, E⟩
  · refine g_ifne_t rfl h2 ?_
    refine g_push rfl ?_
    refine g_goto rfl ?_
    obtain ⟨S1, hS1, E⟩ := ob E
    refine g_putI rfl ty_m hS1 ?_
    refine g_aload rfl rfl ?_
    refine g_getI rfl ty_m ?_
    rcases xif E with ⟨h3, E⟩ | ⟨h3, E⟩
    · refine g_ifgt_t rfl h3 ?_
      refine g_push rfl ?_
      refine g_goto rfl ?_
      obtain ⟨rfl, rfl⟩ := so2 E
      exact g_zret rfl b01
    · refine g_ifgt_f rfl h3 ?_
      refine g_iload rfl rfl ?_
      refine g_iload rfl rfl ?_
      rcases xif E with ⟨h4, E⟩ | ⟨h4, E⟩
      · refine g_icne_t rfl h4 ?_
        refine g_push rfl ?_
        refine g_goto rfl ?_
        obtain ⟨rfl, rfl⟩ := so2 E
        exact g_zret rfl b01
      · refine g_icne_f rfl h4 ?_
        refine g_push rfl ?_
        obtain ⟨rfl, rfl⟩ := so2 E
        exact g_zret rfl b00
  · refine g_ifne_f rfl h2 ?_
    refine g_push rfl ?_
    obtain ⟨S2, hS2, E⟩ := ob E
    refine g_putI rfl ty_m hS2 ?_
    refine g_aload rfl rfl ?_
    refine g_getI rfl ty_m ?_
    rcases xif E with ⟨h5, E⟩ | ⟨h5, E⟩
    · refine g_ifgt_t rfl h5 ?_
      refine g_push rfl ?_
      refine g_goto rfl ?_
      obtain ⟨rfl, rfl⟩ := so2 E
      exact g_zret rfl b01
    · refine g_ifgt_f rfl h5 ?_
      refine g_iload rfl rfl ?_
      refine g_iload rfl rfl ?_
      rcases xif E with ⟨h6, E⟩ | ⟨h6, E⟩
      · refine g_icne_t rfl h6 ?_
        refine g_push rfl ?_
        refine g_goto rfl ?_
        obtain ⟨rfl, rfl⟩ := so2 E
        exact g_zret rfl b01
      · refine g_icne_f rfl h6 ?_
        refine g_push rfl ?_
        obtain ⟨rfl, rfl⟩ := so2 E
        exact g_zret rfl b00
def fm_isEnd (v1 : Int32) (v2 : Int32) (S0 : Mem) : Option (Int32 × Mem) := (ald S0 698 924).bind fun x1 => if x1 ≤ 0 then (fm_isEnd_24 v1 v2 S0) else ((fm_isLive 0 S0).bind fun x2 => if x2 = 0 then ((some (up2 S0 697 18 2)).bind fun S1 => if 0 < (S1 697 18) then (some (1, S1)) else (if v1 = v2 then (some (1, S1)) else (some (0, S1)))) else (fm_isEnd_24 v1 v2 S0))
set_option maxRecDepth 20000 in
set_option maxHeartbeats 4000000 in
theorem tm_isEnd {scr : Nat × (Nat → Int32)} {d : Nat} (hd : 4 ≤ d) (v1 : Int32) (v2 : Int32) (S0 : Mem)  (rv : Int32) (SR : Mem) (E : fm_isEnd  v1 v2 S0 = some (rv, SR)) : XG scr d 137 0 [(0, .inr (some (some 697))), (1, .inl v1), (2, .inl v2)] [] S0 (some (.inl rv)) SR := by
  unfold fm_isEnd at E
  refine g_aload rfl rfl ?_
  refine g_aload rfl rfl ?_
  refine g_getR rfl ty_m (fR_8_0 ty_m) ?_
  refine g_push rfl ?_
  obtain ⟨x1, h1, E⟩ := ob E
  refine g_iald rfl fT_8_0 h1 ?_
  rcases xif E with ⟨h2, E⟩ | ⟨h2, E⟩
  · refine g_ifle_t rfl h2 ?_
    exact g_loc (lsub_cons rfl (lsub_cons rfl (lsub_cons rfl lsub_nil))) (tm_isEnd_24 hd v1 v2 S0 _ _ E)
  · refine g_ifle_f rfl h2 ?_
    refine g_aload rfl rfl ?_
    refine g_push rfl ?_
    obtain ⟨x2, h3, E⟩ := ob E
    refine g_inv1 (dc := 1) rfl (by omega) ty_m (Nat.le_of_ble_eq_true rfl) (fun d hd => tm_isLive hd 0 S0 _ h3) ?_
    rcases xif E with ⟨h4, E⟩ | ⟨h4, E⟩
    · refine g_ifne_t rfl h4 ?_
      refine g_push rfl ?_
      refine g_goto rfl ?_
      obtain ⟨S1, hS1, E⟩ := ob E
      refine g_putI rfl ty_m hS1 ?_
      refine g_aload rfl rfl ?_
      refine g_getI rfl ty_m ?_
      rcases xif E with ⟨h5, E⟩ | ⟨h5, E⟩
      · refine g_ifgt_t rfl h5 ?_
        refine g_push rfl ?_
        refine g_goto rfl ?_
        obtain ⟨rfl, rfl⟩ := so2 E
        exact g_zret rfl b01
      · refine g_ifgt_f rfl h5 ?_
        refine g_iload rfl rfl ?_
        refine g_iload rfl rfl ?_
        rcases xif E with ⟨h6, E⟩ | ⟨h6, E⟩
        · refine g_icne_t rfl h6 ?_
          refine g_push rfl ?_
          refine g_goto rfl ?_
          obtain ⟨rfl, rfl⟩ := so2 E
          exact g_zret rfl b01
        · refine g_icne_f rfl h6 ?_
          refine g_push rfl ?_
          obtain ⟨rfl, rfl⟩ := so2 E
          exact g_zret rfl b00
    · refine g_ifne_f rfl h4 ?_
      exact g_loc (lsub_cons rfl (lsub_cons rfl (lsub_cons rfl lsub_nil))) (tm_isEnd_24 hd v1 v2 S0 _ _ E)
def fm_toldAs (v0 : Int32) (S0 : Mem) : Option Int32 := if v0 < 1000 then (some v0) else (some ((200 + v0) - 1000))
set_option maxRecDepth 20000 in
set_option maxHeartbeats 4000000 in
theorem tm_toldAs {scr : Nat × (Nat → Int32)} {d : Nat} (hd : 0 ≤ d) (v0 : Int32) (S0 : Mem)  (rv : Int32) (E : fm_toldAs  v0 S0 = some rv) : XG scr d 184 0 [(0, .inl v0)] [] S0 (some (.inl rv)) S0 := by
  unfold fm_toldAs at E
  refine g_iload rfl rfl ?_
  refine g_push rfl ?_
  rcases xif E with ⟨h1, E⟩ | ⟨h1, E⟩
  · refine g_iclt_t rfl h1 ?_
    refine g_iload rfl rfl ?_
    obtain rfl := so1 E
    exact g_iret rfl
  · refine g_iclt_f rfl h1 ?_
    refine g_push rfl ?_
    refine g_iload rfl rfl ?_
    refine g_iadd rfl ?_
    refine g_push rfl ?_
    refine g_isub rfl ?_
    refine g_goto rfl ?_
    obtain rfl := so1 E
    exact g_iret rfl
def fm_logs_61  (v1 : Int32) (v2 : Int32) (S0 : Mem) : Option Mem := (fm_toldAs v2 S0).bind fun x1 => (some (up2 S0 697 7 (((1000 * v1) + x1) + 300))).bind fun S1 => (ald S1 698 962).bind fun x2 => (ast S1 698 (963 + x2) (S1 697 7)).bind fun S2 => (ald S2 698 962).bind fun x3 => (ast S2 698 962 (x3 + 1)).bind fun S3 => some S3
set_option maxRecDepth 20000 in
set_option maxHeartbeats 4000000 in
theorem tm_logs_61 {scr : Nat × (Nat → Int32)} {d : Nat} (hd : 1 ≤ d)  (v1 : Int32) (v2 : Int32) (S0 : Mem)  (SR : Mem) (E : fm_logs_61 v1 v2 S0 = some SR) : XG scr d 149 61 [(0, .inr (some (some 697))), (1, .inl v1), (2, .inl v2)] [] S0 none SR := by
  unfold fm_logs_61 at E
  refine g_aload rfl rfl ?_
  refine g_push rfl ?_
  refine g_iload rfl rfl ?_
  refine g_imul rfl ?_
  refine g_iload rfl rfl ?_
  obtain ⟨x1, h1, E⟩ := ob E
  refine g_invS1 (dc := 0) rfl (by omega) (Nat.le_of_ble_eq_true rfl) (fun d hd => tm_toldAs hd v2 S0 _ h1) ?_
  refine g_iadd rfl ?_
  refine g_push rfl ?_
  refine g_iadd rfl ?_
  obtain ⟨S1, hS1, E⟩ := ob E
  refine g_putI rfl ty_m hS1 ?_
  refine g_aload rfl rfl ?_
  refine g_getR rfl ty_m (fR_8_0 ty_m) ?_
  refine g_push rfl ?_
  refine g_aload rfl rfl ?_
  refine g_getR rfl ty_m (fR_8_0 ty_m) ?_
  refine g_push rfl ?_
  obtain ⟨x2, h2, E⟩ := ob E
  refine g_iald rfl fT_8_0 h2 ?_
  refine g_iadd rfl ?_
  refine g_aload rfl rfl ?_
  refine g_getI rfl ty_m ?_
  obtain ⟨S2, h3, E⟩ := ob E
  refine g_iast rfl fT_8_0 h3 ?_
  refine g_aload rfl rfl ?_
  refine g_getR rfl ty_m (fR_8_0 ty_m) ?_
  refine g_push rfl ?_
  refine g_dup2 rfl ?_
  obtain ⟨x3, h4, E⟩ := ob E
  refine g_iald rfl fT_8_0 h4 ?_
  refine g_push rfl ?_
  refine g_iadd rfl ?_
  obtain ⟨S3, h5, E⟩ := ob E
  refine g_iast rfl fT_8_0 h5 ?_
  obtain rfl := so1 E
  exact g_ret rfl
def fm_logs_15b (k15 : Int32 → Int32 → Int32 → Mem → Option Mem) (v1 : Int32) (v2 : Int32) (v3 : Int32) (S0 : Mem) : Option Mem := if 30 ≤ v3 then ((ald S0 698 962).bind fun x1 => (ast S0 698 962 (x1 - 1)).bind fun S1 => fm_logs_61 v1 v2 S1) else ((ald S0 698 (963 + v3)).bind fun x2 => (ast S0 698 ((963 + v3) - 1) x2).bind fun S2 => k15 v1 v2 (v3 + 1) S2)
set_option maxRecDepth 20000 in
set_option maxHeartbeats 4000000 in
theorem tm_logs_15b {scr : Nat × (Nat → Int32)} {d : Nat} (hd : 1 ≤ d) {k15 : Int32 → Int32 → Int32 → Mem → Option Mem} (hk15 : ∀ (v1 : Int32) (v2 : Int32) (v3 : Int32) (S0 : Mem), ∀ (SR : Mem), k15 v1 v2 v3 S0 = some SR → XG scr d 149 15 [(0, .inr (some (some 697))), (1, .inl v1), (2, .inl v2), (3, .inl v3)] [] S0 none SR) (v1 : Int32) (v2 : Int32) (v3 : Int32) (S0 : Mem)  (SR : Mem) (E : fm_logs_15b k15 v1 v2 v3 S0 = some SR) : XG scr d 149 15 [(0, .inr (some (some 697))), (1, .inl v1), (2, .inl v2), (3, .inl v3)] [] S0 none SR := by
  unfold fm_logs_15b at E
  refine g_iload rfl rfl ?_
  refine g_push rfl ?_
  rcases xif E with ⟨h1, E⟩ | ⟨h1, E⟩
  · refine g_icge_t rfl h1 ?_
    refine g_aload rfl rfl ?_
    refine g_getR rfl ty_m (fR_8_0 ty_m) ?_
    refine g_push rfl ?_
    refine g_dup2 rfl ?_
    obtain ⟨x1, h2, E⟩ := ob E
    refine g_iald rfl fT_8_0 h2 ?_
    refine g_push rfl ?_
    refine g_isub rfl ?_
    obtain ⟨S1, h3, E⟩ := ob E
    refine g_iast rfl fT_8_0 h3 ?_
    exact g_loc (lsub_cons rfl (lsub_cons rfl (lsub_cons rfl lsub_nil))) (tm_logs_61 hd v1 v2 S1 _ E)
  · refine g_icge_f rfl h1 ?_
    refine g_aload rfl rfl ?_
    refine g_getR rfl ty_m (fR_8_0 ty_m) ?_
    refine g_push rfl ?_
    refine g_iload rfl rfl ?_
    refine g_iadd rfl ?_
    refine g_push rfl ?_
    refine g_isub rfl ?_
    refine g_aload rfl rfl ?_
    refine g_getR rfl ty_m (fR_8_0 ty_m) ?_
    refine g_push rfl ?_
    refine g_iload rfl rfl ?_
    refine g_iadd rfl ?_
    obtain ⟨x2, h4, E⟩ := ob E
    refine g_iald rfl fT_8_0 h4 ?_
    obtain ⟨S2, h5, E⟩ := ob E
    refine g_iast rfl fT_8_0 h5 ?_
    refine g_iinc (L2 := [(3, .inl (v3 + 1)), (0, .inr (some (some 697))), (1, .inl v1), (2, .inl v2)]) rfl rfl rfl ?_
    refine g_goto rfl ?_
    exact g_loc (lsub_cons rfl (lsub_cons rfl (lsub_cons rfl (lsub_cons rfl lsub_nil)))) (hk15 v1 v2 (v3 + 1) S2 _ E)
def fm_logs_15  : Nat → Int32 → Int32 → Int32 → Mem → Option Mem
  | 0 => fun _ _ _ _ => none
  | n + 1 => fm_logs_15b  (fm_logs_15  n)
set_option maxRecDepth 20000 in
set_option maxHeartbeats 4000000 in
theorem tm_logs_15 {scr : Nat × (Nat → Int32)} {d : Nat} (hd : 1 ≤ d)  : ∀ (n : Nat) (v1 : Int32) (v2 : Int32) (v3 : Int32) (S0 : Mem), ∀ (SR : Mem), fm_logs_15  n v1 v2 v3 S0 = some SR → XG scr d 149 15 [(0, .inr (some (some 697))), (1, .inl v1), (2, .inl v2), (3, .inl v3)] [] S0 none SR
  | 0, v1, v2, v3, S0, SR, E => nn E
  | n + 1, v1, v2, v3, S0, SR, E => tm_logs_15b hd  (tm_logs_15 hd  n) v1 v2 v3 S0  SR E
def fm_logs (v1 : Int32) (v2 : Int32) (S0 : Mem) : Option Mem := (ald S0 698 962).bind fun x1 => if x1 = 30 then (fm_logs_15 LF v1 v2 1 S0) else (fm_logs_61 v1 v2 S0)
set_option maxRecDepth 20000 in
set_option maxHeartbeats 4000000 in
theorem tm_logs {scr : Nat × (Nat → Int32)} {d : Nat} (hd : 1 ≤ d) (v1 : Int32) (v2 : Int32) (S0 : Mem)  (SR : Mem) (E : fm_logs  v1 v2 S0 = some SR) : XG scr d 149 0 [(0, .inr (some (some 697))), (1, .inl v1), (2, .inl v2)] [] S0 none SR := by
  unfold fm_logs at E
  refine g_aload rfl rfl ?_
  refine g_getR rfl ty_m (fR_8_0 ty_m) ?_
  refine g_push rfl ?_
  obtain ⟨x1, h1, E⟩ := ob E
  refine g_iald rfl fT_8_0 h1 ?_
  refine g_push rfl ?_
  rcases xif E with ⟨h2, E⟩ | ⟨h2, E⟩
  · refine g_icne_t rfl h2 ?_
    refine g_push rfl ?_
    refine g_istore (L2 := [(3, .inl 1), (0, .inr (some (some 697))), (1, .inl v1), (2, .inl v2)]) rfl rfl ?_
    exact g_loc (lsub_cons rfl (lsub_cons rfl (lsub_cons rfl (lsub_cons rfl lsub_nil)))) (tm_logs_15 hd LF v1 v2 1 S0 _ E)
  · refine g_icne_f rfl h2 ?_
    exact g_loc (lsub_cons rfl (lsub_cons rfl (lsub_cons rfl lsub_nil))) (tm_logs_61 hd v1 v2 S0 _ E)
def fm_firstTimer_5b (k5 : Int32 → Int32 → Mem → Option Int32) (v1 : Int32) (v2 : Int32) (S0 : Mem) : Option Int32 := (ald S0 698 931).bind fun x1 => if x1 ≤ v2 then (some v1) else (if v1 < 0 then (k5 v2 (v2 + 1) S0) else ((ald S0 698 ((932 + (3 * v2)) + 1)).bind fun x2 => (ald S0 698 ((932 + (3 * v1)) + 1)).bind fun x3 => if x3 ≤ x2 then (k5 v1 (v2 + 1) S0) else (k5 v2 (v2 + 1) S0)))
set_option maxRecDepth 20000 in
set_option maxHeartbeats 4000000 in
theorem tm_firstTimer_5b {scr : Nat × (Nat → Int32)} {d : Nat} (hd : 0 ≤ d) {k5 : Int32 → Int32 → Mem → Option Int32} (hk5 : ∀ (v1 : Int32) (v2 : Int32) (S0 : Mem), ∀ (rv : Int32), k5 v1 v2 S0 = some rv → XG scr d 128 5 [(0, .inr (some (some 697))), (1, .inl v1), (2, .inl v2)] [] S0 (some (.inl rv)) S0) (v1 : Int32) (v2 : Int32) (S0 : Mem)  (rv : Int32) (E : fm_firstTimer_5b k5 v1 v2 S0 = some rv) : XG scr d 128 5 [(0, .inr (some (some 697))), (1, .inl v1), (2, .inl v2)] [] S0 (some (.inl rv)) S0 := by
  unfold fm_firstTimer_5b at E
  refine g_iload rfl rfl ?_
  refine g_aload rfl rfl ?_
  refine g_getR rfl ty_m (fR_8_0 ty_m) ?_
  refine g_push rfl ?_
  obtain ⟨x1, h1, E⟩ := ob E
  refine g_iald rfl fT_8_0 h1 ?_
  rcases xif E with ⟨h2, E⟩ | ⟨h2, E⟩
  · refine g_icge_t rfl h2 ?_
    refine g_iload rfl rfl ?_
    obtain rfl := so1 E
    exact g_iret rfl
  · refine g_icge_f rfl h2 ?_
    refine g_iload rfl rfl ?_
    rcases xif E with ⟨h3, E⟩ | ⟨h3, E⟩
    · refine g_iflt_t rfl h3 ?_
      refine g_iload rfl rfl ?_
      refine g_goto rfl ?_
      refine g_istore (L2 := [(1, .inl v2), (0, .inr (some (some 697))), (2, .inl v2)]) rfl rfl ?_
      refine g_iinc (L2 := [(2, .inl (v2 + 1)), (1, .inl v2), (0, .inr (some (some 697)))]) rfl rfl rfl ?_
      refine g_goto rfl ?_
      exact g_loc (lsub_cons rfl (lsub_cons rfl (lsub_cons rfl lsub_nil))) (hk5 v2 (v2 + 1) S0 _ E)
    · refine g_iflt_f rfl h3 ?_
      refine g_aload rfl rfl ?_
      refine g_getR rfl ty_m (fR_8_0 ty_m) ?_
      refine g_push rfl ?_
      refine g_push rfl ?_
      refine g_iload rfl rfl ?_
      refine g_imul rfl ?_
      refine g_iadd rfl ?_
      refine g_push rfl ?_
      refine g_iadd rfl ?_
      obtain ⟨x2, h4, E⟩ := ob E
      refine g_iald rfl fT_8_0 h4 ?_
      refine g_aload rfl rfl ?_
      refine g_getR rfl ty_m (fR_8_0 ty_m) ?_
      refine g_push rfl ?_
      refine g_push rfl ?_
      refine g_iload rfl rfl ?_
      refine g_imul rfl ?_
      refine g_iadd rfl ?_
      refine g_push rfl ?_
      refine g_iadd rfl ?_
      obtain ⟨x3, h5, E⟩ := ob E
      refine g_iald rfl fT_8_0 h5 ?_
      rcases xif E with ⟨h6, E⟩ | ⟨h6, E⟩
      · refine g_icge_t rfl h6 ?_
        refine g_iload rfl rfl ?_
        refine g_istore (L2 := [(1, .inl v1), (0, .inr (some (some 697))), (2, .inl v2)]) rfl rfl ?_
        refine g_iinc (L2 := [(2, .inl (v2 + 1)), (1, .inl v1), (0, .inr (some (some 697)))]) rfl rfl rfl ?_
        refine g_goto rfl ?_
        exact g_loc (lsub_cons rfl (lsub_cons rfl (lsub_cons rfl lsub_nil))) (hk5 v1 (v2 + 1) S0 _ E)
      · refine g_icge_f rfl h6 ?_
        refine g_iload rfl rfl ?_
        refine g_goto rfl ?_
        refine g_istore (L2 := [(1, .inl v2), (0, .inr (some (some 697))), (2, .inl v2)]) rfl rfl ?_
        refine g_iinc (L2 := [(2, .inl (v2 + 1)), (1, .inl v2), (0, .inr (some (some 697)))]) rfl rfl rfl ?_
        refine g_goto rfl ?_
        exact g_loc (lsub_cons rfl (lsub_cons rfl (lsub_cons rfl lsub_nil))) (hk5 v2 (v2 + 1) S0 _ E)
def fm_firstTimer_5  : Nat → Int32 → Int32 → Mem → Option Int32
  | 0 => fun _ _ _ => none
  | n + 1 => fm_firstTimer_5b  (fm_firstTimer_5  n)
set_option maxRecDepth 20000 in
set_option maxHeartbeats 4000000 in
theorem tm_firstTimer_5 {scr : Nat × (Nat → Int32)} {d : Nat} (hd : 0 ≤ d)  : ∀ (n : Nat) (v1 : Int32) (v2 : Int32) (S0 : Mem), ∀ (rv : Int32), fm_firstTimer_5  n v1 v2 S0 = some rv → XG scr d 128 5 [(0, .inr (some (some 697))), (1, .inl v1), (2, .inl v2)] [] S0 (some (.inl rv)) S0
  | 0, v1, v2, S0, rv, E => nn E
  | n + 1, v1, v2, S0, rv, E => tm_firstTimer_5b hd  (tm_firstTimer_5 hd  n) v1 v2 S0  rv E
def fm_firstTimer  (S0 : Mem) : Option Int32 := fm_firstTimer_5 LF ((-2)) 0 S0
set_option maxRecDepth 20000 in
set_option maxHeartbeats 4000000 in
theorem tm_firstTimer {scr : Nat × (Nat → Int32)} {d : Nat} (hd : 0 ≤ d)  (S0 : Mem)  (rv : Int32) (E : fm_firstTimer   S0 = some rv) : XG scr d 128 0 [(0, .inr (some (some 697)))] [] S0 (some (.inl rv)) S0 := by
  unfold fm_firstTimer at E
  refine g_push rfl ?_
  refine g_istore (L2 := [(1, .inl ((-2))), (0, .inr (some (some 697)))]) rfl rfl ?_
  refine g_push rfl ?_
  refine g_istore (L2 := [(2, .inl 0), (1, .inl ((-2))), (0, .inr (some (some 697)))]) rfl rfl ?_
  exact g_loc (lsub_cons rfl (lsub_cons rfl (lsub_cons rfl lsub_nil))) (tm_firstTimer_5 hd LF ((-2)) 0 S0 _ E)
def fm_step_185b (k185 : Int32 → Int32 → Int32 → Mem → Option Mem) (v3 : Int32) (v4 : Int32) (v5 : Int32) (S0 : Mem) : Option Mem := (ald S0 698 931).bind fun x1 => if (932 + (3 * x1)) ≤ v5 then (bd (fm_sends v3 ((-1)) v4 S0) fun x2 S1 => some S1) else ((ald S0 698 (v5 + 3)).bind fun x3 => (ast S0 698 v5 x3).bind fun S2 => k185 v3 v4 (v5 + 1) S2)
set_option maxRecDepth 20000 in
set_option maxHeartbeats 4000000 in
theorem tm_step_185b {scr : Nat × (Nat → Int32)} {d : Nat} (hd : 39 ≤ d) {k185 : Int32 → Int32 → Int32 → Mem → Option Mem} (hk185 : ∀ (v3 : Int32) (v4 : Int32) (v5 : Int32) (S0 : Mem), ∀ (SR : Mem), k185 v3 v4 v5 S0 = some SR → XG scr d 174 185 [(0, .inr (some (some 697))), (3, .inl v3), (4, .inl v4), (5, .inl v5)] [] S0 none SR) (v3 : Int32) (v4 : Int32) (v5 : Int32) (S0 : Mem)  (SR : Mem) (E : fm_step_185b k185 v3 v4 v5 S0 = some SR) : XG scr d 174 185 [(0, .inr (some (some 697))), (3, .inl v3), (4, .inl v4), (5, .inl v5)] [] S0 none SR := by
  unfold fm_step_185b at E
  refine g_iload rfl rfl ?_
  refine g_push rfl ?_
  refine g_push rfl ?_
  refine g_aload rfl rfl ?_
  refine g_getR rfl ty_m (fR_8_0 ty_m) ?_
  refine g_push rfl ?_
  obtain ⟨x1, h1, E⟩ := ob E
  refine g_iald rfl fT_8_0 h1 ?_
  refine g_imul rfl ?_
  refine g_iadd rfl ?_
  rcases xif E with ⟨h2, E⟩ | ⟨h2, E⟩
  · refine g_icge_t rfl h2 ?_
    refine g_aload rfl rfl ?_
    refine g_iload rfl rfl ?_
    refine g_push rfl ?_
    refine g_iload rfl rfl ?_
    obtain ⟨x2, S1, h3, E⟩ := ob2 E
    refine g_inv3 (dc := 2) rfl (by omega) ty_m (Nat.le_of_ble_eq_true rfl) (fun d hd => tm_sends hd v3 ((-1)) v4 S0 _ _ h3) ?_
    refine g_pop rfl ?_
    obtain rfl := so1 E
    exact g_ret rfl
  · refine g_icge_f rfl h2 ?_
    refine g_aload rfl rfl ?_
    refine g_getR rfl ty_m (fR_8_0 ty_m) ?_
    refine g_iload rfl rfl ?_
    refine g_aload rfl rfl ?_
    refine g_getR rfl ty_m (fR_8_0 ty_m) ?_
    refine g_iload rfl rfl ?_
    refine g_push rfl ?_
    refine g_iadd rfl ?_
    obtain ⟨x3, h4, E⟩ := ob E
    refine g_iald rfl fT_8_0 h4 ?_
    obtain ⟨S2, h5, E⟩ := ob E
    refine g_iast rfl fT_8_0 h5 ?_
    refine g_iinc (L2 := [(5, .inl (v5 + 1)), (0, .inr (some (some 697))), (3, .inl v3), (4, .inl v4)]) rfl rfl rfl ?_
    refine g_goto rfl ?_
    exact g_loc (lsub_cons rfl (lsub_cons rfl (lsub_cons rfl (lsub_cons rfl lsub_nil)))) (hk185 v3 v4 (v5 + 1) S2 _ E)
def fm_step_185  : Nat → Int32 → Int32 → Int32 → Mem → Option Mem
  | 0 => fun _ _ _ _ => none
  | n + 1 => fm_step_185b  (fm_step_185  n)
set_option maxRecDepth 20000 in
set_option maxHeartbeats 4000000 in
theorem tm_step_185 {scr : Nat × (Nat → Int32)} {d : Nat} (hd : 39 ≤ d)  : ∀ (n : Nat) (v3 : Int32) (v4 : Int32) (v5 : Int32) (S0 : Mem), ∀ (SR : Mem), fm_step_185  n v3 v4 v5 S0 = some SR → XG scr d 174 185 [(0, .inr (some (some 697))), (3, .inl v3), (4, .inl v4), (5, .inl v5)] [] S0 none SR
  | 0, v3, v4, v5, S0, SR, E => nn E
  | n + 1, v3, v4, v5, S0, SR, E => tm_step_185b hd  (tm_step_185 hd  n) v3 v4 v5 S0  SR E
def fm_step_45b (k45 : Int32 → Int32 → Int32 → Int32 → Int32 → Mem → Option Mem) (v1 : Int32) (v2 : Int32) (v3 : Int32) (v4 : Int32) (v5 : Int32) (S0 : Mem) : Option Mem := if (2 * v4) ≤ v5 then ((fm_sets v1 13 v4 S0).bind fun S1 => (ast S1 698 928 v1).bind fun S2 => (ald S2 698 926).bind fun x1 => (ast S2 698 926 (x1 + 1)).bind fun S3 => (fm_logs v1 v3 S3).bind fun S4 => (fm_deals v1 v2 v3 S4).bind fun S5 => some S5) else ((fm_at v1 ((14 + v5) + 2) S0).bind fun x2 => (fm_sets v1 (14 + v5) x2 S0).bind fun S6 => k45 v1 v2 v3 v4 (v5 + 1) S6)
set_option maxRecDepth 20000 in
set_option maxHeartbeats 4000000 in
theorem tm_step_45b {scr : Nat × (Nat → Int32)} {d : Nat} (hd : 39 ≤ d) {k45 : Int32 → Int32 → Int32 → Int32 → Int32 → Mem → Option Mem} (hk45 : ∀ (v1 : Int32) (v2 : Int32) (v3 : Int32) (v4 : Int32) (v5 : Int32) (S0 : Mem), ∀ (SR : Mem), k45 v1 v2 v3 v4 v5 S0 = some SR → XG scr d 174 45 [(0, .inr (some (some 697))), (1, .inl v1), (2, .inl v2), (3, .inl v3), (4, .inl v4), (5, .inl v5)] [] S0 none SR) (v1 : Int32) (v2 : Int32) (v3 : Int32) (v4 : Int32) (v5 : Int32) (S0 : Mem)  (SR : Mem) (E : fm_step_45b k45 v1 v2 v3 v4 v5 S0 = some SR) : XG scr d 174 45 [(0, .inr (some (some 697))), (1, .inl v1), (2, .inl v2), (3, .inl v3), (4, .inl v4), (5, .inl v5)] [] S0 none SR := by
  unfold fm_step_45b at E
  refine g_iload rfl rfl ?_
  refine g_push rfl ?_
  refine g_iload rfl rfl ?_
  refine g_imul rfl ?_
  rcases xif E with ⟨h1, E⟩ | ⟨h1, E⟩
  · refine g_icge_t rfl h1 ?_
    refine g_aload rfl rfl ?_
    refine g_iload rfl rfl ?_
    refine g_push rfl ?_
    refine g_iload rfl rfl ?_
    obtain ⟨S1, h2, E⟩ := ob E
    refine g_inv3 (dc := 0) rfl (by omega) ty_m (Nat.le_of_ble_eq_true rfl) (fun d hd => tm_sets hd v1 13 v4 S0 _ h2) ?_
    refine g_aload rfl rfl ?_
    refine g_getR rfl ty_m (fR_8_0 ty_m) ?_
    refine g_push rfl ?_
    refine g_iload rfl rfl ?_
    obtain ⟨S2, h3, E⟩ := ob E
    refine g_iast rfl fT_8_0 h3 ?_
    refine g_aload rfl rfl ?_
    refine g_getR rfl ty_m (fR_8_0 ty_m) ?_
    refine g_push rfl ?_
    refine g_dup2 rfl ?_
    obtain ⟨x1, h4, E⟩ := ob E
    refine g_iald rfl fT_8_0 h4 ?_
    refine g_push rfl ?_
    refine g_iadd rfl ?_
    obtain ⟨S3, h5, E⟩ := ob E
    refine g_iast rfl fT_8_0 h5 ?_
    refine g_aload rfl rfl ?_
    refine g_iload rfl rfl ?_
    refine g_iload rfl rfl ?_
    obtain ⟨S4, h6, E⟩ := ob E
    refine g_inv2 (dc := 1) rfl (by omega) ty_m (Nat.le_of_ble_eq_true rfl) (fun d hd => tm_logs hd v1 v3 S3 _ h6) ?_
    refine g_aload rfl rfl ?_
    refine g_iload rfl rfl ?_
    refine g_iload rfl rfl ?_
    refine g_iload rfl rfl ?_
    obtain ⟨S5, h7, E⟩ := ob E
    refine g_inv3 (dc := 38) rfl (by omega) ty_m (Nat.le_of_ble_eq_true rfl) (fun d hd => tm_deals hd v1 v2 v3 S4 _ h7) ?_
    obtain rfl := so1 E
    exact g_ret rfl
  · refine g_icge_f rfl h1 ?_
    refine g_aload rfl rfl ?_
    refine g_iload rfl rfl ?_
    refine g_push rfl ?_
    refine g_iload rfl rfl ?_
    refine g_iadd rfl ?_
    refine g_aload rfl rfl ?_
    refine g_iload rfl rfl ?_
    refine g_push rfl ?_
    refine g_iload rfl rfl ?_
    refine g_iadd rfl ?_
    refine g_push rfl ?_
    refine g_iadd rfl ?_
    obtain ⟨x2, h8, E⟩ := ob E
    refine g_inv2 (dc := 0) rfl (by omega) ty_m (Nat.le_of_ble_eq_true rfl) (fun d hd => tm_at hd v1 ((14 + v5) + 2) S0 _ h8) ?_
    obtain ⟨S6, h9, E⟩ := ob E
    refine g_inv3 (dc := 0) rfl (by omega) ty_m (Nat.le_of_ble_eq_true rfl) (fun d hd => tm_sets hd v1 (14 + v5) x2 S0 _ h9) ?_
    refine g_iinc (L2 := [(5, .inl (v5 + 1)), (0, .inr (some (some 697))), (1, .inl v1), (2, .inl v2), (3, .inl v3), (4, .inl v4)]) rfl rfl rfl ?_
    refine g_goto rfl ?_
    exact g_loc (lsub_cons rfl (lsub_cons rfl (lsub_cons rfl (lsub_cons rfl (lsub_cons rfl (lsub_cons rfl lsub_nil)))))) (hk45 v1 v2 v3 v4 (v5 + 1) S6 _ E)
def fm_step_45  : Nat → Int32 → Int32 → Int32 → Int32 → Int32 → Mem → Option Mem
  | 0 => fun _ _ _ _ _ _ => none
  | n + 1 => fm_step_45b  (fm_step_45  n)
set_option maxRecDepth 20000 in
set_option maxHeartbeats 4000000 in
theorem tm_step_45 {scr : Nat × (Nat → Int32)} {d : Nat} (hd : 39 ≤ d)  : ∀ (n : Nat) (v1 : Int32) (v2 : Int32) (v3 : Int32) (v4 : Int32) (v5 : Int32) (S0 : Mem), ∀ (SR : Mem), fm_step_45  n v1 v2 v3 v4 v5 S0 = some SR → XG scr d 174 45 [(0, .inr (some (some 697))), (1, .inl v1), (2, .inl v2), (3, .inl v3), (4, .inl v4), (5, .inl v5)] [] S0 none SR
  | 0, v1, v2, v3, v4, v5, S0, SR, E => nn E
  | n + 1, v1, v2, v3, v4, v5, S0, SR, E => tm_step_45b hd  (tm_step_45 hd  n) v1 v2 v3 v4 v5 S0  SR E
def fm_step  (S0 : Mem) : Option Mem := (some (up2 S0 697 7 ((-2)))).bind fun S1 => (fm_nextActor S1).bind fun x1 => if x1 < 0 then ((fm_firstTimer S1).bind fun x2 => (ald S1 698 (932 + (3 * x2))).bind fun x3 => (ald S1 698 ((932 + (3 * x2)) + 2)).bind fun x4 => (ald S1 698 ((932 + (3 * x2)) + 1)).bind fun x5 => (ast S1 698 925 x5).bind fun S2 => (ald S2 698 931).bind fun x6 => (ast S2 698 931 (x6 - 1)).bind fun S3 => fm_step_185 LF x3 x4 (932 + (3 * x2)) S3) else ((fm_at x1 14 S1).bind fun x7 => (fm_at x1 15 S1).bind fun x8 => (fm_at x1 13 S1).bind fun x9 => fm_step_45 LF x1 x7 x8 (x9 - 1) 0 S1)
set_option maxRecDepth 20000 in
set_option maxHeartbeats 4000000 in
theorem tm_step {scr : Nat × (Nat → Int32)} {d : Nat} (hd : 39 ≤ d)  (S0 : Mem)  (SR : Mem) (E : fm_step   S0 = some SR) : XG scr d 174 0 [(0, .inr (some (some 697)))] [] S0 none SR := by
  unfold fm_step at E
  refine g_aload rfl rfl ?_
  refine g_push rfl ?_
  obtain ⟨S1, hS1, E⟩ := ob E
  refine g_putI rfl ty_m hS1 ?_
  refine g_aload rfl rfl ?_
  obtain ⟨x1, h1, E⟩ := ob E
  refine g_inv0 (dc := 2) rfl (by omega) ty_m (Nat.le_of_ble_eq_true rfl) (fun d hd => tm_nextActor hd S1 _ h1) ?_
  refine g_istore (L2 := [(1, .inl x1), (0, .inr (some (some 697)))]) rfl rfl ?_
  refine g_iload rfl rfl ?_
  rcases xif E with ⟨h2, E⟩ | ⟨h2, E⟩
  · refine g_iflt_t rfl h2 ?_
    refine g_push rfl ?_
    refine g_push rfl ?_
    refine g_aload rfl rfl ?_
    obtain ⟨x2, h3, E⟩ := ob E
    refine g_inv0 (dc := 0) rfl (by omega) ty_m (Nat.le_of_ble_eq_true rfl) (fun d hd => tm_firstTimer hd S1 _ h3) ?_
    refine g_imul rfl ?_
    refine g_iadd rfl ?_
    refine g_istore (L2 := [(2, .inl (932 + (3 * x2))), (1, .inl x1), (0, .inr (some (some 697)))]) rfl rfl ?_
    refine g_aload rfl rfl ?_
    refine g_getR rfl ty_m (fR_8_0 ty_m) ?_
    refine g_iload rfl rfl ?_
    obtain ⟨x3, h4, E⟩ := ob E
    refine g_iald rfl fT_8_0 h4 ?_
    refine g_istore (L2 := [(3, .inl x3), (2, .inl (932 + (3 * x2))), (1, .inl x1), (0, .inr (some (some 697)))]) rfl rfl ?_
    refine g_aload rfl rfl ?_
    refine g_getR rfl ty_m (fR_8_0 ty_m) ?_
    refine g_iload rfl rfl ?_
    refine g_push rfl ?_
    refine g_iadd rfl ?_
    obtain ⟨x4, h5, E⟩ := ob E
    refine g_iald rfl fT_8_0 h5 ?_
    refine g_istore (L2 := [(4, .inl x4), (3, .inl x3), (2, .inl (932 + (3 * x2))), (1, .inl x1), (0, .inr (some (some 697)))]) rfl rfl ?_
    refine g_aload rfl rfl ?_
    refine g_getR rfl ty_m (fR_8_0 ty_m) ?_
    refine g_push rfl ?_
    refine g_aload rfl rfl ?_
    refine g_getR rfl ty_m (fR_8_0 ty_m) ?_
    refine g_iload rfl rfl ?_
    refine g_push rfl ?_
    refine g_iadd rfl ?_
    obtain ⟨x5, h6, E⟩ := ob E
    refine g_iald rfl fT_8_0 h6 ?_
    obtain ⟨S2, h7, E⟩ := ob E
    refine g_iast rfl fT_8_0 h7 ?_
    refine g_aload rfl rfl ?_
    refine g_getR rfl ty_m (fR_8_0 ty_m) ?_
    refine g_push rfl ?_
    refine g_dup2 rfl ?_
    obtain ⟨x6, h8, E⟩ := ob E
    refine g_iald rfl fT_8_0 h8 ?_
    refine g_push rfl ?_
    refine g_isub rfl ?_
    obtain ⟨S3, h9, E⟩ := ob E
    refine g_iast rfl fT_8_0 h9 ?_
    refine g_iload rfl rfl ?_
    refine g_istore (L2 := [(5, .inl (932 + (3 * x2))), (4, .inl x4), (3, .inl x3), (2, .inl (932 + (3 * x2))), (1, .inl x1), (0, .inr (some (some 697)))]) rfl rfl ?_
    exact g_loc (lsub_cons rfl (lsub_cons rfl (lsub_cons rfl (lsub_cons rfl lsub_nil)))) (tm_step_185 hd LF x3 x4 (932 + (3 * x2)) S3 _ E)
  · refine g_iflt_f rfl h2 ?_
    refine g_aload rfl rfl ?_
    refine g_iload rfl rfl ?_
    refine g_push rfl ?_
    obtain ⟨x7, h10, E⟩ := ob E
    refine g_inv2 (dc := 0) rfl (by omega) ty_m (Nat.le_of_ble_eq_true rfl) (fun d hd => tm_at hd x1 14 S1 _ h10) ?_
    refine g_istore (L2 := [(2, .inl x7), (1, .inl x1), (0, .inr (some (some 697)))]) rfl rfl ?_
    refine g_aload rfl rfl ?_
    refine g_iload rfl rfl ?_
    refine g_push rfl ?_
    obtain ⟨x8, h11, E⟩ := ob E
    refine g_inv2 (dc := 0) rfl (by omega) ty_m (Nat.le_of_ble_eq_true rfl) (fun d hd => tm_at hd x1 15 S1 _ h11) ?_
    refine g_istore (L2 := [(3, .inl x8), (2, .inl x7), (1, .inl x1), (0, .inr (some (some 697)))]) rfl rfl ?_
    refine g_aload rfl rfl ?_
    refine g_iload rfl rfl ?_
    refine g_push rfl ?_
    obtain ⟨x9, h12, E⟩ := ob E
    refine g_inv2 (dc := 0) rfl (by omega) ty_m (Nat.le_of_ble_eq_true rfl) (fun d hd => tm_at hd x1 13 S1 _ h12) ?_
    refine g_push rfl ?_
    refine g_isub rfl ?_
    refine g_istore (L2 := [(4, .inl (x9 - 1)), (3, .inl x8), (2, .inl x7), (1, .inl x1), (0, .inr (some (some 697)))]) rfl rfl ?_
    refine g_push rfl ?_
    refine g_istore (L2 := [(5, .inl 0), (4, .inl (x9 - 1)), (3, .inl x8), (2, .inl x7), (1, .inl x1), (0, .inr (some (some 697)))]) rfl rfl ?_
    exact g_loc (lsub_cons rfl (lsub_cons rfl (lsub_cons rfl (lsub_cons rfl (lsub_cons rfl (lsub_cons rfl lsub_nil)))))) (tm_step_45 hd LF x1 x7 x8 (x9 - 1) 0 S1 _ E)
def fm_runs_2b (k2 : Int32 → Int32 → Mem → Option (Int32 × Mem)) (v1 : Int32) (v2 : Int32) (S0 : Mem) : Option (Int32 × Mem) := bd (fm_isEnd v2 v1 S0) fun x1 S1 => if x1 = 0 then ((fm_step S1).bind fun S2 => k2 v1 (v2 + 1) S2) else (some (v2, S1))
set_option maxRecDepth 20000 in
set_option maxHeartbeats 4000000 in
theorem tm_runs_2b {scr : Nat × (Nat → Int32)} {d : Nat} (hd : 40 ≤ d) {k2 : Int32 → Int32 → Mem → Option (Int32 × Mem)} (hk2 : ∀ (v1 : Int32) (v2 : Int32) (S0 : Mem), ∀ (rv : Int32) (SR : Mem), k2 v1 v2 S0 = some (rv, SR) → XG scr d 166 2 [(0, .inr (some (some 697))), (1, .inl v1), (2, .inl v2)] [] S0 (some (.inl rv)) SR) (v1 : Int32) (v2 : Int32) (S0 : Mem)  (rv : Int32) (SR : Mem) (E : fm_runs_2b k2 v1 v2 S0 = some (rv, SR)) : XG scr d 166 2 [(0, .inr (some (some 697))), (1, .inl v1), (2, .inl v2)] [] S0 (some (.inl rv)) SR := by
  unfold fm_runs_2b at E
  refine g_aload rfl rfl ?_
  refine g_iload rfl rfl ?_
  refine g_iload rfl rfl ?_
  obtain ⟨x1, S1, h1, E⟩ := ob2 E
  refine g_inv2 (dc := 4) rfl (by omega) ty_m (Nat.le_of_ble_eq_true rfl) (fun d hd => tm_isEnd hd v2 v1 S0 _ _ h1) ?_
  rcases xif E with ⟨h2, E⟩ | ⟨h2, E⟩
  · refine g_ifne_t rfl h2 ?_
    refine g_aload rfl rfl ?_
    obtain ⟨S2, h3, E⟩ := ob E
    refine g_inv0 (dc := 39) rfl (by omega) ty_m (Nat.le_of_ble_eq_true rfl) (fun d hd => tm_step hd S1 _ h3) ?_
    refine g_iinc (L2 := [(2, .inl (v2 + 1)), (0, .inr (some (some 697))), (1, .inl v1)]) rfl rfl rfl ?_
    refine g_goto rfl ?_
    exact g_loc (lsub_cons rfl (lsub_cons rfl (lsub_cons rfl lsub_nil))) (hk2 v1 (v2 + 1) S2 _ _ E)
  · refine g_ifne_f rfl h2 ?_
    refine g_iload rfl rfl ?_
    obtain ⟨rfl, rfl⟩ := so2 E
    exact g_iret rfl
def fm_runs_2  : Nat → Int32 → Int32 → Mem → Option (Int32 × Mem)
  | 0 => fun _ _ _ => none
  | n + 1 => fm_runs_2b  (fm_runs_2  n)
set_option maxRecDepth 20000 in
set_option maxHeartbeats 4000000 in
theorem tm_runs_2 {scr : Nat × (Nat → Int32)} {d : Nat} (hd : 40 ≤ d)  : ∀ (n : Nat) (v1 : Int32) (v2 : Int32) (S0 : Mem), ∀ (rv : Int32) (SR : Mem), fm_runs_2  n v1 v2 S0 = some (rv, SR) → XG scr d 166 2 [(0, .inr (some (some 697))), (1, .inl v1), (2, .inl v2)] [] S0 (some (.inl rv)) SR
  | 0, v1, v2, S0, rv, SR, E => nn E
  | n + 1, v1, v2, S0, rv, SR, E => tm_runs_2b hd  (tm_runs_2 hd  n) v1 v2 S0  rv SR E
def fm_runs (v1 : Int32) (S0 : Mem) : Option (Int32 × Mem) := fm_runs_2 LF v1 0 S0
set_option maxRecDepth 20000 in
set_option maxHeartbeats 4000000 in
theorem tm_runs {scr : Nat × (Nat → Int32)} {d : Nat} (hd : 40 ≤ d) (v1 : Int32) (S0 : Mem)  (rv : Int32) (SR : Mem) (E : fm_runs  v1 S0 = some (rv, SR)) : XG scr d 166 0 [(0, .inr (some (some 697))), (1, .inl v1)] [] S0 (some (.inl rv)) SR := by
  unfold fm_runs at E
  refine g_push rfl ?_
  refine g_istore (L2 := [(2, .inl 0), (0, .inr (some (some 697))), (1, .inl v1)]) rfl rfl ?_
  exact g_loc (lsub_cons rfl (lsub_cons rfl (lsub_cons rfl lsub_nil))) (tm_runs_2 hd LF v1 0 S0 _ _ E)
def fm_run (v1 : Int32) (S0 : Mem) : Option (Int32 × Mem) := (fm_in v1 1 200 S0).bind fun x1 => if x1 = 0 then (some ((-1), S0)) else (bd (fm_runs v1 S0) fun x2 S1 => (ast S1 698 930 (S1 697 18)).bind fun S2 => some (x2, S2))
set_option maxRecDepth 20000 in
set_option maxHeartbeats 4000000 in
theorem tm_run {scr : Nat × (Nat → Int32)} {d : Nat} (hd : 41 ≤ d) (v1 : Int32) (S0 : Mem)  (rv : Int32) (SR : Mem) (E : fm_run  v1 S0 = some (rv, SR)) : XG scr d 165 0 [(0, .inr (some (some 697))), (1, .inl v1)] [] S0 (some (.inl rv)) SR := by
  unfold fm_run at E
  refine g_iload rfl rfl ?_
  refine g_push rfl ?_
  refine g_push rfl ?_
  obtain ⟨x1, h1, E⟩ := ob E
  refine g_invS3 (dc := 0) rfl (by omega) (Nat.le_of_ble_eq_true rfl) (fun d hd => tm_in hd v1 1 200 S0 _ h1) ?_
  rcases xif E with ⟨h2, E⟩ | ⟨h2, E⟩
  · refine g_ifne_t rfl h2 ?_
    refine g_push rfl ?_
    obtain ⟨rfl, rfl⟩ := so2 E
    exact g_iret rfl
  · refine g_ifne_f rfl h2 ?_
    refine g_aload rfl rfl ?_
    refine g_iload rfl rfl ?_
    obtain ⟨x2, S1, h3, E⟩ := ob2 E
    refine g_inv1 (dc := 40) rfl (by omega) ty_m (Nat.le_of_ble_eq_true rfl) (fun d hd => tm_runs hd v1 S0 _ _ h3) ?_
    refine g_istore (L2 := [(2, .inl x2), (0, .inr (some (some 697))), (1, .inl v1)]) rfl rfl ?_
    refine g_aload rfl rfl ?_
    refine g_getR rfl ty_m (fR_8_0 ty_m) ?_
    refine g_push rfl ?_
    refine g_aload rfl rfl ?_
    refine g_getI rfl ty_m ?_
    obtain ⟨S2, h4, E⟩ := ob E
    refine g_iast rfl fT_8_0 h4 ?_
    refine g_iload rfl rfl ?_
    obtain ⟨rfl, rfl⟩ := so2 E
    exact g_iret rfl
def fm_does_77  (v2 : Int32) (s0 : Int32) (S0 : Mem) : Option (Int32 × Mem) := if s0 = 0 then (some (0, S0)) else ((ald S0 716 1).bind fun x1 => (ald S0 716 2).bind fun x2 => (ald S0 716 3).bind fun x3 => (ald S0 716 4).bind fun x4 => bd (fm_actor v2 x1 (((1000 * x2) + (100 * x3)) + x4) S0) fun x5 S1 => if x5 < 0 then (some (0, S1)) else (some (1, S1)))
set_option maxRecDepth 20000 in
set_option maxHeartbeats 4000000 in
theorem tm_does_77 {scr : Nat × (Nat → Int32)} {d : Nat} (hd : 42 ≤ d)  (v2 : Int32) (s0 : Int32) (S0 : Mem)  (rv : Int32) (SR : Mem) (E : fm_does_77 v2 s0 S0 = some (rv, SR)) : XG scr d 120 77 [(0, .inr (some (some 697))), (2, .inl v2)] [.inl s0] S0 (some (.inl rv)) SR := by
  unfold fm_does_77 at E
  refine g_istore (L2 := [(3, .inl s0), (0, .inr (some (some 697))), (2, .inl v2)]) rfl rfl ?_
  refine g_iload rfl rfl ?_
  rcases xif E with ⟨h1, E⟩ | ⟨h1, E⟩
  · refine g_ifeq_t rfl h1 ?_
    refine g_push rfl ?_
    obtain ⟨rfl, rfl⟩ := so2 E
    exact g_zret rfl b00
  · refine g_ifeq_f rfl h1 ?_
    refine g_aload rfl rfl ?_
    refine g_iload rfl rfl ?_
    refine g_aload rfl rfl ?_
    refine g_getR rfl ty_m (fR_8_21 ty_m) ?_
    refine g_push rfl ?_
    obtain ⟨x1, h2, E⟩ := ob E
    refine g_iald rfl fT_8_21 h2 ?_
    refine g_push rfl ?_
    refine g_aload rfl rfl ?_
    refine g_getR rfl ty_m (fR_8_21 ty_m) ?_
    refine g_push rfl ?_
    obtain ⟨x2, h3, E⟩ := ob E
    refine g_iald rfl fT_8_21 h3 ?_
    refine g_imul rfl ?_
    refine g_push rfl ?_
    refine g_aload rfl rfl ?_
    refine g_getR rfl ty_m (fR_8_21 ty_m) ?_
    refine g_push rfl ?_
    obtain ⟨x3, h4, E⟩ := ob E
    refine g_iald rfl fT_8_21 h4 ?_
    refine g_imul rfl ?_
    refine g_iadd rfl ?_
    refine g_aload rfl rfl ?_
    refine g_getR rfl ty_m (fR_8_21 ty_m) ?_
    refine g_push rfl ?_
    obtain ⟨x4, h5, E⟩ := ob E
    refine g_iald rfl fT_8_21 h5 ?_
    refine g_iadd rfl ?_
    obtain ⟨x5, S1, h6, E⟩ := ob2 E
    refine g_inv3 (dc := 3) rfl (by omega) ty_m (Nat.le_of_ble_eq_true rfl) (fun d hd => tm_actor hd v2 x1 (((1000 * x2) + (100 * x3)) + x4) S0 _ _ h6) ?_
    rcases xif E with ⟨h7, E⟩ | ⟨h7, E⟩
    · refine g_iflt_t rfl h7 ?_
      refine g_push rfl ?_
      obtain ⟨rfl, rfl⟩ := so2 E
      exact g_zret rfl b00
    · refine g_iflt_f rfl h7 ?_
      refine g_push rfl ?_
      refine g_goto rfl ?_
      obtain ⟨rfl, rfl⟩ := so2 E
      exact g_zret rfl b01
def fm_does_27  (s0 : Int32) (S0 : Mem) : Option (Int32 × Mem) := (ald S0 716 2).bind fun x1 => (fm_in x1 0 2 S0).bind fun x2 => if x2 = 0 then (fm_does_77 s0 0 S0) else ((ald S0 716 3).bind fun x3 => (fm_in x3 0 9 S0).bind fun x4 => if x4 = 0 then (fm_does_77 s0 0 S0) else ((ald S0 716 4).bind fun x5 => (fm_in x5 1 50 S0).bind fun x6 => if x6 = 0 then (fm_does_77 s0 0 S0) else (fm_does_77 s0 1 S0)))
set_option maxRecDepth 20000 in
set_option maxHeartbeats 4000000 in
theorem tm_does_27 {scr : Nat × (Nat → Int32)} {d : Nat} (hd : 42 ≤ d)  (s0 : Int32) (S0 : Mem)  (rv : Int32) (SR : Mem) (E : fm_does_27 s0 S0 = some (rv, SR)) : XG scr d 120 27 [(0, .inr (some (some 697)))] [.inl s0] S0 (some (.inl rv)) SR := by
  unfold fm_does_27 at E
  refine g_istore (L2 := [(2, .inl s0), (0, .inr (some (some 697)))]) rfl rfl ?_
  refine g_aload rfl rfl ?_
  refine g_getR rfl ty_m (fR_8_21 ty_m) ?_
  refine g_push rfl ?_
  obtain ⟨x1, h1, E⟩ := ob E
  refine g_iald rfl fT_8_21 h1 ?_
  refine g_push rfl ?_
  refine g_push rfl ?_
  obtain ⟨x2, h2, E⟩ := ob E
  refine g_invS3 (dc := 0) rfl (by omega) (Nat.le_of_ble_eq_true rfl) (fun d hd => tm_in hd x1 0 2 S0 _ h2) ?_
  rcases xif E with ⟨h3, E⟩ | ⟨h3, E⟩
  · refine g_ifeq_t rfl h3 ?_
    refine g_push rfl ?_
    exact g_loc (lsub_cons rfl (lsub_cons rfl lsub_nil)) (tm_does_77 hd s0 0 S0 _ _ E)
  · refine g_ifeq_f rfl h3 ?_
    refine g_aload rfl rfl ?_
    refine g_getR rfl ty_m (fR_8_21 ty_m) ?_
    refine g_push rfl ?_
    obtain ⟨x3, h4, E⟩ := ob E
    refine g_iald rfl fT_8_21 h4 ?_
    refine g_push rfl ?_
    refine g_push rfl ?_
    obtain ⟨x4, h5, E⟩ := ob E
    refine g_invS3 (dc := 0) rfl (by omega) (Nat.le_of_ble_eq_true rfl) (fun d hd => tm_in hd x3 0 9 S0 _ h5) ?_
    rcases xif E with ⟨h6, E⟩ | ⟨h6, E⟩
    · refine g_ifeq_t rfl h6 ?_
      refine g_push rfl ?_
      exact g_loc (lsub_cons rfl (lsub_cons rfl lsub_nil)) (tm_does_77 hd s0 0 S0 _ _ E)
    · refine g_ifeq_f rfl h6 ?_
      refine g_aload rfl rfl ?_
      refine g_getR rfl ty_m (fR_8_21 ty_m) ?_
      refine g_push rfl ?_
      obtain ⟨x5, h7, E⟩ := ob E
      refine g_iald rfl fT_8_21 h7 ?_
      refine g_push rfl ?_
      refine g_push rfl ?_
      obtain ⟨x6, h8, E⟩ := ob E
      refine g_invS3 (dc := 0) rfl (by omega) (Nat.le_of_ble_eq_true rfl) (fun d hd => tm_in hd x5 1 50 S0 _ h8) ?_
      rcases xif E with ⟨h9, E⟩ | ⟨h9, E⟩
      · refine g_ifeq_t rfl h9 ?_
        refine g_push rfl ?_
        exact g_loc (lsub_cons rfl (lsub_cons rfl lsub_nil)) (tm_does_77 hd s0 0 S0 _ _ E)
      · refine g_ifeq_f rfl h9 ?_
        refine g_push rfl ?_
        refine g_goto rfl ?_
        exact g_loc (lsub_cons rfl (lsub_cons rfl lsub_nil)) (tm_does_77 hd s0 1 S0 _ _ E)
def fm_does (v1 : Int32) (S0 : Mem) : Option (Int32 × Mem) := if v1 = 97 then ((ald S0 716 0).bind fun x1 => if x1 = 99 then (fm_does_27 ((-1)) S0) else ((ald S0 716 0).bind fun x2 => fm_does_27 x2 S0)) else (if v1 = 109 then ((ald S0 716 0).bind fun x3 => (fm_isActor x3 S0).bind fun x4 => if x4 = 0 then ((bol x4).bind fun z1 => some (z1, S0)) else ((ald S0 716 0).bind fun x5 => (ald S0 716 1).bind fun x6 => bd (fm_sends x5 ((-1)) x6 S0) fun x7 S1 => (bol x4).bind fun z2 => some (z2, S1))) else ((ald S0 716 0).bind fun x8 => if x8 ≤ 0 then (some (0, S0)) else ((ald S0 716 0).bind fun x9 => bd (fm_run x9 S0) fun x10 S2 => if x10 < 0 then (some (0, S2)) else (some (1, S2)))))
set_option maxRecDepth 20000 in
set_option maxHeartbeats 4000000 in
theorem tm_does {scr : Nat × (Nat → Int32)} {d : Nat} (hd : 42 ≤ d) (v1 : Int32) (S0 : Mem)  (rv : Int32) (SR : Mem) (E : fm_does  v1 S0 = some (rv, SR)) : XG scr d 120 0 [(0, .inr (some (some 697))), (1, .inl v1)] [] S0 (some (.inl rv)) SR := by
  unfold fm_does at E
  refine g_iload rfl rfl ?_
  refine g_push rfl ?_
  rcases xif E with ⟨h1, E⟩ | ⟨h1, E⟩
  · refine g_icne_t rfl h1 ?_
    refine g_aload rfl rfl ?_
    refine g_getR rfl ty_m (fR_8_21 ty_m) ?_
    refine g_push rfl ?_
    obtain ⟨x1, h2, E⟩ := ob E
    refine g_iald rfl fT_8_21 h2 ?_
    refine g_push rfl ?_
    rcases xif E with ⟨h3, E⟩ | ⟨h3, E⟩
    · refine g_icne_t rfl h3 ?_
      refine g_push rfl ?_
      refine g_goto rfl ?_
      exact g_loc (lsub_cons rfl lsub_nil) (tm_does_27 hd ((-1)) S0 _ _ E)
    · refine g_icne_f rfl h3 ?_
      refine g_aload rfl rfl ?_
      refine g_getR rfl ty_m (fR_8_21 ty_m) ?_
      refine g_push rfl ?_
      obtain ⟨x2, h4, E⟩ := ob E
      refine g_iald rfl fT_8_21 h4 ?_
      exact g_loc (lsub_cons rfl lsub_nil) (tm_does_27 hd x2 S0 _ _ E)
  · refine g_icne_f rfl h1 ?_
    refine g_iload rfl rfl ?_
    refine g_push rfl ?_
    rcases xif E with ⟨h5, E⟩ | ⟨h5, E⟩
    · refine g_icne_t rfl h5 ?_
      refine g_aload rfl rfl ?_
      refine g_aload rfl rfl ?_
      refine g_getR rfl ty_m (fR_8_21 ty_m) ?_
      refine g_push rfl ?_
      obtain ⟨x3, h6, E⟩ := ob E
      refine g_iald rfl fT_8_21 h6 ?_
      obtain ⟨x4, h7, E⟩ := ob E
      refine g_inv1 (dc := 1) rfl (by omega) ty_m (Nat.le_of_ble_eq_true rfl) (fun d hd => tm_isActor hd x3 S0 _ h7) ?_
      refine g_istore (L2 := [(2, .inl x4), (0, .inr (some (some 697))), (1, .inl v1)]) rfl rfl ?_
      refine g_iload rfl rfl ?_
      rcases xif E with ⟨h8, E⟩ | ⟨h8, E⟩
      · refine g_ifeq_t rfl h8 ?_
        refine g_iload rfl rfl ?_
        obtain ⟨z1, h9, E⟩ := ob E
        obtain ⟨rfl, rfl⟩ := so2 E
        have h92 := (bol_of h9).2
        rw [h92]
        exact g_zret rfl (bol_of h9).1
      · refine g_ifeq_f rfl h8 ?_
        refine g_aload rfl rfl ?_
        refine g_aload rfl rfl ?_
        refine g_getR rfl ty_m (fR_8_21 ty_m) ?_
        refine g_push rfl ?_
        obtain ⟨x5, h10, E⟩ := ob E
        refine g_iald rfl fT_8_21 h10 ?_
        refine g_push rfl ?_
        refine g_aload rfl rfl ?_
        refine g_getR rfl ty_m (fR_8_21 ty_m) ?_
        refine g_push rfl ?_
        obtain ⟨x6, h11, E⟩ := ob E
        refine g_iald rfl fT_8_21 h11 ?_
        obtain ⟨x7, S1, h12, E⟩ := ob2 E
        refine g_inv3 (dc := 2) rfl (by omega) ty_m (Nat.le_of_ble_eq_true rfl) (fun d hd => tm_sends hd x5 ((-1)) x6 S0 _ _ h12) ?_
        refine g_pop rfl ?_
        refine g_iload rfl rfl ?_
        obtain ⟨z2, h13, E⟩ := ob E
        obtain ⟨rfl, rfl⟩ := so2 E
        have h132 := (bol_of h13).2
        rw [h132]
        exact g_zret rfl (bol_of h13).1
    · refine g_icne_f rfl h5 ?_
      refine g_aload rfl rfl ?_
      refine g_getR rfl ty_m (fR_8_21 ty_m) ?_
      refine g_push rfl ?_
      obtain ⟨x8, h14, E⟩ := ob E
      refine g_iald rfl fT_8_21 h14 ?_
      rcases xif E with ⟨h15, E⟩ | ⟨h15, E⟩
      · refine g_ifle_t rfl h15 ?_
        refine g_push rfl ?_
        obtain ⟨rfl, rfl⟩ := so2 E
        exact g_zret rfl b00
      · refine g_ifle_f rfl h15 ?_
        refine g_aload rfl rfl ?_
        refine g_aload rfl rfl ?_
        refine g_getR rfl ty_m (fR_8_21 ty_m) ?_
        refine g_push rfl ?_
        obtain ⟨x9, h16, E⟩ := ob E
        refine g_iald rfl fT_8_21 h16 ?_
        obtain ⟨x10, S2, h17, E⟩ := ob2 E
        refine g_inv1 (dc := 41) rfl (by omega) ty_m (Nat.le_of_ble_eq_true rfl) (fun d hd => tm_run hd x9 S0 _ _ h17) ?_
        rcases xif E with ⟨h18, E⟩ | ⟨h18, E⟩
        · refine g_iflt_t rfl h18 ?_
          refine g_push rfl ?_
          obtain ⟨rfl, rfl⟩ := so2 E
          exact g_zret rfl b00
        · refine g_iflt_f rfl h18 ?_
          refine g_push rfl ?_
          refine g_goto rfl ?_
          obtain ⟨rfl, rfl⟩ := so2 E
          exact g_zret rfl b01
def fm_drawn_37b (k37 : Int32 → Int32 → Int32 → Mem → Option (Int32 × Mem)) (v1 : Int32) (v2 : Int32) (v3 : Int32) (S0 : Mem) : Option (Int32 × Mem) := if v1 ≤ v3 then ((ald S0 698 927).bind fun x1 => some (x1 - v2, S0)) else ((ald S0 698 929).bind fun x2 => (ast S0 698 929 ((x2 * 1103515245) + 12345)).bind fun S1 => (ald S1 698 929).bind fun x3 => (ald S1 698 924).bind fun x4 => (nz x4).bind fun z1 => bd (fm_sends (irm ((iush x3 16) &&& 32767) x4) ((-1)) ((irm (((iush x3 16) &&& 32767) / 12) 199) - 99) S1) fun x5 S2 => k37 v1 v2 (v3 + 1) S2)
set_option maxRecDepth 20000 in
set_option maxHeartbeats 4000000 in
theorem tm_drawn_37b {scr : Nat × (Nat → Int32)} {d : Nat} (hd : 3 ≤ d) {k37 : Int32 → Int32 → Int32 → Mem → Option (Int32 × Mem)} (hk37 : ∀ (v1 : Int32) (v2 : Int32) (v3 : Int32) (S0 : Mem), ∀ (rv : Int32) (SR : Mem), k37 v1 v2 v3 S0 = some (rv, SR) → XG scr d 122 37 [(0, .inr (some (some 697))), (1, .inl v1), (2, .inl v2), (3, .inl v3)] [] S0 (some (.inl rv)) SR) (v1 : Int32) (v2 : Int32) (v3 : Int32) (S0 : Mem)  (rv : Int32) (SR : Mem) (E : fm_drawn_37b k37 v1 v2 v3 S0 = some (rv, SR)) : XG scr d 122 37 [(0, .inr (some (some 697))), (1, .inl v1), (2, .inl v2), (3, .inl v3)] [] S0 (some (.inl rv)) SR := by
  unfold fm_drawn_37b at E
  refine g_iload rfl rfl ?_
  refine g_iload rfl rfl ?_
  rcases xif E with ⟨h1, E⟩ | ⟨h1, E⟩
  · refine g_icge_t rfl h1 ?_
    refine g_aload rfl rfl ?_
    refine g_getR rfl ty_m (fR_8_0 ty_m) ?_
    refine g_push rfl ?_
    obtain ⟨x1, h2, E⟩ := ob E
    refine g_iald rfl fT_8_0 h2 ?_
    refine g_iload rfl rfl ?_
    refine g_isub rfl ?_
    obtain ⟨rfl, rfl⟩ := so2 E
    exact g_iret rfl
  · refine g_icge_f rfl h1 ?_
    refine g_aload rfl rfl ?_
    refine g_getR rfl ty_m (fR_8_0 ty_m) ?_
    refine g_push rfl ?_
    refine g_aload rfl rfl ?_
    refine g_getR rfl ty_m (fR_8_0 ty_m) ?_
    refine g_push rfl ?_
    obtain ⟨x2, h3, E⟩ := ob E
    refine g_iald rfl fT_8_0 h3 ?_
    refine g_push rfl ?_
    refine g_imul rfl ?_
    refine g_push rfl ?_
    refine g_iadd rfl ?_
    obtain ⟨S1, h4, E⟩ := ob E
    refine g_iast rfl fT_8_0 h4 ?_
    refine g_aload rfl rfl ?_
    refine g_getR rfl ty_m (fR_8_0 ty_m) ?_
    refine g_push rfl ?_
    obtain ⟨x3, h5, E⟩ := ob E
    refine g_iald rfl fT_8_0 h5 ?_
    refine g_push rfl ?_
    refine g_iushr rfl ?_
    refine g_push rfl ?_
    refine g_iand rfl ?_
    refine g_istore (L2 := [(4, .inl ((iush x3 16) &&& 32767)), (0, .inr (some (some 697))), (1, .inl v1), (2, .inl v2), (3, .inl v3)]) rfl rfl ?_
    refine g_aload rfl rfl ?_
    refine g_iload rfl rfl ?_
    refine g_aload rfl rfl ?_
    refine g_getR rfl ty_m (fR_8_0 ty_m) ?_
    refine g_push rfl ?_
    obtain ⟨x4, h6, E⟩ := ob E
    refine g_iald rfl fT_8_0 h6 ?_
    obtain ⟨z1, h7, E⟩ := ob E
    refine g_irem rfl (nz_of h7).1 ?_
    refine g_push rfl ?_
    refine g_iload rfl rfl ?_
    refine g_push rfl ?_
    refine g_idiv rfl (by decide) ?_
    refine g_push rfl ?_
    refine g_irem rfl (by decide) ?_
    refine g_push rfl ?_
    refine g_isub rfl ?_
    obtain ⟨x5, S2, h8, E⟩ := ob2 E
    refine g_inv3 (dc := 2) rfl (by omega) ty_m (Nat.le_of_ble_eq_true rfl) (fun d hd => tm_sends hd (irm ((iush x3 16) &&& 32767) x4) ((-1)) ((irm (((iush x3 16) &&& 32767) / 12) 199) - 99) S1 _ _ h8) ?_
    refine g_pop rfl ?_
    refine g_iinc (L2 := [(3, .inl (v3 + 1)), (4, .inl ((iush x3 16) &&& 32767)), (0, .inr (some (some 697))), (1, .inl v1), (2, .inl v2)]) rfl rfl rfl ?_
    refine g_goto rfl ?_
    exact g_loc (lsub_cons rfl (lsub_cons rfl (lsub_cons rfl (lsub_cons rfl lsub_nil)))) (hk37 v1 v2 (v3 + 1) S2 _ _ E)
def fm_drawn_37  : Nat → Int32 → Int32 → Int32 → Mem → Option (Int32 × Mem)
  | 0 => fun _ _ _ _ => none
  | n + 1 => fm_drawn_37b  (fm_drawn_37  n)
set_option maxRecDepth 20000 in
set_option maxHeartbeats 4000000 in
theorem tm_drawn_37 {scr : Nat × (Nat → Int32)} {d : Nat} (hd : 3 ≤ d)  : ∀ (n : Nat) (v1 : Int32) (v2 : Int32) (v3 : Int32) (S0 : Mem), ∀ (rv : Int32) (SR : Mem), fm_drawn_37  n v1 v2 v3 S0 = some (rv, SR) → XG scr d 122 37 [(0, .inr (some (some 697))), (1, .inl v1), (2, .inl v2), (3, .inl v3)] [] S0 (some (.inl rv)) SR
  | 0, v1, v2, v3, S0, rv, SR, E => nn E
  | n + 1, v1, v2, v3, S0, rv, SR, E => tm_drawn_37b hd  (tm_drawn_37 hd  n) v1 v2 v3 S0  rv SR E
def fm_drawn (v1 : Int32) (S0 : Mem) : Option (Int32 × Mem) := (fm_in v1 1 40 S0).bind fun x1 => if x1 = 0 then (some ((-1), S0)) else ((ald S0 698 924).bind fun x2 => if x2 = 0 then (some ((-5), S0)) else ((ald S0 698 927).bind fun x3 => fm_drawn_37 LF v1 x3 0 S0))
set_option maxRecDepth 20000 in
set_option maxHeartbeats 4000000 in
theorem tm_drawn {scr : Nat × (Nat → Int32)} {d : Nat} (hd : 3 ≤ d) (v1 : Int32) (S0 : Mem)  (rv : Int32) (SR : Mem) (E : fm_drawn  v1 S0 = some (rv, SR)) : XG scr d 122 0 [(0, .inr (some (some 697))), (1, .inl v1)] [] S0 (some (.inl rv)) SR := by
  unfold fm_drawn at E
  refine g_iload rfl rfl ?_
  refine g_push rfl ?_
  refine g_push rfl ?_
  obtain ⟨x1, h1, E⟩ := ob E
  refine g_invS3 (dc := 0) rfl (by omega) (Nat.le_of_ble_eq_true rfl) (fun d hd => tm_in hd v1 1 40 S0 _ h1) ?_
  rcases xif E with ⟨h2, E⟩ | ⟨h2, E⟩
  · refine g_ifne_t rfl h2 ?_
    refine g_push rfl ?_
    obtain ⟨rfl, rfl⟩ := so2 E
    exact g_iret rfl
  · refine g_ifne_f rfl h2 ?_
    refine g_aload rfl rfl ?_
    refine g_getR rfl ty_m (fR_8_0 ty_m) ?_
    refine g_push rfl ?_
    obtain ⟨x2, h3, E⟩ := ob E
    refine g_iald rfl fT_8_0 h3 ?_
    rcases xif E with ⟨h4, E⟩ | ⟨h4, E⟩
    · refine g_ifne_t rfl h4 ?_
      refine g_push rfl ?_
      obtain ⟨rfl, rfl⟩ := so2 E
      exact g_iret rfl
    · refine g_ifne_f rfl h4 ?_
      refine g_aload rfl rfl ?_
      refine g_getR rfl ty_m (fR_8_0 ty_m) ?_
      refine g_push rfl ?_
      obtain ⟨x3, h5, E⟩ := ob E
      refine g_iald rfl fT_8_0 h5 ?_
      refine g_istore (L2 := [(2, .inl x3), (0, .inr (some (some 697))), (1, .inl v1)]) rfl rfl ?_
      refine g_push rfl ?_
      refine g_istore (L2 := [(3, .inl 0), (2, .inl x3), (0, .inr (some (some 697))), (1, .inl v1)]) rfl rfl ?_
      exact g_loc (lsub_cons rfl (lsub_cons rfl (lsub_cons rfl (lsub_cons rfl lsub_nil)))) (tm_drawn_37 hd LF v1 x3 0 S0 _ _ E)
def fm_dry_40  (v1 : Int32) (v2 : Int32) (S0 : Mem) : Option (Int32 × Mem) := (fm_take 698 699 S0).bind fun S1 => bd (fm_runs v1 S1) fun x1 S2 => if v2 = 0 then ((fm_take 699 698 S2).bind fun S3 => some (x1, S3)) else (if v2 = 1 then ((fm_take 699 698 S2).bind fun S4 => some (S2 697 18, S4)) else (if v2 = 2 then ((fm_liveOnes S2).bind fun x2 => (fm_take 699 698 S2).bind fun S5 => some (x2, S5)) else (if v2 = 3 then ((ald S2 698 927).bind fun x3 => (fm_take 699 698 S2).bind fun S6 => some (x3, S6)) else (if v2 = 4 then ((ald S2 698 926).bind fun x4 => (fm_take 699 698 S2).bind fun S7 => some (x4, S7)) else (if v2 = 5 then ((ald S2 698 925).bind fun x5 => (fm_take 699 698 S2).bind fun S8 => some (x5, S8)) else ((fm_at (v2 - 10) 6 S2).bind fun x6 => (fm_take 699 698 S2).bind fun S9 => some (x6, S9)))))))
set_option maxRecDepth 20000 in
set_option maxHeartbeats 4000000 in
theorem tm_dry_40 {scr : Nat × (Nat → Int32)} {d : Nat} (hd : 41 ≤ d)  (v1 : Int32) (v2 : Int32) (S0 : Mem)  (rv : Int32) (SR : Mem) (E : fm_dry_40 v1 v2 S0 = some (rv, SR)) : XG scr d 123 40 [(0, .inr (some (some 697))), (1, .inl v1), (2, .inl v2)] [] S0 (some (.inl rv)) SR := by
  unfold fm_dry_40 at E
  refine g_aload rfl rfl ?_
  refine g_getR rfl ty_m (fR_8_0 ty_m) ?_
  refine g_aload rfl rfl ?_
  refine g_getR rfl ty_m (fR_8_1 ty_m) ?_
  obtain ⟨S1, h1, E⟩ := ob E
  refine g_invS2 (dc := 0) rfl (by omega) (Nat.le_of_ble_eq_true rfl) (fun d hd => tm_take hd 698 699 S0 fT_8_0 fT_8_1 _ h1) ?_
  refine g_aload rfl rfl ?_
  refine g_iload rfl rfl ?_
  obtain ⟨x1, S2, h2, E⟩ := ob2 E
  refine g_inv1 (dc := 40) rfl (by omega) ty_m (Nat.le_of_ble_eq_true rfl) (fun d hd => tm_runs hd v1 S1 _ _ h2) ?_
  refine g_istore (L2 := [(3, .inl x1), (0, .inr (some (some 697))), (1, .inl v1), (2, .inl v2)]) rfl rfl ?_
  refine g_iload rfl rfl ?_
  rcases xif E with ⟨h3, E⟩ | ⟨h3, E⟩
  · refine g_tsw (u := 96) rfl (by rw [h3]; decide +kernel) ?_
    refine g_iload rfl rfl ?_
    refine g_istore (L2 := [(4, .inl x1), (3, .inl x1), (0, .inr (some (some 697))), (1, .inl v1), (2, .inl v2)]) rfl rfl ?_
    refine g_goto rfl ?_
    refine g_aload rfl rfl ?_
    refine g_getR rfl ty_m (fR_8_1 ty_m) ?_
    refine g_aload rfl rfl ?_
    refine g_getR rfl ty_m (fR_8_0 ty_m) ?_
    obtain ⟨S3, h4, E⟩ := ob E
    refine g_invS2 (dc := 0) rfl (by omega) (Nat.le_of_ble_eq_true rfl) (fun d hd => tm_take hd 699 698 S2 fT_8_1 fT_8_0 _ h4) ?_
    refine g_iload rfl rfl ?_
    obtain ⟨rfl, rfl⟩ := so2 E
    exact g_iret rfl
  · rcases xif E with ⟨h5, E⟩ | ⟨h5, E⟩
    · refine g_tsw (u := 102) rfl (by rw [h5]; decide +kernel) ?_
      refine g_aload rfl rfl ?_
      refine g_getI rfl ty_m ?_
      refine g_istore (L2 := [(4, .inl (S2 697 18)), (3, .inl x1), (0, .inr (some (some 697))), (1, .inl v1), (2, .inl v2)]) rfl rfl ?_
      refine g_goto rfl ?_
      refine g_aload rfl rfl ?_
      refine g_getR rfl ty_m (fR_8_1 ty_m) ?_
      refine g_aload rfl rfl ?_
      refine g_getR rfl ty_m (fR_8_0 ty_m) ?_
      obtain ⟨S4, h6, E⟩ := ob E
      refine g_invS2 (dc := 0) rfl (by omega) (Nat.le_of_ble_eq_true rfl) (fun d hd => tm_take hd 699 698 S2 fT_8_1 fT_8_0 _ h6) ?_
      refine g_iload rfl rfl ?_
      obtain ⟨rfl, rfl⟩ := so2 E
      exact g_iret rfl
    · rcases xif E with ⟨h7, E⟩ | ⟨h7, E⟩
      · refine g_tsw (u := 111) rfl (by rw [h7]; decide +kernel) ?_
        refine g_aload rfl rfl ?_
        obtain ⟨x2, h8, E⟩ := ob E
        refine g_inv0 (dc := 2) rfl (by omega) ty_m (Nat.le_of_ble_eq_true rfl) (fun d hd => tm_liveOnes hd S2 _ h8) ?_
        refine g_istore (L2 := [(4, .inl x2), (3, .inl x1), (0, .inr (some (some 697))), (1, .inl v1), (2, .inl v2)]) rfl rfl ?_
        refine g_goto rfl ?_
        refine g_aload rfl rfl ?_
        refine g_getR rfl ty_m (fR_8_1 ty_m) ?_
        refine g_aload rfl rfl ?_
        refine g_getR rfl ty_m (fR_8_0 ty_m) ?_
        obtain ⟨S5, h9, E⟩ := ob E
        refine g_invS2 (dc := 0) rfl (by omega) (Nat.le_of_ble_eq_true rfl) (fun d hd => tm_take hd 699 698 S2 fT_8_1 fT_8_0 _ h9) ?_
        refine g_iload rfl rfl ?_
        obtain ⟨rfl, rfl⟩ := so2 E
        exact g_iret rfl
      · rcases xif E with ⟨h10, E⟩ | ⟨h10, E⟩
        · refine g_tsw (u := 120) rfl (by rw [h10]; decide +kernel) ?_
          refine g_aload rfl rfl ?_
          refine g_getR rfl ty_m (fR_8_0 ty_m) ?_
          refine g_push rfl ?_
          obtain ⟨x3, h11, E⟩ := ob E
          refine g_iald rfl fT_8_0 h11 ?_
          refine g_istore (L2 := [(4, .inl x3), (3, .inl x1), (0, .inr (some (some 697))), (1, .inl v1), (2, .inl v2)]) rfl rfl ?_
          refine g_goto rfl ?_
          refine g_aload rfl rfl ?_
          refine g_getR rfl ty_m (fR_8_1 ty_m) ?_
          refine g_aload rfl rfl ?_
          refine g_getR rfl ty_m (fR_8_0 ty_m) ?_
          obtain ⟨S6, h12, E⟩ := ob E
          refine g_invS2 (dc := 0) rfl (by omega) (Nat.le_of_ble_eq_true rfl) (fun d hd => tm_take hd 699 698 S2 fT_8_1 fT_8_0 _ h12) ?_
          refine g_iload rfl rfl ?_
          obtain ⟨rfl, rfl⟩ := so2 E
          exact g_iret rfl
        · rcases xif E with ⟨h13, E⟩ | ⟨h13, E⟩
          · refine g_tsw (u := 133) rfl (by rw [h13]; decide +kernel) ?_
            refine g_aload rfl rfl ?_
            refine g_getR rfl ty_m (fR_8_0 ty_m) ?_
            refine g_push rfl ?_
            obtain ⟨x4, h14, E⟩ := ob E
            refine g_iald rfl fT_8_0 h14 ?_
            refine g_istore (L2 := [(4, .inl x4), (3, .inl x1), (0, .inr (some (some 697))), (1, .inl v1), (2, .inl v2)]) rfl rfl ?_
            refine g_goto rfl ?_
            refine g_aload rfl rfl ?_
            refine g_getR rfl ty_m (fR_8_1 ty_m) ?_
            refine g_aload rfl rfl ?_
            refine g_getR rfl ty_m (fR_8_0 ty_m) ?_
            obtain ⟨S7, h15, E⟩ := ob E
            refine g_invS2 (dc := 0) rfl (by omega) (Nat.le_of_ble_eq_true rfl) (fun d hd => tm_take hd 699 698 S2 fT_8_1 fT_8_0 _ h15) ?_
            refine g_iload rfl rfl ?_
            obtain ⟨rfl, rfl⟩ := so2 E
            exact g_iret rfl
          · rcases xif E with ⟨h16, E⟩ | ⟨h16, E⟩
            · refine g_tsw (u := 146) rfl (by rw [h16]; decide +kernel) ?_
              refine g_aload rfl rfl ?_
              refine g_getR rfl ty_m (fR_8_0 ty_m) ?_
              refine g_push rfl ?_
              obtain ⟨x5, h17, E⟩ := ob E
              refine g_iald rfl fT_8_0 h17 ?_
              refine g_istore (L2 := [(4, .inl x5), (3, .inl x1), (0, .inr (some (some 697))), (1, .inl v1), (2, .inl v2)]) rfl rfl ?_
              refine g_goto rfl ?_
              refine g_aload rfl rfl ?_
              refine g_getR rfl ty_m (fR_8_1 ty_m) ?_
              refine g_aload rfl rfl ?_
              refine g_getR rfl ty_m (fR_8_0 ty_m) ?_
              obtain ⟨S8, h18, E⟩ := ob E
              refine g_invS2 (dc := 0) rfl (by omega) (Nat.le_of_ble_eq_true rfl) (fun d hd => tm_take hd 699 698 S2 fT_8_1 fT_8_0 _ h18) ?_
              refine g_iload rfl rfl ?_
              obtain ⟨rfl, rfl⟩ := so2 E
              exact g_iret rfl
            · refine g_tsw (u := 159) rfl (tsw_d (sw_def (n := 5) rfl _ (by decide +kernel) (fc h3 (fc h5 (fc h7 (fc h10 (fc h13 (fc h16 fn)))))))) ?_
              refine g_aload rfl rfl ?_
              refine g_iload rfl rfl ?_
              refine g_push rfl ?_
              refine g_isub rfl ?_
              refine g_push rfl ?_
              obtain ⟨x6, h19, E⟩ := ob E
              refine g_inv2 (dc := 0) rfl (by omega) ty_m (Nat.le_of_ble_eq_true rfl) (fun d hd => tm_at hd (v2 - 10) 6 S2 _ h19) ?_
              refine g_istore (L2 := [(4, .inl x6), (3, .inl x1), (0, .inr (some (some 697))), (1, .inl v1), (2, .inl v2)]) rfl rfl ?_
              refine g_aload rfl rfl ?_
              refine g_getR rfl ty_m (fR_8_1 ty_m) ?_
              refine g_aload rfl rfl ?_
              refine g_getR rfl ty_m (fR_8_0 ty_m) ?_
              obtain ⟨S9, h20, E⟩ := ob E
              refine g_invS2 (dc := 0) rfl (by omega) (Nat.le_of_ble_eq_true rfl) (fun d hd => tm_take hd 699 698 S2 fT_8_1 fT_8_0 _ h20) ?_
              refine g_iload rfl rfl ?_
              obtain ⟨rfl, rfl⟩ := so2 E
              exact g_iret rfl
def fm_dry (v1 : Int32) (v2 : Int32) (S0 : Mem) : Option (Int32 × Mem) := (fm_in v1 1 200 S0).bind fun x1 => if x1 = 0 then (some ((-2000000000), S0)) else ((fm_in v2 0 5 S0).bind fun x2 => if x2 = 0 then (if v2 < 10 then (some ((-2000000000), S0)) else ((fm_isActor (v2 - 10) S0).bind fun x3 => if x3 = 0 then (some ((-2000000000), S0)) else (fm_dry_40 v1 v2 S0))) else (fm_dry_40 v1 v2 S0))
set_option maxRecDepth 20000 in
set_option maxHeartbeats 4000000 in
theorem tm_dry {scr : Nat × (Nat → Int32)} {d : Nat} (hd : 41 ≤ d) (v1 : Int32) (v2 : Int32) (S0 : Mem)  (rv : Int32) (SR : Mem) (E : fm_dry  v1 v2 S0 = some (rv, SR)) : XG scr d 123 0 [(0, .inr (some (some 697))), (1, .inl v1), (2, .inl v2)] [] S0 (some (.inl rv)) SR := by
  unfold fm_dry at E
  refine g_iload rfl rfl ?_
  refine g_push rfl ?_
  refine g_push rfl ?_
  obtain ⟨x1, h1, E⟩ := ob E
  refine g_invS3 (dc := 0) rfl (by omega) (Nat.le_of_ble_eq_true rfl) (fun d hd => tm_in hd v1 1 200 S0 _ h1) ?_
  rcases xif E with ⟨h2, E⟩ | ⟨h2, E⟩
  · refine g_ifeq_t rfl h2 ?_
    refine g_push rfl ?_
    obtain ⟨rfl, rfl⟩ := so2 E
    exact g_iret rfl
  · refine g_ifeq_f rfl h2 ?_
    refine g_iload rfl rfl ?_
    refine g_push rfl ?_
    refine g_push rfl ?_
    obtain ⟨x2, h3, E⟩ := ob E
    refine g_invS3 (dc := 0) rfl (by omega) (Nat.le_of_ble_eq_true rfl) (fun d hd => tm_in hd v2 0 5 S0 _ h3) ?_
    rcases xif E with ⟨h4, E⟩ | ⟨h4, E⟩
    · refine g_ifne_t rfl h4 ?_
      refine g_iload rfl rfl ?_
      refine g_push rfl ?_
      rcases xif E with ⟨h5, E⟩ | ⟨h5, E⟩
      · refine g_iclt_t rfl h5 ?_
        refine g_push rfl ?_
        obtain ⟨rfl, rfl⟩ := so2 E
        exact g_iret rfl
      · refine g_iclt_f rfl h5 ?_
        refine g_aload rfl rfl ?_
        refine g_iload rfl rfl ?_
        refine g_push rfl ?_
        refine g_isub rfl ?_
        obtain ⟨x3, h6, E⟩ := ob E
        refine g_inv1 (dc := 1) rfl (by omega) ty_m (Nat.le_of_ble_eq_true rfl) (fun d hd => tm_isActor hd (v2 - 10) S0 _ h6) ?_
        rcases xif E with ⟨h7, E⟩ | ⟨h7, E⟩
        · refine g_ifne_t rfl h7 ?_
          refine g_push rfl ?_
          obtain ⟨rfl, rfl⟩ := so2 E
          exact g_iret rfl
        · refine g_ifne_f rfl h7 ?_
          exact g_loc (lsub_cons rfl (lsub_cons rfl (lsub_cons rfl lsub_nil))) (tm_dry_40 hd v1 v2 S0 _ _ E)
    · refine g_ifne_f rfl h4 ?_
      exact g_loc (lsub_cons rfl (lsub_cons rfl (lsub_cons rfl lsub_nil))) (tm_dry_40 hd v1 v2 S0 _ _ E)
def fm_ended  (S0 : Mem) : Option Int32 := (ald S0 698 930).bind fun x1 => some x1
set_option maxRecDepth 20000 in
set_option maxHeartbeats 4000000 in
theorem tm_ended {scr : Nat × (Nat → Int32)} {d : Nat} (hd : 0 ≤ d)  (S0 : Mem)  (rv : Int32) (E : fm_ended   S0 = some rv) : XG scr d 124 0 [(0, .inr (some (some 697)))] [] S0 (some (.inl rv)) S0 := by
  unfold fm_ended at E
  refine g_aload rfl rfl ?_
  refine g_getR rfl ty_m (fR_8_0 ty_m) ?_
  refine g_push rfl ?_
  obtain ⟨x1, h1, E⟩ := ob E
  refine g_iald rfl fT_8_0 h1 ?_
  obtain rfl := so1 E
  exact g_iret rfl
