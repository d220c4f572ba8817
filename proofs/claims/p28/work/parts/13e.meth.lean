/-! 13e: the methods as functions over the cells -/
def fm_feed (v1 : Int32) (S0 : Mem) : Option (Int32 × Mem) := (fm_in v1 0 255 S0).bind fun x1 => if x1 = 0 then (some ((-1), S0)) else (if (S0 697 11) = 120 then (some ((-3), S0)) else ((some (up2 S0 697 11 ((S0 697 11) + 1))).bind fun S1 => (ast S1 703 (S0 697 11) v1).bind fun S2 => some (S2 697 11, S2)))
set_option maxRecDepth 20000 in
set_option maxHeartbeats 4000000 in
theorem tm_feed {scr : Nat × (Nat → Int32)} {d : Nat} (hd : 1 ≤ d) (v1 : Int32) (S0 : Mem)  (rv : Int32) (SR : Mem) (E : fm_feed  v1 S0 = some (rv, SR)) : XG scr d 126 0 [(0, .inr (some (some 697))), (1, .inl v1)] [] S0 (some (.inl rv)) SR := by
  unfold fm_feed at E
  refine g_iload rfl rfl ?_
  refine g_push rfl ?_
  refine g_push rfl ?_
  obtain ⟨x1, h1, E⟩ := ob E
  refine g_invS3 (dc := 0) rfl (by omega) (Nat.le_of_ble_eq_true rfl) (fun d hd => tm_in hd v1 0 255 S0 _ h1) ?_
  rcases xif E with ⟨h2, E⟩ | ⟨h2, E⟩
  · refine g_ifne_t rfl h2 ?_
    refine g_push rfl ?_
    obtain ⟨rfl, rfl⟩ := so2 E
    exact g_iret rfl
  · refine g_ifne_f rfl h2 ?_
    refine g_aload rfl rfl ?_
    refine g_getI rfl ty_m ?_
    refine g_push rfl ?_
    rcases xif E with ⟨h3, E⟩ | ⟨h3, E⟩
    · refine g_icne_t rfl h3 ?_
      refine g_push rfl ?_
      obtain ⟨rfl, rfl⟩ := so2 E
      exact g_iret rfl
    · refine g_icne_f rfl h3 ?_
      refine g_aload rfl rfl ?_
      refine g_getR rfl ty_m (fR_8_10 ty_m) ?_
      refine g_aload rfl rfl ?_
      refine g_dup rfl ?_
      refine g_getI rfl ty_m ?_
      refine g_dup_x1 rfl ?_
      refine g_push rfl ?_
      refine g_iadd rfl ?_
      obtain ⟨S1, hS1, E⟩ := ob E
      refine g_putI rfl ty_m hS1 ?_
      refine g_iload rfl rfl ?_
      obtain ⟨S2, h4, E⟩ := ob E
      refine g_iast rfl fT_8_10 h4 ?_
      refine g_aload rfl rfl ?_
      refine g_getI rfl ty_m ?_
      obtain ⟨rfl, rfl⟩ := so2 E
      exact g_iret rfl
def fm_first_18b (k18 : Int32 → Mem → Option (Int32 × Mem)) (v1 : Int32) (S0 : Mem) : Option (Int32 × Mem) := if (S0 697 5) = 0 then (bd (fm_isEnd v1 200 S0) fun x1 S1 => if x1 = 0 then ((fm_step S1).bind fun S2 => k18 (v1 + 1) S2) else ((fm_take 699 698 S1).bind fun S3 => if (S3 697 5) = 0 then (some ((-2), S3)) else (some (v1, S3)))) else ((fm_take 699 698 S0).bind fun S4 => if (S4 697 5) = 0 then (some ((-2), S4)) else (some (v1, S4)))
set_option maxRecDepth 20000 in
set_option maxHeartbeats 4000000 in
theorem tm_first_18b {scr : Nat × (Nat → Int32)} {d : Nat} (hd : 40 ≤ d) {k18 : Int32 → Mem → Option (Int32 × Mem)} (hk18 : ∀ (v1 : Int32) (S0 : Mem), ∀ (rv : Int32) (SR : Mem), k18 v1 S0 = some (rv, SR) → XG scr d 127 18 [(0, .inr (some (some 697))), (1, .inl v1)] [] S0 (some (.inl rv)) SR) (v1 : Int32) (S0 : Mem)  (rv : Int32) (SR : Mem) (E : fm_first_18b k18 v1 S0 = some (rv, SR)) : XG scr d 127 18 [(0, .inr (some (some 697))), (1, .inl v1)] [] S0 (some (.inl rv)) SR := by
  unfold fm_first_18b at E
  refine g_aload rfl rfl ?_
  refine g_getI rfl ty_m ?_
  rcases xif E with ⟨h1, E⟩ | ⟨h1, E⟩
  · refine g_ifne_t rfl h1 ?_
    refine g_aload rfl rfl ?_
    refine g_iload rfl rfl ?_
    refine g_push rfl ?_
    obtain ⟨x1, S1, h2, E⟩ := ob2 E
    refine g_inv2 (dc := 4) rfl (by omega) ty_m (Nat.le_of_ble_eq_true rfl) (fun d hd => tm_isEnd hd v1 200 S0 _ _ h2) ?_
    rcases xif E with ⟨h3, E⟩ | ⟨h3, E⟩
    · refine g_ifne_t rfl h3 ?_
      refine g_aload rfl rfl ?_
      obtain ⟨S2, h4, E⟩ := ob E
      refine g_inv0 (dc := 39) rfl (by omega) ty_m (Nat.le_of_ble_eq_true rfl) (fun d hd => tm_step hd S1 _ h4) ?_
      refine g_iinc (L2 := [(1, .inl (v1 + 1)), (0, .inr (some (some 697)))]) rfl rfl rfl ?_
      refine g_goto rfl ?_
      exact g_loc (lsub_cons rfl (lsub_cons rfl lsub_nil)) (hk18 (v1 + 1) S2 _ _ E)
    · refine g_ifne_f rfl h3 ?_
      refine g_aload rfl rfl ?_
      refine g_getR rfl ty_m (fR_8_1 ty_m) ?_
      refine g_aload rfl rfl ?_
      refine g_getR rfl ty_m (fR_8_0 ty_m) ?_
      obtain ⟨S3, h5, E⟩ := ob E
      refine g_invS2 (dc := 0) rfl (by omega) (Nat.le_of_ble_eq_true rfl) (fun d hd => tm_take hd 699 698 S1 fT_8_1 fT_8_0 _ h5) ?_
      refine g_aload rfl rfl ?_
      refine g_getI rfl ty_m ?_
      rcases xif E with ⟨h6, E⟩ | ⟨h6, E⟩
      · refine g_ifeq_t rfl h6 ?_
        refine g_push rfl ?_
        obtain ⟨rfl, rfl⟩ := so2 E
        exact g_iret rfl
      · refine g_ifeq_f rfl h6 ?_
        refine g_iload rfl rfl ?_
        refine g_goto rfl ?_
        obtain ⟨rfl, rfl⟩ := so2 E
        exact g_iret rfl
  · refine g_ifne_f rfl h1 ?_
    refine g_aload rfl rfl ?_
    refine g_getR rfl ty_m (fR_8_1 ty_m) ?_
    refine g_aload rfl rfl ?_
    refine g_getR rfl ty_m (fR_8_0 ty_m) ?_
    obtain ⟨S4, h7, E⟩ := ob E
    refine g_invS2 (dc := 0) rfl (by omega) (Nat.le_of_ble_eq_true rfl) (fun d hd => tm_take hd 699 698 S0 fT_8_1 fT_8_0 _ h7) ?_
    refine g_aload rfl rfl ?_
    refine g_getI rfl ty_m ?_
    rcases xif E with ⟨h8, E⟩ | ⟨h8, E⟩
    · refine g_ifeq_t rfl h8 ?_
      refine g_push rfl ?_
      obtain ⟨rfl, rfl⟩ := so2 E
      exact g_iret rfl
    · refine g_ifeq_f rfl h8 ?_
      refine g_iload rfl rfl ?_
      refine g_goto rfl ?_
      obtain ⟨rfl, rfl⟩ := so2 E
      exact g_iret rfl
def fm_first_18  : Nat → Int32 → Mem → Option (Int32 × Mem)
  | 0 => fun _ _ => none
  | n + 1 => fm_first_18b  (fm_first_18  n)
set_option maxRecDepth 20000 in
set_option maxHeartbeats 4000000 in
theorem tm_first_18 {scr : Nat × (Nat → Int32)} {d : Nat} (hd : 40 ≤ d)  : ∀ (n : Nat) (v1 : Int32) (S0 : Mem), ∀ (rv : Int32) (SR : Mem), fm_first_18  n v1 S0 = some (rv, SR) → XG scr d 127 18 [(0, .inr (some (some 697))), (1, .inl v1)] [] S0 (some (.inl rv)) SR
  | 0, v1, S0, rv, SR, E => nn E
  | n + 1, v1, S0, rv, SR, E => tm_first_18b hd  (tm_first_18 hd  n) v1 S0  rv SR E
def fm_first  (S0 : Mem) : Option (Int32 × Mem) := (fm_take 698 699 S0).bind fun S1 => (some (up2 S1 697 5 0)).bind fun S2 => fm_first_18 LF 0 S2
set_option maxRecDepth 20000 in
set_option maxHeartbeats 4000000 in
theorem tm_first {scr : Nat × (Nat → Int32)} {d : Nat} (hd : 40 ≤ d)  (S0 : Mem)  (rv : Int32) (SR : Mem) (E : fm_first   S0 = some (rv, SR)) : XG scr d 127 0 [(0, .inr (some (some 697)))] [] S0 (some (.inl rv)) SR := by
  unfold fm_first at E
  refine g_aload rfl rfl ?_
  refine g_getR rfl ty_m (fR_8_0 ty_m) ?_
  refine g_aload rfl rfl ?_
  refine g_getR rfl ty_m (fR_8_1 ty_m) ?_
  obtain ⟨S1, h1, E⟩ := ob E
  refine g_invS2 (dc := 0) rfl (by omega) (Nat.le_of_ble_eq_true rfl) (fun d hd => tm_take hd 698 699 S0 fT_8_0 fT_8_1 _ h1) ?_
  refine g_aload rfl rfl ?_
  refine g_push rfl ?_
  obtain ⟨S2, hS2, E⟩ := ob E
  refine g_putZ rfl ty_m b00 hS2 ?_
  refine g_push rfl ?_
  refine g_istore (L2 := [(1, .inl 0), (0, .inr (some (some 697)))]) rfl rfl ?_
  exact g_loc (lsub_cons rfl (lsub_cons rfl lsub_nil)) (tm_first_18 hd LF 0 S2 _ _ E)
def fm_isHandle (v1 : Int32) (S0 : Mem) : Option Int32 := (fm_in v1 0 5 S0).bind fun x1 => (bol x1).bind fun z1 => some z1
set_option maxRecDepth 20000 in
set_option maxHeartbeats 4000000 in
theorem tm_isHandle {scr : Nat × (Nat → Int32)} {d : Nat} (hd : 1 ≤ d) (v1 : Int32) (S0 : Mem)  (rv : Int32) (E : fm_isHandle  v1 S0 = some rv) : XG scr d 139 0 [(0, .inr (some (some 697))), (1, .inl v1)] [] S0 (some (.inl rv)) S0 := by
  unfold fm_isHandle at E
  refine g_iload rfl rfl ?_
  refine g_push rfl ?_
  refine g_push rfl ?_
  obtain ⟨x1, h1, E⟩ := ob E
  refine g_invS3 (dc := 0) rfl (by omega) (Nat.le_of_ble_eq_true rfl) (fun d hd => tm_in hd v1 0 5 S0 _ h1) ?_
  obtain ⟨z1, h2, E⟩ := ob E
  obtain rfl := so1 E
  have h22 := (bol_of h2).2
  rw [h22]
  exact g_zret rfl (bol_of h2).1
def fm_hold_23  (v1 : Int32) (v2 : Int32) (S0 : Mem) : Option (Int32 × Mem) := if v2 = ((-1)) then ((ast S0 704 v1 0).bind fun S1 => (ast S1 705 v1 v2).bind fun S2 => some (1, S2)) else ((ast S0 704 v1 1).bind fun S3 => (ast S3 705 v1 v2).bind fun S4 => some (1, S4))
set_option maxRecDepth 20000 in
set_option maxHeartbeats 4000000 in
theorem tm_hold_23 {scr : Nat × (Nat → Int32)} {d : Nat} (hd : 2 ≤ d)  (v1 : Int32) (v2 : Int32) (S0 : Mem)  (rv : Int32) (SR : Mem) (E : fm_hold_23 v1 v2 S0 = some (rv, SR)) : XG scr d 131 23 [(0, .inr (some (some 697))), (1, .inl v1), (2, .inl v2)] [] S0 (some (.inl rv)) SR := by
  unfold fm_hold_23 at E
  refine g_aload rfl rfl ?_
  refine g_getR rfl ty_m (fR_8_12 ty_m) ?_
  refine g_iload rfl rfl ?_
  refine g_iload rfl rfl ?_
  refine g_push rfl ?_
  rcases xif E with ⟨h1, E⟩ | ⟨h1, E⟩
  · refine g_icne_t rfl h1 ?_
    refine g_push rfl ?_
    refine g_goto rfl ?_
    obtain ⟨S1, h2, E⟩ := ob E
    refine g_iast rfl fT_8_12 h2 ?_
    refine g_aload rfl rfl ?_
    refine g_getR rfl ty_m (fR_8_13 ty_m) ?_
    refine g_iload rfl rfl ?_
    refine g_iload rfl rfl ?_
    obtain ⟨S2, h3, E⟩ := ob E
    refine g_iast rfl fT_8_13 h3 ?_
    refine g_push rfl ?_
    obtain ⟨rfl, rfl⟩ := so2 E
    exact g_iret rfl
  · refine g_icne_f rfl h1 ?_
    refine g_push rfl ?_
    obtain ⟨S3, h4, E⟩ := ob E
    refine g_iast rfl fT_8_12 h4 ?_
    refine g_aload rfl rfl ?_
    refine g_getR rfl ty_m (fR_8_13 ty_m) ?_
    refine g_iload rfl rfl ?_
    refine g_iload rfl rfl ?_
    obtain ⟨S4, h5, E⟩ := ob E
    refine g_iast rfl fT_8_13 h5 ?_
    refine g_push rfl ?_
    obtain ⟨rfl, rfl⟩ := so2 E
    exact g_iret rfl
def fm_hold (v1 : Int32) (v2 : Int32) (S0 : Mem) : Option (Int32 × Mem) := (fm_isHandle v1 S0).bind fun x1 => if x1 = 0 then (some ((-1), S0)) else (if v2 = ((-1)) then (fm_hold_23 v1 v2 S0) else ((fm_isActor v2 S0).bind fun x2 => if x2 = 0 then (some ((-1), S0)) else (fm_hold_23 v1 v2 S0)))
set_option maxRecDepth 20000 in
set_option maxHeartbeats 4000000 in
theorem tm_hold {scr : Nat × (Nat → Int32)} {d : Nat} (hd : 2 ≤ d) (v1 : Int32) (v2 : Int32) (S0 : Mem)  (rv : Int32) (SR : Mem) (E : fm_hold  v1 v2 S0 = some (rv, SR)) : XG scr d 131 0 [(0, .inr (some (some 697))), (1, .inl v1), (2, .inl v2)] [] S0 (some (.inl rv)) SR := by
  unfold fm_hold at E
  refine g_aload rfl rfl ?_
  refine g_iload rfl rfl ?_
  obtain ⟨x1, h1, E⟩ := ob E
  refine g_inv1 (dc := 1) rfl (by omega) ty_m (Nat.le_of_ble_eq_true rfl) (fun d hd => tm_isHandle hd v1 S0 _ h1) ?_
  rcases xif E with ⟨h2, E⟩ | ⟨h2, E⟩
  · refine g_ifeq_t rfl h2 ?_
    refine g_push rfl ?_
    obtain ⟨rfl, rfl⟩ := so2 E
    exact g_iret rfl
  · refine g_ifeq_f rfl h2 ?_
    refine g_iload rfl rfl ?_
    refine g_push rfl ?_
    rcases xif E with ⟨h3, E⟩ | ⟨h3, E⟩
    · refine g_iceq_t rfl h3 ?_
      exact g_loc (lsub_cons rfl (lsub_cons rfl (lsub_cons rfl lsub_nil))) (tm_hold_23 hd v1 v2 S0 _ _ E)
    · refine g_iceq_f rfl h3 ?_
      refine g_aload rfl rfl ?_
      refine g_iload rfl rfl ?_
      obtain ⟨x2, h4, E⟩ := ob E
      refine g_inv1 (dc := 1) rfl (by omega) ty_m (Nat.le_of_ble_eq_true rfl) (fun d hd => tm_isActor hd v2 S0 _ h4) ?_
      rcases xif E with ⟨h5, E⟩ | ⟨h5, E⟩
      · refine g_ifne_t rfl h5 ?_
        refine g_push rfl ?_
        obtain ⟨rfl, rfl⟩ := so2 E
        exact g_iret rfl
      · refine g_ifne_f rfl h5 ?_
        exact g_loc (lsub_cons rfl (lsub_cons rfl (lsub_cons rfl lsub_nil))) (tm_hold_23 hd v1 v2 S0 _ _ E)
def fm_image  (S0 : Mem) : Option (Int32 × Mem) := (fm_take 698 701 S0).bind fun S1 => (some (up2 S1 697 4 1)).bind fun S2 => (ald S2 698 924).bind fun x1 => some (x1, S2)
set_option maxRecDepth 20000 in
set_option maxHeartbeats 4000000 in
theorem tm_image {scr : Nat × (Nat → Int32)} {d : Nat} (hd : 1 ≤ d)  (S0 : Mem)  (rv : Int32) (SR : Mem) (E : fm_image   S0 = some (rv, SR)) : XG scr d 133 0 [(0, .inr (some (some 697)))] [] S0 (some (.inl rv)) SR := by
  unfold fm_image at E
  refine g_aload rfl rfl ?_
  refine g_getR rfl ty_m (fR_8_0 ty_m) ?_
  refine g_aload rfl rfl ?_
  refine g_getR rfl ty_m (fR_8_3 ty_m) ?_
  obtain ⟨S1, h1, E⟩ := ob E
  refine g_invS2 (dc := 0) rfl (by omega) (Nat.le_of_ble_eq_true rfl) (fun d hd => tm_take hd 698 701 S0 fT_8_0 fT_8_3 _ h1) ?_
  refine g_aload rfl rfl ?_
  refine g_push rfl ?_
  obtain ⟨S2, hS2, E⟩ := ob E
  refine g_putZ rfl ty_m b01 hS2 ?_
  refine g_aload rfl rfl ?_
  refine g_getR rfl ty_m (fR_8_0 ty_m) ?_
  refine g_push rfl ?_
  obtain ⟨x1, h2, E⟩ := ob E
  refine g_iald rfl fT_8_0 h2 ?_
  obtain ⟨rfl, rfl⟩ := so2 E
  exact g_iret rfl
def fm_sees (v1 : Int32) (v2 : Int32) (S0 : Mem) : Option Int32 := if 0 ≤ (S0 697 20) then (some 0) else (if (S0 697 11) ≤ (S0 697 19) then (some 0) else ((ald S0 703 (S0 697 19)).bind fun x1 => (fm_in x1 v1 v2 S0).bind fun x2 => if x2 = 0 then (some 0) else (some 1)))
set_option maxRecDepth 20000 in
set_option maxHeartbeats 4000000 in
theorem tm_sees {scr : Nat × (Nat → Int32)} {d : Nat} (hd : 1 ≤ d) (v1 : Int32) (v2 : Int32) (S0 : Mem)  (rv : Int32) (E : fm_sees  v1 v2 S0 = some rv) : XG scr d 169 0 [(0, .inr (some (some 697))), (1, .inl v1), (2, .inl v2)] [] S0 (some (.inl rv)) S0 := by
  unfold fm_sees at E
  refine g_aload rfl rfl ?_
  refine g_getI rfl ty_m ?_
  rcases xif E with ⟨h1, E⟩ | ⟨h1, E⟩
  · refine g_ifge_t rfl h1 ?_
    refine g_push rfl ?_
    obtain rfl := so1 E
    exact g_zret rfl b00
  · refine g_ifge_f rfl h1 ?_
    refine g_aload rfl rfl ?_
    refine g_getI rfl ty_m ?_
    refine g_aload rfl rfl ?_
    refine g_getI rfl ty_m ?_
    rcases xif E with ⟨h2, E⟩ | ⟨h2, E⟩
    · refine g_icge_t rfl h2 ?_
      refine g_push rfl ?_
      obtain rfl := so1 E
      exact g_zret rfl b00
    · refine g_icge_f rfl h2 ?_
      refine g_aload rfl rfl ?_
      refine g_getR rfl ty_m (fR_8_10 ty_m) ?_
      refine g_aload rfl rfl ?_
      refine g_getI rfl ty_m ?_
      obtain ⟨x1, h3, E⟩ := ob E
      refine g_iald rfl fT_8_10 h3 ?_
      refine g_iload rfl rfl ?_
      refine g_iload rfl rfl ?_
      obtain ⟨x2, h4, E⟩ := ob E
      refine g_invS3 (dc := 0) rfl (by omega) (Nat.le_of_ble_eq_true rfl) (fun d hd => tm_in hd x1 v1 v2 S0 _ h4) ?_
      rcases xif E with ⟨h5, E⟩ | ⟨h5, E⟩
      · refine g_ifeq_t rfl h5 ?_
        refine g_push rfl ?_
        obtain rfl := so1 E
        exact g_zret rfl b00
      · refine g_ifeq_f rfl h5 ?_
        refine g_push rfl ?_
        refine g_goto rfl ?_
        obtain rfl := so1 E
        exact g_zret rfl b01
def fm_must (v1 : Int32) (v2 : Int32) (S0 : Mem) : Option (Int32 × Mem) := (fm_sees v1 v2 S0).bind fun x1 => if x1 = 0 then (if 0 ≤ (S0 697 20) then ((some (up2 S0 697 20 (S0 697 20))).bind fun S1 => some (v1, S1)) else ((some (up2 S0 697 20 (S0 697 19))).bind fun S2 => some (v1, S2))) else ((some (up2 S0 697 19 ((S0 697 19) + 1))).bind fun S3 => (ald S3 703 (S0 697 19)).bind fun x2 => some (x2, S3))
set_option maxRecDepth 20000 in
set_option maxHeartbeats 4000000 in
theorem tm_must {scr : Nat × (Nat → Int32)} {d : Nat} (hd : 2 ≤ d) (v1 : Int32) (v2 : Int32) (S0 : Mem)  (rv : Int32) (SR : Mem) (E : fm_must  v1 v2 S0 = some (rv, SR)) : XG scr d 152 0 [(0, .inr (some (some 697))), (1, .inl v1), (2, .inl v2)] [] S0 (some (.inl rv)) SR := by
  unfold fm_must at E
  refine g_aload rfl rfl ?_
  refine g_iload rfl rfl ?_
  refine g_iload rfl rfl ?_
  obtain ⟨x1, h1, E⟩ := ob E
  refine g_inv2 (dc := 1) rfl (by omega) ty_m (Nat.le_of_ble_eq_true rfl) (fun d hd => tm_sees hd v1 v2 S0 _ h1) ?_
  rcases xif E with ⟨h2, E⟩ | ⟨h2, E⟩
  · refine g_ifne_t rfl h2 ?_
    refine g_aload rfl rfl ?_
    refine g_aload rfl rfl ?_
    refine g_getI rfl ty_m ?_
    rcases xif E with ⟨h3, E⟩ | ⟨h3, E⟩
    · refine g_ifge_t rfl h3 ?_
      refine g_aload rfl rfl ?_
      refine g_getI rfl ty_m ?_
      obtain ⟨S1, hS1, E⟩ := ob E
      refine g_putI rfl ty_m hS1 ?_
      refine g_iload rfl rfl ?_
      obtain ⟨rfl, rfl⟩ := so2 E
      exact g_iret rfl
    · refine g_ifge_f rfl h3 ?_
      refine g_aload rfl rfl ?_
      refine g_getI rfl ty_m ?_
      refine g_goto rfl ?_
      obtain ⟨S2, hS2, E⟩ := ob E
      refine g_putI rfl ty_m hS2 ?_
      refine g_iload rfl rfl ?_
      obtain ⟨rfl, rfl⟩ := so2 E
      exact g_iret rfl
  · refine g_ifne_f rfl h2 ?_
    refine g_aload rfl rfl ?_
    refine g_getR rfl ty_m (fR_8_10 ty_m) ?_
    refine g_aload rfl rfl ?_
    refine g_dup rfl ?_
    refine g_getI rfl ty_m ?_
    refine g_dup_x1 rfl ?_
    refine g_push rfl ?_
    refine g_iadd rfl ?_
    obtain ⟨S3, hS3, E⟩ := ob E
    refine g_putI rfl ty_m hS3 ?_
    obtain ⟨x2, h4, E⟩ := ob E
    refine g_iald rfl fT_8_10 h4 ?_
    obtain ⟨rfl, rfl⟩ := so2 E
    exact g_iret rfl
def fm_number_44  (v2 : Int32) (s0 : Int32) (s1 : Int32) (S0 : Mem) : Option (Int32 × Mem) := (some (up2 S0 697 19 (s1 + s0))).bind fun S1 => bd (fm_must 48 57 S1) fun x1 S2 => (fm_sees 48 57 S2).bind fun x2 => if x2 = 0 then (if v2 = 0 then (some (x1 - 48, S2)) else (some (-(x1 - 48), S2))) else (bd (fm_must 48 57 S2) fun x3 S3 => if v2 = 0 then (some (((10 * (x1 - 48)) + x3) - 48, S3)) else (some (-(((10 * (x1 - 48)) + x3) - 48), S3)))
set_option maxRecDepth 20000 in
set_option maxHeartbeats 4000000 in
theorem tm_number_44 {scr : Nat × (Nat → Int32)} {d : Nat} (hd : 3 ≤ d)  (v2 : Int32) (s0 : Int32) (s1 : Int32) (S0 : Mem)  (rv : Int32) (SR : Mem) (E : fm_number_44 v2 s0 s1 S0 = some (rv, SR)) : XG scr d 155 44 [(0, .inr (some (some 697))), (2, .inl v2)] [.inl s0, .inl s1, .inr (some (some 697))] S0 (some (.inl rv)) SR := by
  unfold fm_number_44 at E
  refine g_iadd rfl ?_
  obtain ⟨S1, hS1, E⟩ := ob E
  refine g_putI rfl ty_m hS1 ?_
  refine g_aload rfl rfl ?_
  refine g_push rfl ?_
  refine g_push rfl ?_
  obtain ⟨x1, S2, h1, E⟩ := ob2 E
  refine g_inv2 (dc := 2) rfl (by omega) ty_m (Nat.le_of_ble_eq_true rfl) (fun d hd => tm_must hd 48 57 S1 _ _ h1) ?_
  refine g_push rfl ?_
  refine g_isub rfl ?_
  refine g_istore (L2 := [(3, .inl (x1 - 48)), (0, .inr (some (some 697))), (2, .inl v2)]) rfl rfl ?_
  refine g_aload rfl rfl ?_
  refine g_push rfl ?_
  refine g_push rfl ?_
  obtain ⟨x2, h2, E⟩ := ob E
  refine g_inv2 (dc := 1) rfl (by omega) ty_m (Nat.le_of_ble_eq_true rfl) (fun d hd => tm_sees hd 48 57 S2 _ h2) ?_
  rcases xif E with ⟨h3, E⟩ | ⟨h3, E⟩
  · refine g_ifeq_t rfl h3 ?_
    refine g_iload rfl rfl ?_
    refine g_istore (L2 := [(3, .inl (x1 - 48)), (0, .inr (some (some 697))), (2, .inl v2)]) rfl rfl ?_
    refine g_iload rfl rfl ?_
    rcases xif E with ⟨h4, E⟩ | ⟨h4, E⟩
    · refine g_ifeq_t rfl h4 ?_
      refine g_iload rfl rfl ?_
      obtain ⟨rfl, rfl⟩ := so2 E
      exact g_iret rfl
    · refine g_ifeq_f rfl h4 ?_
      refine g_iload rfl rfl ?_
      refine g_ineg rfl ?_
      refine g_goto rfl ?_
      obtain ⟨rfl, rfl⟩ := so2 E
      exact g_iret rfl
  · refine g_ifeq_f rfl h3 ?_
    refine g_push rfl ?_
    refine g_iload rfl rfl ?_
    refine g_imul rfl ?_
    refine g_aload rfl rfl ?_
    refine g_push rfl ?_
    refine g_push rfl ?_
    obtain ⟨x3, S3, h5, E⟩ := ob2 E
    refine g_inv2 (dc := 2) rfl (by omega) ty_m (Nat.le_of_ble_eq_true rfl) (fun d hd => tm_must hd 48 57 S2 _ _ h5) ?_
    refine g_iadd rfl ?_
    refine g_push rfl ?_
    refine g_isub rfl ?_
    refine g_goto rfl ?_
    refine g_istore (L2 := [(3, .inl (((10 * (x1 - 48)) + x3) - 48)), (0, .inr (some (some 697))), (2, .inl v2)]) rfl rfl ?_
    refine g_iload rfl rfl ?_
    rcases xif E with ⟨h6, E⟩ | ⟨h6, E⟩
    · refine g_ifeq_t rfl h6 ?_
      refine g_iload rfl rfl ?_
      obtain ⟨rfl, rfl⟩ := so2 E
      exact g_iret rfl
    · refine g_ifeq_f rfl h6 ?_
      refine g_iload rfl rfl ?_
      refine g_ineg rfl ?_
      refine g_goto rfl ?_
      obtain ⟨rfl, rfl⟩ := so2 E
      exact g_iret rfl
def fm_number (v1 : Int32) (S0 : Mem) : Option (Int32 × Mem) := bd (fm_must 32 32 S0) fun x1 S1 => if v1 = 0 then (fm_number_44 0 0 (S1 697 19) S1) else ((fm_sees 45 45 S1).bind fun x2 => if x2 = 0 then (fm_number_44 0 0 (S1 697 19) S1) else (fm_number_44 1 1 (S1 697 19) S1))
set_option maxRecDepth 20000 in
set_option maxHeartbeats 4000000 in
theorem tm_number {scr : Nat × (Nat → Int32)} {d : Nat} (hd : 3 ≤ d) (v1 : Int32) (S0 : Mem)  (rv : Int32) (SR : Mem) (E : fm_number  v1 S0 = some (rv, SR)) : XG scr d 155 0 [(0, .inr (some (some 697))), (1, .inl v1)] [] S0 (some (.inl rv)) SR := by
  unfold fm_number at E
  refine g_aload rfl rfl ?_
  refine g_push rfl ?_
  refine g_push rfl ?_
  obtain ⟨x1, S1, h1, E⟩ := ob2 E
  refine g_inv2 (dc := 2) rfl (by omega) ty_m (Nat.le_of_ble_eq_true rfl) (fun d hd => tm_must hd 32 32 S0 _ _ h1) ?_
  refine g_pop rfl ?_
  refine g_iload rfl rfl ?_
  rcases xif E with ⟨h2, E⟩ | ⟨h2, E⟩
  · refine g_ifeq_t rfl h2 ?_
    refine g_push rfl ?_
    refine g_istore (L2 := [(2, .inl 0), (0, .inr (some (some 697))), (1, .inl v1)]) rfl rfl ?_
    refine g_aload rfl rfl ?_
    refine g_dup rfl ?_
    refine g_getI rfl ty_m ?_
    refine g_iload rfl rfl ?_
    refine g_ifeq_t rfl (by decide) ?_
    refine g_push rfl ?_
    exact g_loc (lsub_cons rfl (lsub_cons rfl lsub_nil)) (tm_number_44 hd 0 0 (S1 697 19) S1 _ _ E)
  · refine g_ifeq_f rfl h2 ?_
    refine g_aload rfl rfl ?_
    refine g_push rfl ?_
    refine g_push rfl ?_
    obtain ⟨x2, h3, E⟩ := ob E
    refine g_inv2 (dc := 1) rfl (by omega) ty_m (Nat.le_of_ble_eq_true rfl) (fun d hd => tm_sees hd 45 45 S1 _ h3) ?_
    rcases xif E with ⟨h4, E⟩ | ⟨h4, E⟩
    · refine g_ifeq_t rfl h4 ?_
      refine g_push rfl ?_
      refine g_istore (L2 := [(2, .inl 0), (0, .inr (some (some 697))), (1, .inl v1)]) rfl rfl ?_
      refine g_aload rfl rfl ?_
      refine g_dup rfl ?_
      refine g_getI rfl ty_m ?_
      refine g_iload rfl rfl ?_
      refine g_ifeq_t rfl (by decide) ?_
      refine g_push rfl ?_
      exact g_loc (lsub_cons rfl (lsub_cons rfl lsub_nil)) (tm_number_44 hd 0 0 (S1 697 19) S1 _ _ E)
    · refine g_ifeq_f rfl h4 ?_
      refine g_push rfl ?_
      refine g_goto rfl ?_
      refine g_istore (L2 := [(2, .inl 1), (0, .inr (some (some 697))), (1, .inl v1)]) rfl rfl ?_
      refine g_aload rfl rfl ?_
      refine g_dup rfl ?_
      refine g_getI rfl ty_m ?_
      refine g_iload rfl rfl ?_
      refine g_ifeq_f rfl (by decide) ?_
      refine g_push rfl ?_
      refine g_goto rfl ?_
      exact g_loc (lsub_cons rfl (lsub_cons rfl lsub_nil)) (tm_number_44 hd 1 1 (S1 697 19) S1 _ _ E)
def fm_line_74b (k74 : Int32 → Int32 → Int32 → Mem → Option (Int32 × Mem)) (v1 : Int32) (v2 : Int32) (v3 : Int32) (S0 : Mem) : Option (Int32 × Mem) := if v2 ≤ v3 then (some (v1, S0)) else (if v1 = 109 then (if v3 = 1 then (bd (fm_number 1 S0) fun x1 S1 => (ast S1 716 v3 x1).bind fun S2 => k74 v1 v2 (v3 + 1) S2) else (bd (fm_number 0 S0) fun x2 S3 => (ast S3 716 v3 x2).bind fun S4 => k74 v1 v2 (v3 + 1) S4)) else (bd (fm_number 0 S0) fun x3 S5 => (ast S5 716 v3 x3).bind fun S6 => k74 v1 v2 (v3 + 1) S6))
set_option maxRecDepth 20000 in
set_option maxHeartbeats 4000000 in
theorem tm_line_74b {scr : Nat × (Nat → Int32)} {d : Nat} (hd : 4 ≤ d) {k74 : Int32 → Int32 → Int32 → Mem → Option (Int32 × Mem)} (hk74 : ∀ (v1 : Int32) (v2 : Int32) (v3 : Int32) (S0 : Mem), ∀ (rv : Int32) (SR : Mem), k74 v1 v2 v3 S0 = some (rv, SR) → XG scr d 146 74 [(0, .inr (some (some 697))), (1, .inl v1), (2, .inl v2), (3, .inl v3)] [] S0 (some (.inl rv)) SR) (v1 : Int32) (v2 : Int32) (v3 : Int32) (S0 : Mem)  (rv : Int32) (SR : Mem) (E : fm_line_74b k74 v1 v2 v3 S0 = some (rv, SR)) : XG scr d 146 74 [(0, .inr (some (some 697))), (1, .inl v1), (2, .inl v2), (3, .inl v3)] [] S0 (some (.inl rv)) SR := by
  unfold fm_line_74b at E
  refine g_iload rfl rfl ?_
  refine g_iload rfl rfl ?_
  rcases xif E with ⟨h1, E⟩ | ⟨h1, E⟩
  · refine g_icge_t rfl h1 ?_
    refine g_iload rfl rfl ?_
    obtain ⟨rfl, rfl⟩ := so2 E
    exact g_iret rfl
  · refine g_icge_f rfl h1 ?_
    refine g_aload rfl rfl ?_
    refine g_getR rfl ty_m (fR_8_21 ty_m) ?_
    refine g_iload rfl rfl ?_
    refine g_aload rfl rfl ?_
    refine g_iload rfl rfl ?_
    refine g_push rfl ?_
    rcases xif E with ⟨h2, E⟩ | ⟨h2, E⟩
    · refine g_icne_t rfl h2 ?_
      refine g_iload rfl rfl ?_
      refine g_push rfl ?_
      rcases xif E with ⟨h3, E⟩ | ⟨h3, E⟩
      · refine g_icne_t rfl h3 ?_
        refine g_push rfl ?_
        refine g_goto rfl ?_
        obtain ⟨x1, S1, h4, E⟩ := ob2 E
        refine g_inv1 (dc := 3) rfl (by omega) ty_m (Nat.le_of_ble_eq_true rfl) (fun d hd => tm_number hd 1 S0 _ _ h4) ?_
        obtain ⟨S2, h5, E⟩ := ob E
        refine g_iast rfl fT_8_21 h5 ?_
        refine g_iinc (L2 := [(3, .inl (v3 + 1)), (0, .inr (some (some 697))), (1, .inl v1), (2, .inl v2)]) rfl rfl rfl ?_
        refine g_goto rfl ?_
        exact g_loc (lsub_cons rfl (lsub_cons rfl (lsub_cons rfl (lsub_cons rfl lsub_nil)))) (hk74 v1 v2 (v3 + 1) S2 _ _ E)
      · refine g_icne_f rfl h3 ?_
        refine g_push rfl ?_
        obtain ⟨x2, S3, h6, E⟩ := ob2 E
        refine g_inv1 (dc := 3) rfl (by omega) ty_m (Nat.le_of_ble_eq_true rfl) (fun d hd => tm_number hd 0 S0 _ _ h6) ?_
        obtain ⟨S4, h7, E⟩ := ob E
        refine g_iast rfl fT_8_21 h7 ?_
        refine g_iinc (L2 := [(3, .inl (v3 + 1)), (0, .inr (some (some 697))), (1, .inl v1), (2, .inl v2)]) rfl rfl rfl ?_
        refine g_goto rfl ?_
        exact g_loc (lsub_cons rfl (lsub_cons rfl (lsub_cons rfl (lsub_cons rfl lsub_nil)))) (hk74 v1 v2 (v3 + 1) S4 _ _ E)
    · refine g_icne_f rfl h2 ?_
      refine g_push rfl ?_
      obtain ⟨x3, S5, h8, E⟩ := ob2 E
      refine g_inv1 (dc := 3) rfl (by omega) ty_m (Nat.le_of_ble_eq_true rfl) (fun d hd => tm_number hd 0 S0 _ _ h8) ?_
      obtain ⟨S6, h9, E⟩ := ob E
      refine g_iast rfl fT_8_21 h9 ?_
      refine g_iinc (L2 := [(3, .inl (v3 + 1)), (0, .inr (some (some 697))), (1, .inl v1), (2, .inl v2)]) rfl rfl rfl ?_
      refine g_goto rfl ?_
      exact g_loc (lsub_cons rfl (lsub_cons rfl (lsub_cons rfl (lsub_cons rfl lsub_nil)))) (hk74 v1 v2 (v3 + 1) S6 _ _ E)
def fm_line_74  : Nat → Int32 → Int32 → Int32 → Mem → Option (Int32 × Mem)
  | 0 => fun _ _ _ _ => none
  | n + 1 => fm_line_74b  (fm_line_74  n)
set_option maxRecDepth 20000 in
set_option maxHeartbeats 4000000 in
theorem tm_line_74 {scr : Nat × (Nat → Int32)} {d : Nat} (hd : 4 ≤ d)  : ∀ (n : Nat) (v1 : Int32) (v2 : Int32) (v3 : Int32) (S0 : Mem), ∀ (rv : Int32) (SR : Mem), fm_line_74  n v1 v2 v3 S0 = some (rv, SR) → XG scr d 146 74 [(0, .inr (some (some 697))), (1, .inl v1), (2, .inl v2), (3, .inl v3)] [] S0 (some (.inl rv)) SR
  | 0, v1, v2, v3, S0, rv, SR, E => nn E
  | n + 1, v1, v2, v3, S0, rv, SR, E => tm_line_74b hd  (tm_line_74 hd  n) v1 v2 v3 S0  rv SR E
def fm_line_22   (S0 : Mem) : Option (Int32 × Mem) := (some (up2 S0 697 19 ((S0 697 19) + 1))).bind fun S1 => (ald S1 703 (S0 697 19)).bind fun x1 => if x1 = 97 then (fm_line_74 LF x1 5 0 S1) else (if x1 = 109 then (fm_line_74 LF x1 2 0 S1) else (fm_line_74 LF x1 1 0 S1))
set_option maxRecDepth 20000 in
set_option maxHeartbeats 4000000 in
theorem tm_line_22 {scr : Nat × (Nat → Int32)} {d : Nat} (hd : 4 ≤ d)   (S0 : Mem)  (rv : Int32) (SR : Mem) (E : fm_line_22  S0 = some (rv, SR)) : XG scr d 146 22 [(0, .inr (some (some 697)))] [] S0 (some (.inl rv)) SR := by
  unfold fm_line_22 at E
  refine g_aload rfl rfl ?_
  refine g_getR rfl ty_m (fR_8_10 ty_m) ?_
  refine g_aload rfl rfl ?_
  refine g_dup rfl ?_
  refine g_getI rfl ty_m ?_
  refine g_dup_x1 rfl ?_
  refine g_push rfl ?_
  refine g_iadd rfl ?_
  obtain ⟨S1, hS1, E⟩ := ob E
  refine g_putI rfl ty_m hS1 ?_
  obtain ⟨x1, h1, E⟩ := ob E
  refine g_iald rfl fT_8_10 h1 ?_
  refine g_goto rfl ?_
  refine g_istore (L2 := [(1, .inl x1), (0, .inr (some (some 697)))]) rfl rfl ?_
  refine g_iload rfl rfl ?_
  refine g_push rfl ?_
  rcases xif E with ⟨h2, E⟩ | ⟨h2, E⟩
  · refine g_icne_t rfl h2 ?_
    refine g_push rfl ?_
    refine g_goto rfl ?_
    refine g_istore (L2 := [(2, .inl 5), (1, .inl x1), (0, .inr (some (some 697)))]) rfl rfl ?_
    refine g_push rfl ?_
    refine g_istore (L2 := [(3, .inl 0), (2, .inl 5), (1, .inl x1), (0, .inr (some (some 697)))]) rfl rfl ?_
    exact g_loc (lsub_cons rfl (lsub_cons rfl (lsub_cons rfl (lsub_cons rfl lsub_nil)))) (tm_line_74 hd LF x1 5 0 S1 _ _ E)
  · refine g_icne_f rfl h2 ?_
    refine g_iload rfl rfl ?_
    refine g_push rfl ?_
    rcases xif E with ⟨h3, E⟩ | ⟨h3, E⟩
    · refine g_icne_t rfl h3 ?_
      refine g_push rfl ?_
      refine g_goto rfl ?_
      refine g_istore (L2 := [(2, .inl 2), (1, .inl x1), (0, .inr (some (some 697)))]) rfl rfl ?_
      refine g_push rfl ?_
      refine g_istore (L2 := [(3, .inl 0), (2, .inl 2), (1, .inl x1), (0, .inr (some (some 697)))]) rfl rfl ?_
      exact g_loc (lsub_cons rfl (lsub_cons rfl (lsub_cons rfl (lsub_cons rfl lsub_nil)))) (tm_line_74 hd LF x1 2 0 S1 _ _ E)
    · refine g_icne_f rfl h3 ?_
      refine g_push rfl ?_
      refine g_istore (L2 := [(2, .inl 1), (1, .inl x1), (0, .inr (some (some 697)))]) rfl rfl ?_
      refine g_push rfl ?_
      refine g_istore (L2 := [(3, .inl 0), (2, .inl 1), (1, .inl x1), (0, .inr (some (some 697)))]) rfl rfl ?_
      exact g_loc (lsub_cons rfl (lsub_cons rfl (lsub_cons rfl (lsub_cons rfl lsub_nil)))) (tm_line_74 hd LF x1 1 0 S1 _ _ E)
def fm_line  (S0 : Mem) : Option (Int32 × Mem) := (fm_sees 109 109 S0).bind fun x1 => if x1 = 0 then ((fm_sees 115 115 S0).bind fun x2 => if x2 = 0 then (bd (fm_must 97 97 S0) fun x3 S1 => if x3 = 97 then (fm_line_74 LF x3 5 0 S1) else (if x3 = 109 then (fm_line_74 LF x3 2 0 S1) else (fm_line_74 LF x3 1 0 S1))) else (fm_line_22 S0)) else (fm_line_22 S0)
set_option maxRecDepth 20000 in
set_option maxHeartbeats 4000000 in
theorem tm_line {scr : Nat × (Nat → Int32)} {d : Nat} (hd : 4 ≤ d)  (S0 : Mem)  (rv : Int32) (SR : Mem) (E : fm_line   S0 = some (rv, SR)) : XG scr d 146 0 [(0, .inr (some (some 697)))] [] S0 (some (.inl rv)) SR := by
  unfold fm_line at E
  refine g_aload rfl rfl ?_
  refine g_push rfl ?_
  refine g_push rfl ?_
  obtain ⟨x1, h1, E⟩ := ob E
  refine g_inv2 (dc := 1) rfl (by omega) ty_m (Nat.le_of_ble_eq_true rfl) (fun d hd => tm_sees hd 109 109 S0 _ h1) ?_
  rcases xif E with ⟨h2, E⟩ | ⟨h2, E⟩
  · refine g_ifne_t rfl h2 ?_
    refine g_aload rfl rfl ?_
    refine g_push rfl ?_
    refine g_push rfl ?_
    obtain ⟨x2, h3, E⟩ := ob E
    refine g_inv2 (dc := 1) rfl (by omega) ty_m (Nat.le_of_ble_eq_true rfl) (fun d hd => tm_sees hd 115 115 S0 _ h3) ?_
    rcases xif E with ⟨h4, E⟩ | ⟨h4, E⟩
    · refine g_ifeq_t rfl h4 ?_
      refine g_aload rfl rfl ?_
      refine g_push rfl ?_
      refine g_push rfl ?_
      obtain ⟨x3, S1, h5, E⟩ := ob2 E
      refine g_inv2 (dc := 2) rfl (by omega) ty_m (Nat.le_of_ble_eq_true rfl) (fun d hd => tm_must hd 97 97 S0 _ _ h5) ?_
      refine g_istore (L2 := [(1, .inl x3), (0, .inr (some (some 697)))]) rfl rfl ?_
      refine g_iload rfl rfl ?_
      refine g_push rfl ?_
      rcases xif E with ⟨h6, E⟩ | ⟨h6, E⟩
      · refine g_icne_t rfl h6 ?_
        refine g_push rfl ?_
        refine g_goto rfl ?_
        refine g_istore (L2 := [(2, .inl 5), (1, .inl x3), (0, .inr (some (some 697)))]) rfl rfl ?_
        refine g_push rfl ?_
        refine g_istore (L2 := [(3, .inl 0), (2, .inl 5), (1, .inl x3), (0, .inr (some (some 697)))]) rfl rfl ?_
        exact g_loc (lsub_cons rfl (lsub_cons rfl (lsub_cons rfl (lsub_cons rfl lsub_nil)))) (tm_line_74 hd LF x3 5 0 S1 _ _ E)
      · refine g_icne_f rfl h6 ?_
        refine g_iload rfl rfl ?_
        refine g_push rfl ?_
        rcases xif E with ⟨h7, E⟩ | ⟨h7, E⟩
        · refine g_icne_t rfl h7 ?_
          refine g_push rfl ?_
          refine g_goto rfl ?_
          refine g_istore (L2 := [(2, .inl 2), (1, .inl x3), (0, .inr (some (some 697)))]) rfl rfl ?_
          refine g_push rfl ?_
          refine g_istore (L2 := [(3, .inl 0), (2, .inl 2), (1, .inl x3), (0, .inr (some (some 697)))]) rfl rfl ?_
          exact g_loc (lsub_cons rfl (lsub_cons rfl (lsub_cons rfl (lsub_cons rfl lsub_nil)))) (tm_line_74 hd LF x3 2 0 S1 _ _ E)
        · refine g_icne_f rfl h7 ?_
          refine g_push rfl ?_
          refine g_istore (L2 := [(2, .inl 1), (1, .inl x3), (0, .inr (some (some 697)))]) rfl rfl ?_
          refine g_push rfl ?_
          refine g_istore (L2 := [(3, .inl 0), (2, .inl 1), (1, .inl x3), (0, .inr (some (some 697)))]) rfl rfl ?_
          exact g_loc (lsub_cons rfl (lsub_cons rfl (lsub_cons rfl (lsub_cons rfl lsub_nil)))) (tm_line_74 hd LF x3 1 0 S1 _ _ E)
    · refine g_ifeq_f rfl h4 ?_
      exact g_loc (lsub_cons rfl lsub_nil) (tm_line_22 hd S0 _ _ E)
  · refine g_ifne_f rfl h2 ?_
    exact g_loc (lsub_cons rfl lsub_nil) (tm_line_22 hd S0 _ _ E)
def fm_isForm_15b (k15 : Mem → Option (Int32 × Mem))  (S0 : Mem) : Option (Int32 × Mem) := if 0 ≤ (S0 697 20) then (if 0 ≤ (S0 697 20) then (some (0, S0)) else (some (1, S0))) else (if (S0 697 11) ≤ (S0 697 19) then (if 0 ≤ (S0 697 20) then (some (0, S0)) else (some (1, S0))) else (bd (fm_must 59 59 S0) fun x1 S1 => bd (fm_line S1) fun x2 S2 => k15 S2))
set_option maxRecDepth 20000 in
set_option maxHeartbeats 4000000 in
theorem tm_isForm_15b {scr : Nat × (Nat → Int32)} {d : Nat} (hd : 5 ≤ d) {k15 : Mem → Option (Int32 × Mem)} (hk15 : ∀  (S0 : Mem), ∀ (rv : Int32) (SR : Mem), k15  S0 = some (rv, SR) → XG scr d 138 15 [(0, .inr (some (some 697)))] [] S0 (some (.inl rv)) SR)  (S0 : Mem)  (rv : Int32) (SR : Mem) (E : fm_isForm_15b k15  S0 = some (rv, SR)) : XG scr d 138 15 [(0, .inr (some (some 697)))] [] S0 (some (.inl rv)) SR := by
  unfold fm_isForm_15b at E
  refine g_aload rfl rfl ?_
  refine g_getI rfl ty_m ?_
  rcases xif E with ⟨h1, E⟩ | ⟨h1, E⟩
  · refine g_ifge_t rfl h1 ?_
    refine g_aload rfl rfl ?_
    refine g_getI rfl ty_m ?_
    rcases xif E with ⟨h2, E⟩ | ⟨h2, E⟩
    · refine g_ifge_t rfl h2 ?_
      refine g_push rfl ?_
      obtain ⟨rfl, rfl⟩ := so2 E
      exact g_zret rfl b00
    · refine g_ifge_f rfl h2 ?_
      refine g_push rfl ?_
      refine g_goto rfl ?_
      obtain ⟨rfl, rfl⟩ := so2 E
      exact g_zret rfl b01
  · refine g_ifge_f rfl h1 ?_
    refine g_aload rfl rfl ?_
    refine g_getI rfl ty_m ?_
    refine g_aload rfl rfl ?_
    refine g_getI rfl ty_m ?_
    rcases xif E with ⟨h3, E⟩ | ⟨h3, E⟩
    · refine g_icge_t rfl h3 ?_
      refine g_aload rfl rfl ?_
      refine g_getI rfl ty_m ?_
      rcases xif E with ⟨h4, E⟩ | ⟨h4, E⟩
      · refine g_ifge_t rfl h4 ?_
        refine g_push rfl ?_
        obtain ⟨rfl, rfl⟩ := so2 E
        exact g_zret rfl b00
      · refine g_ifge_f rfl h4 ?_
        refine g_push rfl ?_
        refine g_goto rfl ?_
        obtain ⟨rfl, rfl⟩ := so2 E
        exact g_zret rfl b01
    · refine g_icge_f rfl h3 ?_
      refine g_aload rfl rfl ?_
      refine g_push rfl ?_
      refine g_push rfl ?_
      obtain ⟨x1, S1, h5, E⟩ := ob2 E
      refine g_inv2 (dc := 2) rfl (by omega) ty_m (Nat.le_of_ble_eq_true rfl) (fun d hd => tm_must hd 59 59 S0 _ _ h5) ?_
      refine g_pop rfl ?_
      refine g_aload rfl rfl ?_
      obtain ⟨x2, S2, h6, E⟩ := ob2 E
      refine g_inv0 (dc := 4) rfl (by omega) ty_m (Nat.le_of_ble_eq_true rfl) (fun d hd => tm_line hd S1 _ _ h6) ?_
      refine g_pop rfl ?_
      refine g_goto rfl ?_
      exact g_loc (lsub_cons rfl lsub_nil) (hk15 S2 _ _ E)
def fm_isForm_15  : Nat → Mem → Option (Int32 × Mem)
  | 0 => fun  _ => none
  | n + 1 => fm_isForm_15b  (fm_isForm_15  n)
set_option maxRecDepth 20000 in
set_option maxHeartbeats 4000000 in
theorem tm_isForm_15 {scr : Nat × (Nat → Int32)} {d : Nat} (hd : 5 ≤ d)  : ∀ (n : Nat)  (S0 : Mem), ∀ (rv : Int32) (SR : Mem), fm_isForm_15  n  S0 = some (rv, SR) → XG scr d 138 15 [(0, .inr (some (some 697)))] [] S0 (some (.inl rv)) SR
  | 0, S0, rv, SR, E => nn E
  | n + 1, S0, rv, SR, E => tm_isForm_15b hd  (tm_isForm_15 hd  n)  S0  rv SR E
def fm_isForm  (S0 : Mem) : Option (Int32 × Mem) := (some (up2 S0 697 19 0)).bind fun S1 => (some (up2 S1 697 20 ((-1)))).bind fun S2 => bd (fm_line S2) fun x1 S3 => fm_isForm_15 LF S3
set_option maxRecDepth 20000 in
set_option maxHeartbeats 4000000 in
theorem tm_isForm {scr : Nat × (Nat → Int32)} {d : Nat} (hd : 5 ≤ d)  (S0 : Mem)  (rv : Int32) (SR : Mem) (E : fm_isForm   S0 = some (rv, SR)) : XG scr d 138 0 [(0, .inr (some (some 697)))] [] S0 (some (.inl rv)) SR := by
  unfold fm_isForm at E
  refine g_aload rfl rfl ?_
  refine g_push rfl ?_
  obtain ⟨S1, hS1, E⟩ := ob E
  refine g_putI rfl ty_m hS1 ?_
  refine g_aload rfl rfl ?_
  refine g_push rfl ?_
  obtain ⟨S2, hS2, E⟩ := ob E
  refine g_putI rfl ty_m hS2 ?_
  refine g_aload rfl rfl ?_
  obtain ⟨x1, S3, h1, E⟩ := ob2 E
  refine g_inv0 (dc := 4) rfl (by omega) ty_m (Nat.le_of_ble_eq_true rfl) (fun d hd => tm_line hd S2 _ _ h1) ?_
  refine g_pop rfl ?_
  exact g_loc (lsub_cons rfl lsub_nil) (tm_isForm_15 hd LF S3 _ _ E)
def fm_isNext (v1 : Int32) (v2 : Int32) (S0 : Mem) : Option Int32 := (fm_at v1 0 S0).bind fun x1 => if x1 = v2 then (some 1) else ((fm_at v2 0 S0).bind fun x2 => if x2 = v1 then (some 1) else (some 0))
set_option maxRecDepth 20000 in
set_option maxHeartbeats 4000000 in
theorem tm_isNext {scr : Nat × (Nat → Int32)} {d : Nat} (hd : 1 ≤ d) (v1 : Int32) (v2 : Int32) (S0 : Mem)  (rv : Int32) (E : fm_isNext  v1 v2 S0 = some rv) : XG scr d 142 0 [(0, .inr (some (some 697))), (1, .inl v1), (2, .inl v2)] [] S0 (some (.inl rv)) S0 := by
  unfold fm_isNext at E
  refine g_aload rfl rfl ?_
  refine g_iload rfl rfl ?_
  refine g_push rfl ?_
  obtain ⟨x1, h1, E⟩ := ob E
  refine g_inv2 (dc := 0) rfl (by omega) ty_m (Nat.le_of_ble_eq_true rfl) (fun d hd => tm_at hd v1 0 S0 _ h1) ?_
  refine g_iload rfl rfl ?_
  rcases xif E with ⟨h2, E⟩ | ⟨h2, E⟩
  · refine g_iceq_t rfl h2 ?_
    refine g_push rfl ?_
    refine g_goto rfl ?_
    obtain rfl := so1 E
    exact g_zret rfl b01
  · refine g_iceq_f rfl h2 ?_
    refine g_aload rfl rfl ?_
    refine g_iload rfl rfl ?_
    refine g_push rfl ?_
    obtain ⟨x2, h3, E⟩ := ob E
    refine g_inv2 (dc := 0) rfl (by omega) ty_m (Nat.le_of_ble_eq_true rfl) (fun d hd => tm_at hd v2 0 S0 _ h3) ?_
    refine g_iload rfl rfl ?_
    rcases xif E with ⟨h4, E⟩ | ⟨h4, E⟩
    · refine g_icne_t rfl h4 ?_
      refine g_push rfl ?_
      refine g_goto rfl ?_
      obtain rfl := so1 E
      exact g_zret rfl b01
    · refine g_icne_f rfl h4 ?_
      refine g_push rfl ?_
      obtain rfl := so1 E
      exact g_zret rfl b00
def fm_isNumber (v0 : Int32) (S0 : Mem) : Option Int32 := (fm_in v0 ((-99)) 99 S0).bind fun x1 => (bol x1).bind fun z1 => some z1
set_option maxRecDepth 20000 in
set_option maxHeartbeats 4000000 in
theorem tm_isNumber {scr : Nat × (Nat → Int32)} {d : Nat} (hd : 1 ≤ d) (v0 : Int32) (S0 : Mem)  (rv : Int32) (E : fm_isNumber  v0 S0 = some rv) : XG scr d 143 0 [(0, .inl v0)] [] S0 (some (.inl rv)) S0 := by
  unfold fm_isNumber at E
  refine g_iload rfl rfl ?_
  refine g_push rfl ?_
  refine g_push rfl ?_
  obtain ⟨x1, h1, E⟩ := ob E
  refine g_invS3 (dc := 0) rfl (by omega) (Nat.le_of_ble_eq_true rfl) (fun d hd => tm_in hd v0 ((-99)) 99 S0 _ h1) ?_
  obtain ⟨z1, h2, E⟩ := ob E
  obtain rfl := so1 E
  have h22 := (bol_of h2).2
  rw [h22]
  exact g_zret rfl (bol_of h2).1
def fm_log (v1 : Int32) (S0 : Mem) : Option Int32 := if 0 ≤ v1 then ((ald S0 698 962).bind fun x1 => if x1 ≤ v1 then (some ((-2))) else ((ald S0 698 (963 + v1)).bind fun x2 => some x2)) else (some ((-1)))
set_option maxRecDepth 20000 in
set_option maxHeartbeats 4000000 in
theorem tm_log {scr : Nat × (Nat → Int32)} {d : Nat} (hd : 0 ≤ d) (v1 : Int32) (S0 : Mem)  (rv : Int32) (E : fm_log  v1 S0 = some rv) : XG scr d 148 0 [(0, .inr (some (some 697))), (1, .inl v1)] [] S0 (some (.inl rv)) S0 := by
  unfold fm_log at E
  refine g_iload rfl rfl ?_
  rcases xif E with ⟨h1, E⟩ | ⟨h1, E⟩
  · refine g_ifge_t rfl h1 ?_
    refine g_iload rfl rfl ?_
    refine g_aload rfl rfl ?_
    refine g_getR rfl ty_m (fR_8_0 ty_m) ?_
    refine g_push rfl ?_
    obtain ⟨x1, h2, E⟩ := ob E
    refine g_iald rfl fT_8_0 h2 ?_
    rcases xif E with ⟨h3, E⟩ | ⟨h3, E⟩
    · refine g_icge_t rfl h3 ?_
      refine g_push rfl ?_
      obtain rfl := so1 E
      exact g_iret rfl
    · refine g_icge_f rfl h3 ?_
      refine g_aload rfl rfl ?_
      refine g_getR rfl ty_m (fR_8_0 ty_m) ?_
      refine g_push rfl ?_
      refine g_iload rfl rfl ?_
      refine g_iadd rfl ?_
      obtain ⟨x2, h4, E⟩ := ob E
      refine g_iald rfl fT_8_0 h4 ?_
      refine g_goto rfl ?_
      obtain rfl := so1 E
      exact g_iret rfl
  · refine g_ifge_f rfl h1 ?_
    refine g_push rfl ?_
    obtain rfl := so1 E
    exact g_iret rfl
def fm_messageAt (v1 : Int32) (v2 : Int32) (v3 : Int32) (S0 : Mem) : Option Int32 := if v3 = 0 then ((fm_at v1 13 S0).bind fun x1 => if x1 ≤ v2 then (some ((-2))) else (if v3 = 0 then (some (14 + (2 * v2))) else (some (39 + (2 * v2))))) else ((fm_at v1 38 S0).bind fun x2 => if x2 ≤ v2 then (some ((-2))) else (if v3 = 0 then (some (14 + (2 * v2))) else (some (39 + (2 * v2)))))
set_option maxRecDepth 20000 in
set_option maxHeartbeats 4000000 in
theorem tm_messageAt {scr : Nat × (Nat → Int32)} {d : Nat} (hd : 1 ≤ d) (v1 : Int32) (v2 : Int32) (v3 : Int32) (S0 : Mem)  (rv : Int32) (E : fm_messageAt  v1 v2 v3 S0 = some rv) : XG scr d 151 0 [(0, .inr (some (some 697))), (1, .inl v1), (2, .inl v2), (3, .inl v3)] [] S0 (some (.inl rv)) S0 := by
  unfold fm_messageAt at E
  refine g_iload rfl rfl ?_
  refine g_aload rfl rfl ?_
  refine g_iload rfl rfl ?_
  refine g_iload rfl rfl ?_
  rcases xif E with ⟨h1, E⟩ | ⟨h1, E⟩
  · refine g_ifeq_t rfl h1 ?_
    refine g_push rfl ?_
    obtain ⟨x1, h2, E⟩ := ob E
    refine g_inv2 (dc := 0) rfl (by omega) ty_m (Nat.le_of_ble_eq_true rfl) (fun d hd => tm_at hd v1 13 S0 _ h2) ?_
    rcases xif E with ⟨h3, E⟩ | ⟨h3, E⟩
    · refine g_icge_t rfl h3 ?_
      refine g_push rfl ?_
      obtain rfl := so1 E
      exact g_iret rfl
    · refine g_icge_f rfl h3 ?_
      refine g_iload rfl rfl ?_
      rcases xif E with ⟨h4, E⟩ | ⟨h4, E⟩
      · refine g_ifeq_t rfl h4 ?_
        refine g_push rfl ?_
        refine g_push rfl ?_
        refine g_iload rfl rfl ?_
        refine g_imul rfl ?_
        refine g_iadd rfl ?_
        refine g_goto rfl ?_
        obtain rfl := so1 E
        exact g_iret rfl
      · refine g_ifeq_f rfl h4 ?_
        refine g_push rfl ?_
        refine g_goto rfl ?_
        refine g_push rfl ?_
        refine g_iload rfl rfl ?_
        refine g_imul rfl ?_
        refine g_iadd rfl ?_
        refine g_goto rfl ?_
        obtain rfl := so1 E
        exact g_iret rfl
  · refine g_ifeq_f rfl h1 ?_
    refine g_push rfl ?_
    refine g_goto rfl ?_
    obtain ⟨x2, h5, E⟩ := ob E
    refine g_inv2 (dc := 0) rfl (by omega) ty_m (Nat.le_of_ble_eq_true rfl) (fun d hd => tm_at hd v1 38 S0 _ h5) ?_
    rcases xif E with ⟨h6, E⟩ | ⟨h6, E⟩
    · refine g_icge_t rfl h6 ?_
      refine g_push rfl ?_
      obtain rfl := so1 E
      exact g_iret rfl
    · refine g_icge_f rfl h6 ?_
      refine g_iload rfl rfl ?_
      rcases xif E with ⟨h7, E⟩ | ⟨h7, E⟩
      · refine g_ifeq_t rfl h7 ?_
        refine g_push rfl ?_
        refine g_push rfl ?_
        refine g_iload rfl rfl ?_
        refine g_imul rfl ?_
        refine g_iadd rfl ?_
        refine g_goto rfl ?_
        obtain rfl := so1 E
        exact g_iret rfl
      · refine g_ifeq_f rfl h7 ?_
        refine g_push rfl ?_
        refine g_goto rfl ?_
        refine g_push rfl ?_
        refine g_iload rfl rfl ?_
        refine g_imul rfl ?_
        refine g_iadd rfl ?_
        refine g_goto rfl ?_
        obtain rfl := so1 E
        exact g_iret rfl
def fm_message (v1 : Int32) (v2 : Int32) (v3 : Int32) (S0 : Mem) : Option Int32 := (fm_isActor v1 S0).bind fun x1 => if x1 = 0 then (some ((-1))) else (if 0 ≤ v2 then ((fm_messageAt v1 v2 v3 S0).bind fun x2 => if 0 ≤ x2 then ((fm_at v1 (x2 + 1) S0).bind fun x3 => if x3 < 1000 then (some (x3 + 100)) else (some ((300 + x3) - 1000))) else (some ((-2)))) else (some ((-1))))
set_option maxRecDepth 20000 in
set_option maxHeartbeats 4000000 in
theorem tm_message {scr : Nat × (Nat → Int32)} {d : Nat} (hd : 2 ≤ d) (v1 : Int32) (v2 : Int32) (v3 : Int32) (S0 : Mem)  (rv : Int32) (E : fm_message  v1 v2 v3 S0 = some rv) : XG scr d 150 0 [(0, .inr (some (some 697))), (1, .inl v1), (2, .inl v2), (3, .inl v3)] [] S0 (some (.inl rv)) S0 := by
  unfold fm_message at E
  refine g_aload rfl rfl ?_
  refine g_iload rfl rfl ?_
  obtain ⟨x1, h1, E⟩ := ob E
  refine g_inv1 (dc := 1) rfl (by omega) ty_m (Nat.le_of_ble_eq_true rfl) (fun d hd => tm_isActor hd v1 S0 _ h1) ?_
  rcases xif E with ⟨h2, E⟩ | ⟨h2, E⟩
  · refine g_ifeq_t rfl h2 ?_
    refine g_push rfl ?_
    obtain rfl := so1 E
    exact g_iret rfl
  · refine g_ifeq_f rfl h2 ?_
    refine g_iload rfl rfl ?_
    rcases xif E with ⟨h3, E⟩ | ⟨h3, E⟩
    · refine g_ifge_t rfl h3 ?_
      refine g_aload rfl rfl ?_
      refine g_iload rfl rfl ?_
      refine g_iload rfl rfl ?_
      refine g_iload rfl rfl ?_
      obtain ⟨x2, h4, E⟩ := ob E
      refine g_inv3 (dc := 1) rfl (by omega) ty_m (Nat.le_of_ble_eq_true rfl) (fun d hd => tm_messageAt hd v1 v2 v3 S0 _ h4) ?_
      refine g_istore (L2 := [(4, .inl x2), (0, .inr (some (some 697))), (1, .inl v1), (2, .inl v2), (3, .inl v3)]) rfl rfl ?_
      refine g_iload rfl rfl ?_
      rcases xif E with ⟨h5, E⟩ | ⟨h5, E⟩
      · refine g_ifge_t rfl h5 ?_
        refine g_aload rfl rfl ?_
        refine g_iload rfl rfl ?_
        refine g_iload rfl rfl ?_
        refine g_push rfl ?_
        refine g_iadd rfl ?_
        obtain ⟨x3, h6, E⟩ := ob E
        refine g_inv2 (dc := 0) rfl (by omega) ty_m (Nat.le_of_ble_eq_true rfl) (fun d hd => tm_at hd v1 (x2 + 1) S0 _ h6) ?_
        refine g_istore (L2 := [(5, .inl x3), (4, .inl x2), (0, .inr (some (some 697))), (1, .inl v1), (2, .inl v2), (3, .inl v3)]) rfl rfl ?_
        refine g_iload rfl rfl ?_
        refine g_push rfl ?_
        rcases xif E with ⟨h7, E⟩ | ⟨h7, E⟩
        · refine g_iclt_t rfl h7 ?_
          refine g_iload rfl rfl ?_
          refine g_push rfl ?_
          refine g_iadd rfl ?_
          obtain rfl := so1 E
          exact g_iret rfl
        · refine g_iclt_f rfl h7 ?_
          refine g_push rfl ?_
          refine g_iload rfl rfl ?_
          refine g_iadd rfl ?_
          refine g_push rfl ?_
          refine g_isub rfl ?_
          refine g_goto rfl ?_
          obtain rfl := so1 E
          exact g_iret rfl
      · refine g_ifge_f rfl h5 ?_
        refine g_push rfl ?_
        obtain rfl := so1 E
        exact g_iret rfl
    · refine g_ifge_f rfl h3 ?_
      refine g_push rfl ?_
      obtain rfl := so1 E
      exact g_iret rfl
def fm_timersOf_4b (k4 : Int32 → Int32 → Int32 → Mem → Option Int32) (v1 : Int32) (v2 : Int32) (v3 : Int32) (S0 : Mem) : Option Int32 := (ald S0 698 931).bind fun x1 => if x1 ≤ v3 then (some v2) else ((ald S0 698 (932 + (3 * v3))).bind fun x2 => if x2 = v1 then (k4 v1 (v2 + 1) (v3 + 1) S0) else (k4 v1 (v2 + 0) (v3 + 1) S0))
set_option maxRecDepth 20000 in
set_option maxHeartbeats 4000000 in
theorem tm_timersOf_4b {scr : Nat × (Nat → Int32)} {d : Nat} (hd : 0 ≤ d) {k4 : Int32 → Int32 → Int32 → Mem → Option Int32} (hk4 : ∀ (v1 : Int32) (v2 : Int32) (v3 : Int32) (S0 : Mem), ∀ (rv : Int32), k4 v1 v2 v3 S0 = some rv → XG scr d 183 4 [(0, .inr (some (some 697))), (1, .inl v1), (2, .inl v2), (3, .inl v3)] [] S0 (some (.inl rv)) S0) (v1 : Int32) (v2 : Int32) (v3 : Int32) (S0 : Mem)  (rv : Int32) (E : fm_timersOf_4b k4 v1 v2 v3 S0 = some rv) : XG scr d 183 4 [(0, .inr (some (some 697))), (1, .inl v1), (2, .inl v2), (3, .inl v3)] [] S0 (some (.inl rv)) S0 := by
  unfold fm_timersOf_4b at E
  refine g_iload rfl rfl ?_
  refine g_aload rfl rfl ?_
  refine g_getR rfl ty_m (fR_8_0 ty_m) ?_
  refine g_push rfl ?_
  obtain ⟨x1, h1, E⟩ := ob E
  refine g_iald rfl fT_8_0 h1 ?_
  rcases xif E with ⟨h2, E⟩ | ⟨h2, E⟩
  · refine g_icge_t rfl h2 ?_
    refine g_iload rfl rfl ?_
    obtain rfl := so1 E
    exact g_iret rfl
  · refine g_icge_f rfl h2 ?_
    refine g_iload rfl rfl ?_
    refine g_aload rfl rfl ?_
    refine g_getR rfl ty_m (fR_8_0 ty_m) ?_
    refine g_push rfl ?_
    refine g_push rfl ?_
    refine g_iload rfl rfl ?_
    refine g_imul rfl ?_
    refine g_iadd rfl ?_
    obtain ⟨x2, h3, E⟩ := ob E
    refine g_iald rfl fT_8_0 h3 ?_
    refine g_iload rfl rfl ?_
    rcases xif E with ⟨h4, E⟩ | ⟨h4, E⟩
    · refine g_icne_t rfl h4 ?_
      refine g_push rfl ?_
      refine g_goto rfl ?_
      refine g_iadd rfl ?_
      refine g_istore (L2 := [(2, .inl (v2 + 1)), (0, .inr (some (some 697))), (1, .inl v1), (3, .inl v3)]) rfl rfl ?_
      refine g_iinc (L2 := [(3, .inl (v3 + 1)), (2, .inl (v2 + 1)), (0, .inr (some (some 697))), (1, .inl v1)]) rfl rfl rfl ?_
      refine g_goto rfl ?_
      exact g_loc (lsub_cons rfl (lsub_cons rfl (lsub_cons rfl (lsub_cons rfl lsub_nil)))) (hk4 v1 (v2 + 1) (v3 + 1) S0 _ E)
    · refine g_icne_f rfl h4 ?_
      refine g_push rfl ?_
      refine g_iadd rfl ?_
      refine g_istore (L2 := [(2, .inl (v2 + 0)), (0, .inr (some (some 697))), (1, .inl v1), (3, .inl v3)]) rfl rfl ?_
      refine g_iinc (L2 := [(3, .inl (v3 + 1)), (2, .inl (v2 + 0)), (0, .inr (some (some 697))), (1, .inl v1)]) rfl rfl rfl ?_
      refine g_goto rfl ?_
      exact g_loc (lsub_cons rfl (lsub_cons rfl (lsub_cons rfl (lsub_cons rfl lsub_nil)))) (hk4 v1 (v2 + 0) (v3 + 1) S0 _ E)
def fm_timersOf_4  : Nat → Int32 → Int32 → Int32 → Mem → Option Int32
  | 0 => fun _ _ _ _ => none
  | n + 1 => fm_timersOf_4b  (fm_timersOf_4  n)
set_option maxRecDepth 20000 in
set_option maxHeartbeats 4000000 in
theorem tm_timersOf_4 {scr : Nat × (Nat → Int32)} {d : Nat} (hd : 0 ≤ d)  : ∀ (n : Nat) (v1 : Int32) (v2 : Int32) (v3 : Int32) (S0 : Mem), ∀ (rv : Int32), fm_timersOf_4  n v1 v2 v3 S0 = some rv → XG scr d 183 4 [(0, .inr (some (some 697))), (1, .inl v1), (2, .inl v2), (3, .inl v3)] [] S0 (some (.inl rv)) S0
  | 0, v1, v2, v3, S0, rv, E => nn E
  | n + 1, v1, v2, v3, S0, rv, E => tm_timersOf_4b hd  (tm_timersOf_4 hd  n) v1 v2 v3 S0  rv E
def fm_timersOf (v1 : Int32) (S0 : Mem) : Option Int32 := fm_timersOf_4 LF v1 0 0 S0
set_option maxRecDepth 20000 in
set_option maxHeartbeats 4000000 in
theorem tm_timersOf {scr : Nat × (Nat → Int32)} {d : Nat} (hd : 0 ≤ d) (v1 : Int32) (S0 : Mem)  (rv : Int32) (E : fm_timersOf  v1 S0 = some rv) : XG scr d 183 0 [(0, .inr (some (some 697))), (1, .inl v1)] [] S0 (some (.inl rv)) S0 := by
  unfold fm_timersOf at E
  refine g_push rfl ?_
  refine g_istore (L2 := [(2, .inl 0), (0, .inr (some (some 697))), (1, .inl v1)]) rfl rfl ?_
  refine g_push rfl ?_
  refine g_istore (L2 := [(3, .inl 0), (2, .inl 0), (0, .inr (some (some 697))), (1, .inl v1)]) rfl rfl ?_
  exact g_loc (lsub_cons rfl (lsub_cons rfl (lsub_cons rfl (lsub_cons rfl lsub_nil)))) (tm_timersOf_4 hd LF v1 0 0 S0 _ E)
def fm_of (v1 : Int32) (v2 : Int32) (S0 : Mem) : Option (Int32 × Mem) := (fm_isActor v1 S0).bind fun x1 => if x1 = 0 then (some ((-1), S0)) else ((fm_in v2 0 13 S0).bind fun x2 => if x2 = 0 then (some ((-1), S0)) else (if v2 = 0 then ((fm_at v1 0 S0).bind fun x3 => if 0 ≤ x3 then ((fm_at v1 0 S0).bind fun x4 => some (x4, S0)) else (some ((-2), S0))) else (if v2 = 1 then ((fm_at v1 v2 S0).bind fun x5 => some (x5, S0)) else (if v2 = 2 then ((fm_at v1 v2 S0).bind fun x6 => some (x6, S0)) else (if v2 = 3 then ((fm_at v1 v2 S0).bind fun x7 => some (x7, S0)) else (if v2 = 4 then ((fm_at v1 v2 S0).bind fun x8 => some (x8, S0)) else (if v2 = 5 then ((fm_at v1 v2 S0).bind fun x9 => some (x9, S0)) else (if v2 = 6 then ((fm_doing v1 S0).bind fun x10 => some (x10, S0)) else (if v2 = 7 then ((fm_at v1 7 S0).bind fun x11 => some (x11, S0)) else (if v2 = 8 then ((fm_at v1 13 S0).bind fun x12 => some (x12, S0)) else (if v2 = 9 then ((fm_at v1 38 S0).bind fun x13 => some (x13, S0)) else (if v2 = 10 then ((fm_at v1 51 S0).bind fun x14 => some (x14, S0)) else (if v2 = 11 then ((fm_timersOf v1 S0).bind fun x15 => some (x15, S0)) else (if v2 = 12 then (bd (fm_noted v1 0 S0) fun x16 S1 => some (x16, S1)) else (if v2 = 13 then ((fm_childrenOf v1 S0).bind fun x17 => some (x17, S0)) else ((fm_at v1 v2 S0).bind fun x18 => some (x18, S0)))))))))))))))))
set_option maxRecDepth 20000 in
set_option maxHeartbeats 4000000 in
theorem tm_of {scr : Nat × (Nat → Int32)} {d : Nat} (hd : 2 ≤ d) (v1 : Int32) (v2 : Int32) (S0 : Mem)  (rv : Int32) (SR : Mem) (E : fm_of  v1 v2 S0 = some (rv, SR)) : XG scr d 156 0 [(0, .inr (some (some 697))), (1, .inl v1), (2, .inl v2)] [] S0 (some (.inl rv)) SR := by
  unfold fm_of at E
  refine g_aload rfl rfl ?_
  refine g_iload rfl rfl ?_
  obtain ⟨x1, h1, E⟩ := ob E
  refine g_inv1 (dc := 1) rfl (by omega) ty_m (Nat.le_of_ble_eq_true rfl) (fun d hd => tm_isActor hd v1 S0 _ h1) ?_
  rcases xif E with ⟨h2, E⟩ | ⟨h2, E⟩
  · refine g_ifeq_t rfl h2 ?_
    refine g_push rfl ?_
    obtain ⟨rfl, rfl⟩ := so2 E
    exact g_iret rfl
  · refine g_ifeq_f rfl h2 ?_
    refine g_iload rfl rfl ?_
    refine g_push rfl ?_
    refine g_push rfl ?_
    obtain ⟨x2, h3, E⟩ := ob E
    refine g_invS3 (dc := 0) rfl (by omega) (Nat.le_of_ble_eq_true rfl) (fun d hd => tm_in hd v2 0 13 S0 _ h3) ?_
    rcases xif E with ⟨h4, E⟩ | ⟨h4, E⟩
    · refine g_ifne_t rfl h4 ?_
      refine g_push rfl ?_
      obtain ⟨rfl, rfl⟩ := so2 E
      exact g_iret rfl
    · refine g_ifne_f rfl h4 ?_
      refine g_iload rfl rfl ?_
      rcases xif E with ⟨h5, E⟩ | ⟨h5, E⟩
      · refine g_tsw (u := 92) rfl (by rw [h5]; decide +kernel) ?_
        refine g_aload rfl rfl ?_
        refine g_iload rfl rfl ?_
        refine g_push rfl ?_
        obtain ⟨x3, h6, E⟩ := ob E
        refine g_inv2 (dc := 0) rfl (by omega) ty_m (Nat.le_of_ble_eq_true rfl) (fun d hd => tm_at hd v1 0 S0 _ h6) ?_
        rcases xif E with ⟨h7, E⟩ | ⟨h7, E⟩
        · refine g_ifge_t rfl h7 ?_
          refine g_aload rfl rfl ?_
          refine g_iload rfl rfl ?_
          refine g_push rfl ?_
          obtain ⟨x4, h8, E⟩ := ob E
          refine g_inv2 (dc := 0) rfl (by omega) ty_m (Nat.le_of_ble_eq_true rfl) (fun d hd => tm_at hd v1 0 S0 _ h8) ?_
          obtain ⟨rfl, rfl⟩ := so2 E
          exact g_iret rfl
        · refine g_ifge_f rfl h7 ?_
          refine g_push rfl ?_
          refine g_goto rfl ?_
          obtain ⟨rfl, rfl⟩ := so2 E
          exact g_iret rfl
      · rcases xif E with ⟨h9, E⟩ | ⟨h9, E⟩
        · refine g_tsw (u := 170) rfl (by rw [h9]; decide +kernel) ?_
          refine g_aload rfl rfl ?_
          refine g_iload rfl rfl ?_
          refine g_iload rfl rfl ?_
          obtain ⟨x5, h10, E⟩ := ob E
          refine g_inv2 (dc := 0) rfl (by omega) ty_m (Nat.le_of_ble_eq_true rfl) (fun d hd => tm_at hd v1 v2 S0 _ h10) ?_
          obtain ⟨rfl, rfl⟩ := so2 E
          exact g_iret rfl
        · rcases xif E with ⟨h11, E⟩ | ⟨h11, E⟩
          · refine g_tsw (u := 170) rfl (by rw [h11]; decide +kernel) ?_
            refine g_aload rfl rfl ?_
            refine g_iload rfl rfl ?_
            refine g_iload rfl rfl ?_
            obtain ⟨x6, h12, E⟩ := ob E
            refine g_inv2 (dc := 0) rfl (by omega) ty_m (Nat.le_of_ble_eq_true rfl) (fun d hd => tm_at hd v1 v2 S0 _ h12) ?_
            obtain ⟨rfl, rfl⟩ := so2 E
            exact g_iret rfl
          · rcases xif E with ⟨h13, E⟩ | ⟨h13, E⟩
            · refine g_tsw (u := 170) rfl (by rw [h13]; decide +kernel) ?_
              refine g_aload rfl rfl ?_
              refine g_iload rfl rfl ?_
              refine g_iload rfl rfl ?_
              obtain ⟨x7, h14, E⟩ := ob E
              refine g_inv2 (dc := 0) rfl (by omega) ty_m (Nat.le_of_ble_eq_true rfl) (fun d hd => tm_at hd v1 v2 S0 _ h14) ?_
              obtain ⟨rfl, rfl⟩ := so2 E
              exact g_iret rfl
            · rcases xif E with ⟨h15, E⟩ | ⟨h15, E⟩
              · refine g_tsw (u := 170) rfl (by rw [h15]; decide +kernel) ?_
                refine g_aload rfl rfl ?_
                refine g_iload rfl rfl ?_
                refine g_iload rfl rfl ?_
                obtain ⟨x8, h16, E⟩ := ob E
                refine g_inv2 (dc := 0) rfl (by omega) ty_m (Nat.le_of_ble_eq_true rfl) (fun d hd => tm_at hd v1 v2 S0 _ h16) ?_
                obtain ⟨rfl, rfl⟩ := so2 E
                exact g_iret rfl
              · rcases xif E with ⟨h17, E⟩ | ⟨h17, E⟩
                · refine g_tsw (u := 170) rfl (by rw [h17]; decide +kernel) ?_
                  refine g_aload rfl rfl ?_
                  refine g_iload rfl rfl ?_
                  refine g_iload rfl rfl ?_
                  obtain ⟨x9, h18, E⟩ := ob E
                  refine g_inv2 (dc := 0) rfl (by omega) ty_m (Nat.le_of_ble_eq_true rfl) (fun d hd => tm_at hd v1 v2 S0 _ h18) ?_
                  obtain ⟨rfl, rfl⟩ := so2 E
                  exact g_iret rfl
                · rcases xif E with ⟨h19, E⟩ | ⟨h19, E⟩
                  · refine g_tsw (u := 113) rfl (by rw [h19]; decide +kernel) ?_
                    refine g_aload rfl rfl ?_
                    refine g_iload rfl rfl ?_
                    obtain ⟨x10, h20, E⟩ := ob E
                    refine g_inv1 (dc := 1) rfl (by omega) ty_m (Nat.le_of_ble_eq_true rfl) (fun d hd => tm_doing hd v1 S0 _ h20) ?_
                    obtain ⟨rfl, rfl⟩ := so2 E
                    exact g_iret rfl
                  · rcases xif E with ⟨h21, E⟩ | ⟨h21, E⟩
                    · refine g_tsw (u := 119) rfl (by rw [h21]; decide +kernel) ?_
                      refine g_aload rfl rfl ?_
                      refine g_iload rfl rfl ?_
                      refine g_push rfl ?_
                      obtain ⟨x11, h22, E⟩ := ob E
                      refine g_inv2 (dc := 0) rfl (by omega) ty_m (Nat.le_of_ble_eq_true rfl) (fun d hd => tm_at hd v1 7 S0 _ h22) ?_
                      obtain ⟨rfl, rfl⟩ := so2 E
                      exact g_iret rfl
                    · rcases xif E with ⟨h23, E⟩ | ⟨h23, E⟩
                      · refine g_tsw (u := 127) rfl (by rw [h23]; decide +kernel) ?_
                        refine g_aload rfl rfl ?_
                        refine g_iload rfl rfl ?_
                        refine g_push rfl ?_
                        obtain ⟨x12, h24, E⟩ := ob E
                        refine g_inv2 (dc := 0) rfl (by omega) ty_m (Nat.le_of_ble_eq_true rfl) (fun d hd => tm_at hd v1 13 S0 _ h24) ?_
                        obtain ⟨rfl, rfl⟩ := so2 E
                        exact g_iret rfl
                      · rcases xif E with ⟨h25, E⟩ | ⟨h25, E⟩
                        · refine g_tsw (u := 135) rfl (by rw [h25]; decide +kernel) ?_
                          refine g_aload rfl rfl ?_
                          refine g_iload rfl rfl ?_
                          refine g_push rfl ?_
                          obtain ⟨x13, h26, E⟩ := ob E
                          refine g_inv2 (dc := 0) rfl (by omega) ty_m (Nat.le_of_ble_eq_true rfl) (fun d hd => tm_at hd v1 38 S0 _ h26) ?_
                          obtain ⟨rfl, rfl⟩ := so2 E
                          exact g_iret rfl
                        · rcases xif E with ⟨h27, E⟩ | ⟨h27, E⟩
                          · refine g_tsw (u := 143) rfl (by rw [h27]; decide +kernel) ?_
                            refine g_aload rfl rfl ?_
                            refine g_iload rfl rfl ?_
                            refine g_push rfl ?_
                            obtain ⟨x14, h28, E⟩ := ob E
                            refine g_inv2 (dc := 0) rfl (by omega) ty_m (Nat.le_of_ble_eq_true rfl) (fun d hd => tm_at hd v1 51 S0 _ h28) ?_
                            obtain ⟨rfl, rfl⟩ := so2 E
                            exact g_iret rfl
                          · rcases xif E with ⟨h29, E⟩ | ⟨h29, E⟩
                            · refine g_tsw (u := 151) rfl (by rw [h29]; decide +kernel) ?_
                              refine g_aload rfl rfl ?_
                              refine g_iload rfl rfl ?_
                              obtain ⟨x15, h30, E⟩ := ob E
                              refine g_inv1 (dc := 0) rfl (by omega) ty_m (Nat.le_of_ble_eq_true rfl) (fun d hd => tm_timersOf hd v1 S0 _ h30) ?_
                              obtain ⟨rfl, rfl⟩ := so2 E
                              exact g_iret rfl
                            · rcases xif E with ⟨h31, E⟩ | ⟨h31, E⟩
                              · refine g_tsw (u := 157) rfl (by rw [h31]; decide +kernel) ?_
                                refine g_aload rfl rfl ?_
                                refine g_iload rfl rfl ?_
                                refine g_push rfl ?_
                                obtain ⟨x16, S1, h32, E⟩ := ob2 E
                                refine g_inv2 (dc := 1) rfl (by omega) ty_m (Nat.le_of_ble_eq_true rfl) (fun d hd => tm_noted hd v1 0 S0 _ _ h32) ?_
                                obtain ⟨rfl, rfl⟩ := so2 E
                                exact g_iret rfl
                              · rcases xif E with ⟨h33, E⟩ | ⟨h33, E⟩
                                · refine g_tsw (u := 164) rfl (by rw [h33]; decide +kernel) ?_
                                  refine g_aload rfl rfl ?_
                                  refine g_iload rfl rfl ?_
                                  obtain ⟨x17, h34, E⟩ := ob E
                                  refine g_inv1 (dc := 1) rfl (by omega) ty_m (Nat.le_of_ble_eq_true rfl) (fun d hd => tm_childrenOf hd v1 S0 _ h34) ?_
                                  obtain ⟨rfl, rfl⟩ := so2 E
                                  exact g_iret rfl
                                · refine g_tsw (u := 170) rfl (tsw_d (sw_def (n := 13) rfl _ (by decide +kernel) (fc h5 (fc h9 (fc h11 (fc h13 (fc h15 (fc h17 (fc h19 (fc h21 (fc h23 (fc h25 (fc h27 (fc h29 (fc h31 (fc h33 fn)))))))))))))))) ?_
                                  refine g_aload rfl rfl ?_
                                  refine g_iload rfl rfl ?_
                                  refine g_iload rfl rfl ?_
                                  obtain ⟨x18, h35, E⟩ := ob E
                                  refine g_inv2 (dc := 0) rfl (by omega) ty_m (Nat.le_of_ble_eq_true rfl) (fun d hd => tm_at hd v1 v2 S0 _ h35) ?_
                                  obtain ⟨rfl, rfl⟩ := so2 E
                                  exact g_iret rfl
def fm_ordered_50 (k5 : Int32 → Int32 → Int32 → Int32 → Mem → Option (Int32 × Mem)) (v1 : Int32) (v2 : Int32) (v3 : Int32) (v4 : Int32) (S0 : Mem) : Option (Int32 × Mem) := if (S0 697 7) = ((-2)) then (some (v4, S0)) else ((ix v1 6).bind fun i1 => (ald S0 (708 + i1) (2 * v4)).bind fun x1 => if x1 = ((S0 697 7) / 1000) then ((ix v1 6).bind fun i2 => (ald S0 (708 + i2) ((2 * v4) + 1)).bind fun x2 => if x2 = ((irm (S0 697 7) 1000) - 300) then (k5 v1 v2 v3 (v4 + 1) S0) else (some (v4, S0))) else (some (v4, S0)))
set_option maxRecDepth 20000 in
set_option maxHeartbeats 4000000 in
theorem tm_ordered_50 {scr : Nat × (Nat → Int32)} {d : Nat} (hd : 40 ≤ d) {k5 : Int32 → Int32 → Int32 → Int32 → Mem → Option (Int32 × Mem)} (hk5 : ∀ (v1 : Int32) (v2 : Int32) (v3 : Int32) (v4 : Int32) (S0 : Mem), ∀ (rv : Int32) (SR : Mem), k5 v1 v2 v3 v4 S0 = some (rv, SR) → XG scr d 158 5 [(0, .inr (some (some 697))), (1, .inl v1), (2, .inl v2), (3, .inl v3), (4, .inl v4)] [] S0 (some (.inl rv)) SR) (v1 : Int32) (v2 : Int32) (v3 : Int32) (v4 : Int32) (S0 : Mem)  (rv : Int32) (SR : Mem) (E : fm_ordered_50 k5 v1 v2 v3 v4 S0 = some (rv, SR)) : XG scr d 158 50 [(0, .inr (some (some 697))), (1, .inl v1), (2, .inl v2), (3, .inl v3), (4, .inl v4)] [] S0 (some (.inl rv)) SR := by
  unfold fm_ordered_50 at E
  refine g_aload rfl rfl ?_
  refine g_getI rfl ty_m ?_
  refine g_push rfl ?_
  rcases xif E with ⟨h1, E⟩ | ⟨h1, E⟩
  · refine g_iceq_t rfl h1 ?_
    refine g_iload rfl rfl ?_
    obtain ⟨rfl, rfl⟩ := so2 E
    exact g_iret rfl
  · refine g_iceq_f rfl h1 ?_
    refine g_aload rfl rfl ?_
    refine g_getR rfl ty_m (fR_8_15 ty_m) ?_
    refine g_iload rfl rfl ?_
    obtain ⟨i1, h2, E⟩ := ob E
    refine g_aald rfl (by decide) (show K0 707 = .inr (3, 6) by decide +kernel) (by decide) h2 (rA_r h2) ?_
    refine g_push rfl ?_
    refine g_iload rfl rfl ?_
    refine g_imul rfl ?_
    obtain ⟨x1, h3, E⟩ := ob E
    refine g_iald rfl (eT_r h2) h3 ?_
    refine g_aload rfl rfl ?_
    refine g_getI rfl ty_m ?_
    refine g_push rfl ?_
    refine g_idiv rfl (by decide) ?_
    rcases xif E with ⟨h4, E⟩ | ⟨h4, E⟩
    · refine g_icne_t rfl h4 ?_
      refine g_aload rfl rfl ?_
      refine g_getR rfl ty_m (fR_8_15 ty_m) ?_
      refine g_iload rfl rfl ?_
      obtain ⟨i2, h5, E⟩ := ob E
      refine g_aald rfl (by decide) (show K0 707 = .inr (3, 6) by decide +kernel) (by decide) h5 (rA_r h5) ?_
      refine g_push rfl ?_
      refine g_iload rfl rfl ?_
      refine g_imul rfl ?_
      refine g_push rfl ?_
      refine g_iadd rfl ?_
      obtain ⟨x2, h6, E⟩ := ob E
      refine g_iald rfl (eT_r h5) h6 ?_
      refine g_aload rfl rfl ?_
      refine g_getI rfl ty_m ?_
      refine g_push rfl ?_
      refine g_irem rfl (by decide) ?_
      refine g_push rfl ?_
      refine g_isub rfl ?_
      rcases xif E with ⟨h7, E⟩ | ⟨h7, E⟩
      · refine g_iceq_t rfl h7 ?_
        refine g_iinc (L2 := [(4, .inl (v4 + 1)), (0, .inr (some (some 697))), (1, .inl v1), (2, .inl v2), (3, .inl v3)]) rfl rfl rfl ?_
        refine g_goto rfl ?_
        exact g_loc (lsub_cons rfl (lsub_cons rfl (lsub_cons rfl (lsub_cons rfl (lsub_cons rfl lsub_nil))))) (hk5 v1 v2 v3 (v4 + 1) S0 _ _ E)
      · refine g_iceq_f rfl h7 ?_
        refine g_iload rfl rfl ?_
        obtain ⟨rfl, rfl⟩ := so2 E
        exact g_iret rfl
    · refine g_icne_f rfl h4 ?_
      refine g_iload rfl rfl ?_
      obtain ⟨rfl, rfl⟩ := so2 E
      exact g_iret rfl
def fm_ordered_17b (k5 : Int32 → Int32 → Int32 → Int32 → Mem → Option (Int32 × Mem)) (k17 : Int32 → Int32 → Int32 → Int32 → Mem → Option (Int32 × Mem)) (v1 : Int32) (v2 : Int32) (v3 : Int32) (v4 : Int32) (S0 : Mem) : Option (Int32 × Mem) := if (S0 697 7) = ((-2)) then (if 200 ≤ v3 then (fm_ordered_50 k5 v1 v2 v3 v4 S0) else ((fm_hasStep S0).bind fun x1 => if x1 = 0 then (fm_ordered_50 k5 v1 v2 v3 v4 S0) else ((fm_step S0).bind fun S1 => k17 v1 v2 (v3 + 1) v4 S1))) else (fm_ordered_50 k5 v1 v2 v3 v4 S0)
set_option maxRecDepth 20000 in
set_option maxHeartbeats 4000000 in
theorem tm_ordered_17b {scr : Nat × (Nat → Int32)} {d : Nat} (hd : 40 ≤ d) {k5 : Int32 → Int32 → Int32 → Int32 → Mem → Option (Int32 × Mem)} (hk5 : ∀ (v1 : Int32) (v2 : Int32) (v3 : Int32) (v4 : Int32) (S0 : Mem), ∀ (rv : Int32) (SR : Mem), k5 v1 v2 v3 v4 S0 = some (rv, SR) → XG scr d 158 5 [(0, .inr (some (some 697))), (1, .inl v1), (2, .inl v2), (3, .inl v3), (4, .inl v4)] [] S0 (some (.inl rv)) SR) {k17 : Int32 → Int32 → Int32 → Int32 → Mem → Option (Int32 × Mem)} (hk17 : ∀ (v1 : Int32) (v2 : Int32) (v3 : Int32) (v4 : Int32) (S0 : Mem), ∀ (rv : Int32) (SR : Mem), k17 v1 v2 v3 v4 S0 = some (rv, SR) → XG scr d 158 17 [(0, .inr (some (some 697))), (1, .inl v1), (2, .inl v2), (3, .inl v3), (4, .inl v4)] [] S0 (some (.inl rv)) SR) (v1 : Int32) (v2 : Int32) (v3 : Int32) (v4 : Int32) (S0 : Mem)  (rv : Int32) (SR : Mem) (E : fm_ordered_17b k5 k17 v1 v2 v3 v4 S0 = some (rv, SR)) : XG scr d 158 17 [(0, .inr (some (some 697))), (1, .inl v1), (2, .inl v2), (3, .inl v3), (4, .inl v4)] [] S0 (some (.inl rv)) SR := by
  unfold fm_ordered_17b at E
  refine g_aload rfl rfl ?_
  refine g_getI rfl ty_m ?_
  refine g_push rfl ?_
  rcases xif E with ⟨h1, E⟩ | ⟨h1, E⟩
  · refine g_icne_t rfl h1 ?_
    refine g_iload rfl rfl ?_
    refine g_push rfl ?_
    rcases xif E with ⟨h2, E⟩ | ⟨h2, E⟩
    · refine g_icge_t rfl h2 ?_
      exact g_loc (lsub_cons rfl (lsub_cons rfl (lsub_cons rfl (lsub_cons rfl (lsub_cons rfl lsub_nil))))) (tm_ordered_50 hd hk5 v1 v2 v3 v4 S0 _ _ E)
    · refine g_icge_f rfl h2 ?_
      refine g_aload rfl rfl ?_
      obtain ⟨x1, h3, E⟩ := ob E
      refine g_inv0 (dc := 3) rfl (by omega) ty_m (Nat.le_of_ble_eq_true rfl) (fun d hd => tm_hasStep hd S0 _ h3) ?_
      rcases xif E with ⟨h4, E⟩ | ⟨h4, E⟩
      · refine g_ifeq_t rfl h4 ?_
        exact g_loc (lsub_cons rfl (lsub_cons rfl (lsub_cons rfl (lsub_cons rfl (lsub_cons rfl lsub_nil))))) (tm_ordered_50 hd hk5 v1 v2 v3 v4 S0 _ _ E)
      · refine g_ifeq_f rfl h4 ?_
        refine g_aload rfl rfl ?_
        obtain ⟨S1, h5, E⟩ := ob E
        refine g_inv0 (dc := 39) rfl (by omega) ty_m (Nat.le_of_ble_eq_true rfl) (fun d hd => tm_step hd S0 _ h5) ?_
        refine g_iinc (L2 := [(3, .inl (v3 + 1)), (0, .inr (some (some 697))), (1, .inl v1), (2, .inl v2), (4, .inl v4)]) rfl rfl rfl ?_
        refine g_goto rfl ?_
        exact g_loc (lsub_cons rfl (lsub_cons rfl (lsub_cons rfl (lsub_cons rfl (lsub_cons rfl lsub_nil))))) (hk17 v1 v2 (v3 + 1) v4 S1 _ _ E)
  · refine g_icne_f rfl h1 ?_
    exact g_loc (lsub_cons rfl (lsub_cons rfl (lsub_cons rfl (lsub_cons rfl (lsub_cons rfl lsub_nil))))) (tm_ordered_50 hd hk5 v1 v2 v3 v4 S0 _ _ E)
def fm_ordered_17 (k5 : Int32 → Int32 → Int32 → Int32 → Mem → Option (Int32 × Mem)) : Nat → Int32 → Int32 → Int32 → Int32 → Mem → Option (Int32 × Mem)
  | 0 => fun _ _ _ _ _ => none
  | n + 1 => fm_ordered_17b  k5 (fm_ordered_17 k5 n)
set_option maxRecDepth 20000 in
set_option maxHeartbeats 4000000 in
theorem tm_ordered_17 {scr : Nat × (Nat → Int32)} {d : Nat} (hd : 40 ≤ d) {k5 : Int32 → Int32 → Int32 → Int32 → Mem → Option (Int32 × Mem)} (hk5 : ∀ (v1 : Int32) (v2 : Int32) (v3 : Int32) (v4 : Int32) (S0 : Mem), ∀ (rv : Int32) (SR : Mem), k5 v1 v2 v3 v4 S0 = some (rv, SR) → XG scr d 158 5 [(0, .inr (some (some 697))), (1, .inl v1), (2, .inl v2), (3, .inl v3), (4, .inl v4)] [] S0 (some (.inl rv)) SR) : ∀ (n : Nat) (v1 : Int32) (v2 : Int32) (v3 : Int32) (v4 : Int32) (S0 : Mem), ∀ (rv : Int32) (SR : Mem), fm_ordered_17 k5 n v1 v2 v3 v4 S0 = some (rv, SR) → XG scr d 158 17 [(0, .inr (some (some 697))), (1, .inl v1), (2, .inl v2), (3, .inl v3), (4, .inl v4)] [] S0 (some (.inl rv)) SR
  | 0, v1, v2, v3, v4, S0, rv, SR, E => nn E
  | n + 1, v1, v2, v3, v4, S0, rv, SR, E => tm_ordered_17b hd  hk5 (tm_ordered_17 hd hk5 n) v1 v2 v3 v4 S0  rv SR E
def fm_ordered_5b (k5 : Int32 → Int32 → Int32 → Int32 → Mem → Option (Int32 × Mem)) (v1 : Int32) (v2 : Int32) (v3 : Int32) (v4 : Int32) (S0 : Mem) : Option (Int32 × Mem) := if v2 ≤ v4 then (some ((-2), S0)) else ((some (up2 S0 697 7 ((-2)))).bind fun S1 => fm_ordered_17 k5 LF v1 v2 v3 v4 S1)
set_option maxRecDepth 20000 in
set_option maxHeartbeats 4000000 in
theorem tm_ordered_5b {scr : Nat × (Nat → Int32)} {d : Nat} (hd : 40 ≤ d) {k5 : Int32 → Int32 → Int32 → Int32 → Mem → Option (Int32 × Mem)} (hk5 : ∀ (v1 : Int32) (v2 : Int32) (v3 : Int32) (v4 : Int32) (S0 : Mem), ∀ (rv : Int32) (SR : Mem), k5 v1 v2 v3 v4 S0 = some (rv, SR) → XG scr d 158 5 [(0, .inr (some (some 697))), (1, .inl v1), (2, .inl v2), (3, .inl v3), (4, .inl v4)] [] S0 (some (.inl rv)) SR) (v1 : Int32) (v2 : Int32) (v3 : Int32) (v4 : Int32) (S0 : Mem)  (rv : Int32) (SR : Mem) (E : fm_ordered_5b k5 v1 v2 v3 v4 S0 = some (rv, SR)) : XG scr d 158 5 [(0, .inr (some (some 697))), (1, .inl v1), (2, .inl v2), (3, .inl v3), (4, .inl v4)] [] S0 (some (.inl rv)) SR := by
  unfold fm_ordered_5b at E
  refine g_iload rfl rfl ?_
  refine g_iload rfl rfl ?_
  rcases xif E with ⟨h1, E⟩ | ⟨h1, E⟩
  · refine g_icge_t rfl h1 ?_
    refine g_push rfl ?_
    obtain ⟨rfl, rfl⟩ := so2 E
    exact g_iret rfl
  · refine g_icge_f rfl h1 ?_
    refine g_aload rfl rfl ?_
    refine g_push rfl ?_
    obtain ⟨S1, hS1, E⟩ := ob E
    refine g_putI rfl ty_m hS1 ?_
    exact g_loc (lsub_cons rfl (lsub_cons rfl (lsub_cons rfl (lsub_cons rfl (lsub_cons rfl lsub_nil))))) (tm_ordered_17 hd hk5 LF v1 v2 v3 v4 S1 _ _ E)
def fm_ordered_5  : Nat → Int32 → Int32 → Int32 → Int32 → Mem → Option (Int32 × Mem)
  | 0 => fun _ _ _ _ _ => none
  | n + 1 => fm_ordered_5b  (fm_ordered_5  n)
set_option maxRecDepth 20000 in
set_option maxHeartbeats 4000000 in
theorem tm_ordered_5 {scr : Nat × (Nat → Int32)} {d : Nat} (hd : 40 ≤ d)  : ∀ (n : Nat) (v1 : Int32) (v2 : Int32) (v3 : Int32) (v4 : Int32) (S0 : Mem), ∀ (rv : Int32) (SR : Mem), fm_ordered_5  n v1 v2 v3 v4 S0 = some (rv, SR) → XG scr d 158 5 [(0, .inr (some (some 697))), (1, .inl v1), (2, .inl v2), (3, .inl v3), (4, .inl v4)] [] S0 (some (.inl rv)) SR
  | 0, v1, v2, v3, v4, S0, rv, SR, E => nn E
  | n + 1, v1, v2, v3, v4, S0, rv, SR, E => tm_ordered_5b hd  (tm_ordered_5 hd  n) v1 v2 v3 v4 S0  rv SR E
def fm_ordered (v1 : Int32) (v2 : Int32) (S0 : Mem) : Option (Int32 × Mem) := fm_ordered_5 LF v1 v2 0 0 S0
set_option maxRecDepth 20000 in
set_option maxHeartbeats 4000000 in
theorem tm_ordered {scr : Nat × (Nat → Int32)} {d : Nat} (hd : 40 ≤ d) (v1 : Int32) (v2 : Int32) (S0 : Mem)  (rv : Int32) (SR : Mem) (E : fm_ordered  v1 v2 S0 = some (rv, SR)) : XG scr d 158 0 [(0, .inr (some (some 697))), (1, .inl v1), (2, .inl v2)] [] S0 (some (.inl rv)) SR := by
  unfold fm_ordered at E
  refine g_push rfl ?_
  refine g_istore (L2 := [(3, .inl 0), (0, .inr (some (some 697))), (1, .inl v1), (2, .inl v2)]) rfl rfl ?_
  refine g_push rfl ?_
  refine g_istore (L2 := [(4, .inl 0), (3, .inl 0), (0, .inr (some (some 697))), (1, .inl v1), (2, .inl v2)]) rfl rfl ?_
  exact g_loc (lsub_cons rfl (lsub_cons rfl (lsub_cons rfl (lsub_cons rfl (lsub_cons rfl lsub_nil))))) (tm_ordered_5 hd LF v1 v2 0 0 S0 _ _ E)
def fm_order (v1 : Int32) (v2 : Int32) (S0 : Mem) : Option (Int32 × Mem) := (fm_isHandle v1 S0).bind fun x1 => if x1 = 0 then (some ((-1), S0)) else ((ald S0 704 v1).bind fun x2 => if x2 = 2 then (if 0 ≤ v2 then ((ald S0 706 v1).bind fun x3 => if v2 ≤ (x3 / 2) then ((fm_take 698 699 S0).bind fun S1 => bd (fm_ordered v1 v2 S1) fun x4 S2 => (fm_take 699 698 S2).bind fun S3 => some (x4, S3)) else (some ((-13), S0))) else (some ((-14), S0))) else ((ald S0 704 v1).bind fun x5 => if x5 = 0 then (some ((-11), S0)) else (some ((-12), S0))))
set_option maxRecDepth 20000 in
set_option maxHeartbeats 4000000 in
theorem tm_order {scr : Nat × (Nat → Int32)} {d : Nat} (hd : 41 ≤ d) (v1 : Int32) (v2 : Int32) (S0 : Mem)  (rv : Int32) (SR : Mem) (E : fm_order  v1 v2 S0 = some (rv, SR)) : XG scr d 157 0 [(0, .inr (some (some 697))), (1, .inl v1), (2, .inl v2)] [] S0 (some (.inl rv)) SR := by
  unfold fm_order at E
  refine g_aload rfl rfl ?_
  refine g_iload rfl rfl ?_
  obtain ⟨x1, h1, E⟩ := ob E
  refine g_inv1 (dc := 1) rfl (by omega) ty_m (Nat.le_of_ble_eq_true rfl) (fun d hd => tm_isHandle hd v1 S0 _ h1) ?_
  rcases xif E with ⟨h2, E⟩ | ⟨h2, E⟩
  · refine g_ifne_t rfl h2 ?_
    refine g_push rfl ?_
    obtain ⟨rfl, rfl⟩ := so2 E
    exact g_iret rfl
  · refine g_ifne_f rfl h2 ?_
    refine g_aload rfl rfl ?_
    refine g_getR rfl ty_m (fR_8_12 ty_m) ?_
    refine g_iload rfl rfl ?_
    obtain ⟨x2, h3, E⟩ := ob E
    refine g_iald rfl fT_8_12 h3 ?_
    refine g_push rfl ?_
    rcases xif E with ⟨h4, E⟩ | ⟨h4, E⟩
    · refine g_iceq_t rfl h4 ?_
      refine g_iload rfl rfl ?_
      rcases xif E with ⟨h5, E⟩ | ⟨h5, E⟩
      · refine g_ifge_t rfl h5 ?_
        refine g_iload rfl rfl ?_
        refine g_aload rfl rfl ?_
        refine g_getR rfl ty_m (fR_8_14 ty_m) ?_
        refine g_iload rfl rfl ?_
        obtain ⟨x3, h6, E⟩ := ob E
        refine g_iald rfl fT_8_14 h6 ?_
        refine g_push rfl ?_
        refine g_idiv rfl (by decide) ?_
        rcases xif E with ⟨h7, E⟩ | ⟨h7, E⟩
        · refine g_icle_t rfl h7 ?_
          refine g_aload rfl rfl ?_
          refine g_getR rfl ty_m (fR_8_0 ty_m) ?_
          refine g_aload rfl rfl ?_
          refine g_getR rfl ty_m (fR_8_1 ty_m) ?_
          obtain ⟨S1, h8, E⟩ := ob E
          refine g_invS2 (dc := 0) rfl (by omega) (Nat.le_of_ble_eq_true rfl) (fun d hd => tm_take hd 698 699 S0 fT_8_0 fT_8_1 _ h8) ?_
          refine g_aload rfl rfl ?_
          refine g_iload rfl rfl ?_
          refine g_iload rfl rfl ?_
          obtain ⟨x4, S2, h9, E⟩ := ob2 E
          refine g_inv2 (dc := 40) rfl (by omega) ty_m (Nat.le_of_ble_eq_true rfl) (fun d hd => tm_ordered hd v1 v2 S1 _ _ h9) ?_
          refine g_istore (L2 := [(3, .inl x4), (0, .inr (some (some 697))), (1, .inl v1), (2, .inl v2)]) rfl rfl ?_
          refine g_aload rfl rfl ?_
          refine g_getR rfl ty_m (fR_8_1 ty_m) ?_
          refine g_aload rfl rfl ?_
          refine g_getR rfl ty_m (fR_8_0 ty_m) ?_
          obtain ⟨S3, h10, E⟩ := ob E
          refine g_invS2 (dc := 0) rfl (by omega) (Nat.le_of_ble_eq_true rfl) (fun d hd => tm_take hd 699 698 S2 fT_8_1 fT_8_0 _ h10) ?_
          refine g_iload rfl rfl ?_
          obtain ⟨rfl, rfl⟩ := so2 E
          exact g_iret rfl
        · refine g_icle_f rfl h7 ?_
          refine g_push rfl ?_
          obtain ⟨rfl, rfl⟩ := so2 E
          exact g_iret rfl
      · refine g_ifge_f rfl h5 ?_
        refine g_push rfl ?_
        obtain ⟨rfl, rfl⟩ := so2 E
        exact g_iret rfl
    · refine g_iceq_f rfl h4 ?_
      refine g_aload rfl rfl ?_
      refine g_getR rfl ty_m (fR_8_12 ty_m) ?_
      refine g_iload rfl rfl ?_
      obtain ⟨x5, h11, E⟩ := ob E
      refine g_iald rfl fT_8_12 h11 ?_
      rcases xif E with ⟨h12, E⟩ | ⟨h12, E⟩
      · refine g_ifne_t rfl h12 ?_
        refine g_push rfl ?_
        refine g_goto rfl ?_
        obtain ⟨rfl, rfl⟩ := so2 E
        exact g_iret rfl
      · refine g_ifne_f rfl h12 ?_
        refine g_push rfl ?_
        obtain ⟨rfl, rfl⟩ := so2 E
        exact g_iret rfl
def fm_put (v1 : Int32) (v2 : Int32) (v3 : Int32) (S0 : Mem) : Option (Int32 × Mem) := (fm_isHandle v1 S0).bind fun x1 => if x1 = 0 then (some ((-2000000000), S0)) else ((ald S0 704 v1).bind fun x2 => if x2 = 2 then ((ald S0 706 v1).bind fun x3 => (fm_in v2 0 (x3 - 1) S0).bind fun x4 => if x4 = 0 then (some ((-2000000000), S0)) else ((ix v1 6).bind fun i1 => (ald S0 (708 + i1) v2).bind fun x5 => (ix v1 6).bind fun i2 => (ast S0 (708 + i2) v2 v3).bind fun S1 => some (x5, S1))) else (some ((-2000000000), S0)))
set_option maxRecDepth 20000 in
set_option maxHeartbeats 4000000 in
theorem tm_put {scr : Nat × (Nat → Int32)} {d : Nat} (hd : 2 ≤ d) (v1 : Int32) (v2 : Int32) (v3 : Int32) (S0 : Mem)  (rv : Int32) (SR : Mem) (E : fm_put  v1 v2 v3 S0 = some (rv, SR)) : XG scr d 160 0 [(0, .inr (some (some 697))), (1, .inl v1), (2, .inl v2), (3, .inl v3)] [] S0 (some (.inl rv)) SR := by
  unfold fm_put at E
  refine g_aload rfl rfl ?_
  refine g_iload rfl rfl ?_
  obtain ⟨x1, h1, E⟩ := ob E
  refine g_inv1 (dc := 1) rfl (by omega) ty_m (Nat.le_of_ble_eq_true rfl) (fun d hd => tm_isHandle hd v1 S0 _ h1) ?_
  rcases xif E with ⟨h2, E⟩ | ⟨h2, E⟩
  · refine g_ifeq_t rfl h2 ?_
    refine g_push rfl ?_
    obtain ⟨rfl, rfl⟩ := so2 E
    exact g_iret rfl
  · refine g_ifeq_f rfl h2 ?_
    refine g_aload rfl rfl ?_
    refine g_getR rfl ty_m (fR_8_12 ty_m) ?_
    refine g_iload rfl rfl ?_
    obtain ⟨x2, h3, E⟩ := ob E
    refine g_iald rfl fT_8_12 h3 ?_
    refine g_push rfl ?_
    rcases xif E with ⟨h4, E⟩ | ⟨h4, E⟩
    · refine g_icne_t rfl h4 ?_
      refine g_iload rfl rfl ?_
      refine g_push rfl ?_
      refine g_aload rfl rfl ?_
      refine g_getR rfl ty_m (fR_8_14 ty_m) ?_
      refine g_iload rfl rfl ?_
      obtain ⟨x3, h5, E⟩ := ob E
      refine g_iald rfl fT_8_14 h5 ?_
      refine g_push rfl ?_
      refine g_isub rfl ?_
      obtain ⟨x4, h6, E⟩ := ob E
      refine g_invS3 (dc := 0) rfl (by omega) (Nat.le_of_ble_eq_true rfl) (fun d hd => tm_in hd v2 0 (x3 - 1) S0 _ h6) ?_
      rcases xif E with ⟨h7, E⟩ | ⟨h7, E⟩
      · refine g_ifne_t rfl h7 ?_
        refine g_push rfl ?_
        obtain ⟨rfl, rfl⟩ := so2 E
        exact g_iret rfl
      · refine g_ifne_f rfl h7 ?_
        refine g_aload rfl rfl ?_
        refine g_getR rfl ty_m (fR_8_15 ty_m) ?_
        refine g_iload rfl rfl ?_
        obtain ⟨i1, h8, E⟩ := ob E
        refine g_aald rfl (by decide) (show K0 707 = .inr (3, 6) by decide +kernel) (by decide) h8 (rA_r h8) ?_
        refine g_iload rfl rfl ?_
        obtain ⟨x5, h9, E⟩ := ob E
        refine g_iald rfl (eT_r h8) h9 ?_
        refine g_istore (L2 := [(4, .inl x5), (0, .inr (some (some 697))), (1, .inl v1), (2, .inl v2), (3, .inl v3)]) rfl rfl ?_
        refine g_aload rfl rfl ?_
        refine g_getR rfl ty_m (fR_8_15 ty_m) ?_
        refine g_iload rfl rfl ?_
        obtain ⟨i2, h10, E⟩ := ob E
        refine g_aald rfl (by decide) (show K0 707 = .inr (3, 6) by decide +kernel) (by decide) h10 (rA_r h10) ?_
        refine g_iload rfl rfl ?_
        refine g_iload rfl rfl ?_
        obtain ⟨S1, h11, E⟩ := ob E
        refine g_iast rfl (eT_r h10) h11 ?_
        refine g_iload rfl rfl ?_
        obtain ⟨rfl, rfl⟩ := so2 E
        exact g_iret rfl
    · refine g_icne_f rfl h4 ?_
      refine g_push rfl ?_
      obtain ⟨rfl, rfl⟩ := so2 E
      exact g_iret rfl
def fm_quiet_37  (v1 : Int32) (S0 : Mem) : Option (Int32 × Mem) := (fm_hasStep S0).bind fun x1 => if x1 = 0 then ((fm_take 699 698 S0).bind fun S1 => some (v1, S1)) else ((fm_take 699 698 S0).bind fun S2 => some ((-2), S2))
set_option maxRecDepth 20000 in
set_option maxHeartbeats 4000000 in
theorem tm_quiet_37 {scr : Nat × (Nat → Int32)} {d : Nat} (hd : 40 ≤ d)  (v1 : Int32) (S0 : Mem)  (rv : Int32) (SR : Mem) (E : fm_quiet_37 v1 S0 = some (rv, SR)) : XG scr d 161 37 [(0, .inr (some (some 697))), (1, .inl v1)] [] S0 (some (.inl rv)) SR := by
  unfold fm_quiet_37 at E
  refine g_aload rfl rfl ?_
  obtain ⟨x1, h1, E⟩ := ob E
  refine g_inv0 (dc := 3) rfl (by omega) ty_m (Nat.le_of_ble_eq_true rfl) (fun d hd => tm_hasStep hd S0 _ h1) ?_
  rcases xif E with ⟨h2, E⟩ | ⟨h2, E⟩
  · refine g_ifne_t rfl h2 ?_
    refine g_push rfl ?_
    refine g_goto rfl ?_
    refine g_istore (L2 := [(2, .inl 1), (0, .inr (some (some 697))), (1, .inl v1)]) rfl rfl ?_
    refine g_aload rfl rfl ?_
    refine g_getR rfl ty_m (fR_8_1 ty_m) ?_
    refine g_aload rfl rfl ?_
    refine g_getR rfl ty_m (fR_8_0 ty_m) ?_
    obtain ⟨S1, h3, E⟩ := ob E
    refine g_invS2 (dc := 0) rfl (by omega) (Nat.le_of_ble_eq_true rfl) (fun d hd => tm_take hd 699 698 S0 fT_8_1 fT_8_0 _ h3) ?_
    refine g_iload rfl rfl ?_
    refine g_ifeq_f rfl (by decide) ?_
    refine g_iload rfl rfl ?_
    refine g_goto rfl ?_
    obtain ⟨rfl, rfl⟩ := so2 E
    exact g_iret rfl
  · refine g_ifne_f rfl h2 ?_
    refine g_push rfl ?_
    refine g_istore (L2 := [(2, .inl 0), (0, .inr (some (some 697))), (1, .inl v1)]) rfl rfl ?_
    refine g_aload rfl rfl ?_
    refine g_getR rfl ty_m (fR_8_1 ty_m) ?_
    refine g_aload rfl rfl ?_
    refine g_getR rfl ty_m (fR_8_0 ty_m) ?_
    obtain ⟨S2, h4, E⟩ := ob E
    refine g_invS2 (dc := 0) rfl (by omega) (Nat.le_of_ble_eq_true rfl) (fun d hd => tm_take hd 699 698 S0 fT_8_1 fT_8_0 _ h4) ?_
    refine g_iload rfl rfl ?_
    refine g_ifeq_t rfl (by decide) ?_
    refine g_push rfl ?_
    obtain ⟨rfl, rfl⟩ := so2 E
    exact g_iret rfl
def fm_quiet_13b (k13 : Int32 → Mem → Option (Int32 × Mem)) (v1 : Int32) (S0 : Mem) : Option (Int32 × Mem) := (fm_hasStep S0).bind fun x1 => if x1 = 0 then (fm_quiet_37 v1 S0) else (if 200 ≤ v1 then (fm_quiet_37 v1 S0) else ((fm_step S0).bind fun S1 => k13 (v1 + 1) S1))
set_option maxRecDepth 20000 in
set_option maxHeartbeats 4000000 in
theorem tm_quiet_13b {scr : Nat × (Nat → Int32)} {d : Nat} (hd : 40 ≤ d) {k13 : Int32 → Mem → Option (Int32 × Mem)} (hk13 : ∀ (v1 : Int32) (S0 : Mem), ∀ (rv : Int32) (SR : Mem), k13 v1 S0 = some (rv, SR) → XG scr d 161 13 [(0, .inr (some (some 697))), (1, .inl v1)] [] S0 (some (.inl rv)) SR) (v1 : Int32) (S0 : Mem)  (rv : Int32) (SR : Mem) (E : fm_quiet_13b k13 v1 S0 = some (rv, SR)) : XG scr d 161 13 [(0, .inr (some (some 697))), (1, .inl v1)] [] S0 (some (.inl rv)) SR := by
  unfold fm_quiet_13b at E
  refine g_aload rfl rfl ?_
  obtain ⟨x1, h1, E⟩ := ob E
  refine g_inv0 (dc := 3) rfl (by omega) ty_m (Nat.le_of_ble_eq_true rfl) (fun d hd => tm_hasStep hd S0 _ h1) ?_
  rcases xif E with ⟨h2, E⟩ | ⟨h2, E⟩
  · refine g_ifeq_t rfl h2 ?_
    exact g_loc (lsub_cons rfl (lsub_cons rfl lsub_nil)) (tm_quiet_37 hd v1 S0 _ _ E)
  · refine g_ifeq_f rfl h2 ?_
    refine g_iload rfl rfl ?_
    refine g_push rfl ?_
    rcases xif E with ⟨h3, E⟩ | ⟨h3, E⟩
    · refine g_icge_t rfl h3 ?_
      exact g_loc (lsub_cons rfl (lsub_cons rfl lsub_nil)) (tm_quiet_37 hd v1 S0 _ _ E)
    · refine g_icge_f rfl h3 ?_
      refine g_aload rfl rfl ?_
      obtain ⟨S1, h4, E⟩ := ob E
      refine g_inv0 (dc := 39) rfl (by omega) ty_m (Nat.le_of_ble_eq_true rfl) (fun d hd => tm_step hd S0 _ h4) ?_
      refine g_iinc (L2 := [(1, .inl (v1 + 1)), (0, .inr (some (some 697)))]) rfl rfl rfl ?_
      refine g_goto rfl ?_
      exact g_loc (lsub_cons rfl (lsub_cons rfl lsub_nil)) (hk13 (v1 + 1) S1 _ _ E)
def fm_quiet_13  : Nat → Int32 → Mem → Option (Int32 × Mem)
  | 0 => fun _ _ => none
  | n + 1 => fm_quiet_13b  (fm_quiet_13  n)
set_option maxRecDepth 20000 in
set_option maxHeartbeats 4000000 in
theorem tm_quiet_13 {scr : Nat × (Nat → Int32)} {d : Nat} (hd : 40 ≤ d)  : ∀ (n : Nat) (v1 : Int32) (S0 : Mem), ∀ (rv : Int32) (SR : Mem), fm_quiet_13  n v1 S0 = some (rv, SR) → XG scr d 161 13 [(0, .inr (some (some 697))), (1, .inl v1)] [] S0 (some (.inl rv)) SR
  | 0, v1, S0, rv, SR, E => nn E
  | n + 1, v1, S0, rv, SR, E => tm_quiet_13b hd  (tm_quiet_13 hd  n) v1 S0  rv SR E
def fm_quiet  (S0 : Mem) : Option (Int32 × Mem) := (fm_take 698 699 S0).bind fun S1 => fm_quiet_13 LF 0 S1
set_option maxRecDepth 20000 in
set_option maxHeartbeats 4000000 in
theorem tm_quiet {scr : Nat × (Nat → Int32)} {d : Nat} (hd : 40 ≤ d)  (S0 : Mem)  (rv : Int32) (SR : Mem) (E : fm_quiet   S0 = some (rv, SR)) : XG scr d 161 0 [(0, .inr (some (some 697)))] [] S0 (some (.inl rv)) SR := by
  unfold fm_quiet at E
  refine g_aload rfl rfl ?_
  refine g_getR rfl ty_m (fR_8_0 ty_m) ?_
  refine g_aload rfl rfl ?_
  refine g_getR rfl ty_m (fR_8_1 ty_m) ?_
  obtain ⟨S1, h1, E⟩ := ob E
  refine g_invS2 (dc := 0) rfl (by omega) (Nat.le_of_ble_eq_true rfl) (fun d hd => tm_take hd 698 699 S0 fT_8_0 fT_8_1 _ h1) ?_
  refine g_push rfl ?_
  refine g_istore (L2 := [(1, .inl 0), (0, .inr (some (some 697)))]) rfl rfl ?_
  exact g_loc (lsub_cons rfl (lsub_cons rfl lsub_nil)) (tm_quiet_13 hd LF 0 S1 _ _ E)
def fm_reach_87b (k78 : Int32 → Int32 → Int32 → Mem → Option (Int32 × Mem)) (k87 : Int32 → Int32 → Int32 → Int32 → Mem → Option (Int32 × Mem)) (v2 : Int32) (v3 : Int32) (v4 : Int32) (v5 : Int32) (S0 : Mem) : Option (Int32 × Mem) := (ald S0 698 924).bind fun x1 => if x1 ≤ v5 then (k78 v2 v3 (v4 + 1) S0) else ((ald S0 715 v5).bind fun x2 => if 0 ≤ x2 then (k87 v2 v3 v4 (v5 + 1) S0) else ((fm_isLive v5 S0).bind fun x3 => if x3 = 0 then (k87 v2 v3 v4 (v5 + 1) S0) else ((ald S0 714 v4).bind fun x4 => (fm_isNext v5 x4 S0).bind fun x5 => if x5 = 0 then (k87 v2 v3 v4 (v5 + 1) S0) else ((ald S0 714 v4).bind fun x6 => (ald S0 715 x6).bind fun x7 => (ast S0 715 v5 (x7 + 1)).bind fun S1 => (ast S1 714 v3 v5).bind fun S2 => k87 v2 (v3 + 1) v4 (v5 + 1) S2))))
set_option maxRecDepth 20000 in
set_option maxHeartbeats 4000000 in
theorem tm_reach_87b {scr : Nat × (Nat → Int32)} {d : Nat} (hd : 2 ≤ d) {k78 : Int32 → Int32 → Int32 → Mem → Option (Int32 × Mem)} (hk78 : ∀ (v2 : Int32) (v3 : Int32) (v4 : Int32) (S0 : Mem), ∀ (rv : Int32) (SR : Mem), k78 v2 v3 v4 S0 = some (rv, SR) → XG scr d 162 78 [(0, .inr (some (some 697))), (2, .inl v2), (3, .inl v3), (4, .inl v4)] [] S0 (some (.inl rv)) SR) {k87 : Int32 → Int32 → Int32 → Int32 → Mem → Option (Int32 × Mem)} (hk87 : ∀ (v2 : Int32) (v3 : Int32) (v4 : Int32) (v5 : Int32) (S0 : Mem), ∀ (rv : Int32) (SR : Mem), k87 v2 v3 v4 v5 S0 = some (rv, SR) → XG scr d 162 87 [(0, .inr (some (some 697))), (2, .inl v2), (3, .inl v3), (4, .inl v4), (5, .inl v5)] [] S0 (some (.inl rv)) SR) (v2 : Int32) (v3 : Int32) (v4 : Int32) (v5 : Int32) (S0 : Mem)  (rv : Int32) (SR : Mem) (E : fm_reach_87b k78 k87 v2 v3 v4 v5 S0 = some (rv, SR)) : XG scr d 162 87 [(0, .inr (some (some 697))), (2, .inl v2), (3, .inl v3), (4, .inl v4), (5, .inl v5)] [] S0 (some (.inl rv)) SR := by
  unfold fm_reach_87b at E
  refine g_iload rfl rfl ?_
  refine g_aload rfl rfl ?_
  refine g_getR rfl ty_m (fR_8_0 ty_m) ?_
  refine g_push rfl ?_
  obtain ⟨x1, h1, E⟩ := ob E
  refine g_iald rfl fT_8_0 h1 ?_
  rcases xif E with ⟨h2, E⟩ | ⟨h2, E⟩
  · refine g_icge_t rfl h2 ?_
    refine g_iinc (L2 := [(4, .inl (v4 + 1)), (0, .inr (some (some 697))), (2, .inl v2), (3, .inl v3), (5, .inl v5)]) rfl rfl rfl ?_
    refine g_goto rfl ?_
    exact g_loc (lsub_cons rfl (lsub_cons rfl (lsub_cons rfl (lsub_cons rfl lsub_nil)))) (hk78 v2 v3 (v4 + 1) S0 _ _ E)
  · refine g_icge_f rfl h2 ?_
    refine g_aload rfl rfl ?_
    refine g_getR rfl ty_m (fR_8_17 ty_m) ?_
    refine g_iload rfl rfl ?_
    obtain ⟨x2, h3, E⟩ := ob E
    refine g_iald rfl fT_8_17 h3 ?_
    rcases xif E with ⟨h4, E⟩ | ⟨h4, E⟩
    · refine g_ifge_t rfl h4 ?_
      refine g_iinc (L2 := [(5, .inl (v5 + 1)), (0, .inr (some (some 697))), (2, .inl v2), (3, .inl v3), (4, .inl v4)]) rfl rfl rfl ?_
      refine g_goto rfl ?_
      exact g_loc (lsub_cons rfl (lsub_cons rfl (lsub_cons rfl (lsub_cons rfl (lsub_cons rfl lsub_nil))))) (hk87 v2 v3 v4 (v5 + 1) S0 _ _ E)
    · refine g_ifge_f rfl h4 ?_
      refine g_aload rfl rfl ?_
      refine g_iload rfl rfl ?_
      obtain ⟨x3, h5, E⟩ := ob E
      refine g_inv1 (dc := 1) rfl (by omega) ty_m (Nat.le_of_ble_eq_true rfl) (fun d hd => tm_isLive hd v5 S0 _ h5) ?_
      rcases xif E with ⟨h6, E⟩ | ⟨h6, E⟩
      · refine g_ifeq_t rfl h6 ?_
        refine g_iinc (L2 := [(5, .inl (v5 + 1)), (0, .inr (some (some 697))), (2, .inl v2), (3, .inl v3), (4, .inl v4)]) rfl rfl rfl ?_
        refine g_goto rfl ?_
        exact g_loc (lsub_cons rfl (lsub_cons rfl (lsub_cons rfl (lsub_cons rfl (lsub_cons rfl lsub_nil))))) (hk87 v2 v3 v4 (v5 + 1) S0 _ _ E)
      · refine g_ifeq_f rfl h6 ?_
        refine g_aload rfl rfl ?_
        refine g_iload rfl rfl ?_
        refine g_aload rfl rfl ?_
        refine g_getR rfl ty_m (fR_8_16 ty_m) ?_
        refine g_iload rfl rfl ?_
        obtain ⟨x4, h7, E⟩ := ob E
        refine g_iald rfl fT_8_16 h7 ?_
        obtain ⟨x5, h8, E⟩ := ob E
        refine g_inv2 (dc := 1) rfl (by omega) ty_m (Nat.le_of_ble_eq_true rfl) (fun d hd => tm_isNext hd v5 x4 S0 _ h8) ?_
        rcases xif E with ⟨h9, E⟩ | ⟨h9, E⟩
        · refine g_ifeq_t rfl h9 ?_
          refine g_iinc (L2 := [(5, .inl (v5 + 1)), (0, .inr (some (some 697))), (2, .inl v2), (3, .inl v3), (4, .inl v4)]) rfl rfl rfl ?_
          refine g_goto rfl ?_
          exact g_loc (lsub_cons rfl (lsub_cons rfl (lsub_cons rfl (lsub_cons rfl (lsub_cons rfl lsub_nil))))) (hk87 v2 v3 v4 (v5 + 1) S0 _ _ E)
        · refine g_ifeq_f rfl h9 ?_
          refine g_aload rfl rfl ?_
          refine g_getR rfl ty_m (fR_8_17 ty_m) ?_
          refine g_iload rfl rfl ?_
          refine g_aload rfl rfl ?_
          refine g_getR rfl ty_m (fR_8_17 ty_m) ?_
          refine g_aload rfl rfl ?_
          refine g_getR rfl ty_m (fR_8_16 ty_m) ?_
          refine g_iload rfl rfl ?_
          obtain ⟨x6, h10, E⟩ := ob E
          refine g_iald rfl fT_8_16 h10 ?_
          obtain ⟨x7, h11, E⟩ := ob E
          refine g_iald rfl fT_8_17 h11 ?_
          refine g_push rfl ?_
          refine g_iadd rfl ?_
          obtain ⟨S1, h12, E⟩ := ob E
          refine g_iast rfl fT_8_17 h12 ?_
          refine g_aload rfl rfl ?_
          refine g_getR rfl ty_m (fR_8_16 ty_m) ?_
          refine g_iload rfl rfl ?_
          refine g_iinc (L2 := [(3, .inl (v3 + 1)), (0, .inr (some (some 697))), (2, .inl v2), (4, .inl v4), (5, .inl v5)]) rfl rfl rfl ?_
          refine g_iload rfl rfl ?_
          obtain ⟨S2, h13, E⟩ := ob E
          refine g_iast rfl fT_8_16 h13 ?_
          refine g_iinc (L2 := [(5, .inl (v5 + 1)), (3, .inl (v3 + 1)), (0, .inr (some (some 697))), (2, .inl v2), (4, .inl v4)]) rfl rfl rfl ?_
          refine g_goto rfl ?_
          exact g_loc (lsub_cons rfl (lsub_cons rfl (lsub_cons rfl (lsub_cons rfl (lsub_cons rfl lsub_nil))))) (hk87 v2 (v3 + 1) v4 (v5 + 1) S2 _ _ E)
def fm_reach_87 (k78 : Int32 → Int32 → Int32 → Mem → Option (Int32 × Mem)) : Nat → Int32 → Int32 → Int32 → Int32 → Mem → Option (Int32 × Mem)
  | 0 => fun _ _ _ _ _ => none
  | n + 1 => fm_reach_87b  k78 (fm_reach_87 k78 n)
set_option maxRecDepth 20000 in
set_option maxHeartbeats 4000000 in
theorem tm_reach_87 {scr : Nat × (Nat → Int32)} {d : Nat} (hd : 2 ≤ d) {k78 : Int32 → Int32 → Int32 → Mem → Option (Int32 × Mem)} (hk78 : ∀ (v2 : Int32) (v3 : Int32) (v4 : Int32) (S0 : Mem), ∀ (rv : Int32) (SR : Mem), k78 v2 v3 v4 S0 = some (rv, SR) → XG scr d 162 78 [(0, .inr (some (some 697))), (2, .inl v2), (3, .inl v3), (4, .inl v4)] [] S0 (some (.inl rv)) SR) : ∀ (n : Nat) (v2 : Int32) (v3 : Int32) (v4 : Int32) (v5 : Int32) (S0 : Mem), ∀ (rv : Int32) (SR : Mem), fm_reach_87 k78 n v2 v3 v4 v5 S0 = some (rv, SR) → XG scr d 162 87 [(0, .inr (some (some 697))), (2, .inl v2), (3, .inl v3), (4, .inl v4), (5, .inl v5)] [] S0 (some (.inl rv)) SR
  | 0, v2, v3, v4, v5, S0, rv, SR, E => nn E
  | n + 1, v2, v3, v4, v5, S0, rv, SR, E => tm_reach_87b hd  hk78 (tm_reach_87 hd hk78 n) v2 v3 v4 v5 S0  rv SR E
def fm_reach_78b (k78 : Int32 → Int32 → Int32 → Mem → Option (Int32 × Mem)) (v2 : Int32) (v3 : Int32) (v4 : Int32) (S0 : Mem) : Option (Int32 × Mem) := if v3 ≤ v4 then ((ald S0 715 v2).bind fun x1 => some (x1, S0)) else (fm_reach_87 k78 LF v2 v3 v4 0 S0)
set_option maxRecDepth 20000 in
set_option maxHeartbeats 4000000 in
theorem tm_reach_78b {scr : Nat × (Nat → Int32)} {d : Nat} (hd : 2 ≤ d) {k78 : Int32 → Int32 → Int32 → Mem → Option (Int32 × Mem)} (hk78 : ∀ (v2 : Int32) (v3 : Int32) (v4 : Int32) (S0 : Mem), ∀ (rv : Int32) (SR : Mem), k78 v2 v3 v4 S0 = some (rv, SR) → XG scr d 162 78 [(0, .inr (some (some 697))), (2, .inl v2), (3, .inl v3), (4, .inl v4)] [] S0 (some (.inl rv)) SR) (v2 : Int32) (v3 : Int32) (v4 : Int32) (S0 : Mem)  (rv : Int32) (SR : Mem) (E : fm_reach_78b k78 v2 v3 v4 S0 = some (rv, SR)) : XG scr d 162 78 [(0, .inr (some (some 697))), (2, .inl v2), (3, .inl v3), (4, .inl v4)] [] S0 (some (.inl rv)) SR := by
  unfold fm_reach_78b at E
  refine g_iload rfl rfl ?_
  refine g_iload rfl rfl ?_
  rcases xif E with ⟨h1, E⟩ | ⟨h1, E⟩
  · refine g_icge_t rfl h1 ?_
    refine g_aload rfl rfl ?_
    refine g_getR rfl ty_m (fR_8_17 ty_m) ?_
    refine g_iload rfl rfl ?_
    obtain ⟨x1, h2, E⟩ := ob E
    refine g_iald rfl fT_8_17 h2 ?_
    obtain ⟨rfl, rfl⟩ := so2 E
    exact g_iret rfl
  · refine g_icge_f rfl h1 ?_
    refine g_push rfl ?_
    refine g_istore (L2 := [(5, .inl 0), (0, .inr (some (some 697))), (2, .inl v2), (3, .inl v3), (4, .inl v4)]) rfl rfl ?_
    exact g_loc (lsub_cons rfl (lsub_cons rfl (lsub_cons rfl (lsub_cons rfl (lsub_cons rfl lsub_nil))))) (tm_reach_87 hd hk78 LF v2 v3 v4 0 S0 _ _ E)
def fm_reach_78  : Nat → Int32 → Int32 → Int32 → Mem → Option (Int32 × Mem)
  | 0 => fun _ _ _ _ => none
  | n + 1 => fm_reach_78b  (fm_reach_78  n)
set_option maxRecDepth 20000 in
set_option maxHeartbeats 4000000 in
theorem tm_reach_78 {scr : Nat × (Nat → Int32)} {d : Nat} (hd : 2 ≤ d)  : ∀ (n : Nat) (v2 : Int32) (v3 : Int32) (v4 : Int32) (S0 : Mem), ∀ (rv : Int32) (SR : Mem), fm_reach_78  n v2 v3 v4 S0 = some (rv, SR) → XG scr d 162 78 [(0, .inr (some (some 697))), (2, .inl v2), (3, .inl v3), (4, .inl v4)] [] S0 (some (.inl rv)) SR
  | 0, v2, v3, v4, S0, rv, SR, E => nn E
  | n + 1, v2, v3, v4, S0, rv, SR, E => tm_reach_78b hd  (tm_reach_78 hd  n) v2 v3 v4 S0  rv SR E
def fm_reach_39b (k39 : Int32 → Int32 → Int32 → Mem → Option (Int32 × Mem)) (v1 : Int32) (v2 : Int32) (v3 : Int32) (S0 : Mem) : Option (Int32 × Mem) := if 12 ≤ v3 then ((ast S0 715 v1 0).bind fun S1 => (ast S1 714 0 v1).bind fun S2 => fm_reach_78 LF v2 1 0 S2) else ((ast S0 715 v3 ((-2))).bind fun S3 => k39 v1 v2 (v3 + 1) S3)
set_option maxRecDepth 20000 in
set_option maxHeartbeats 4000000 in
theorem tm_reach_39b {scr : Nat × (Nat → Int32)} {d : Nat} (hd : 2 ≤ d) {k39 : Int32 → Int32 → Int32 → Mem → Option (Int32 × Mem)} (hk39 : ∀ (v1 : Int32) (v2 : Int32) (v3 : Int32) (S0 : Mem), ∀ (rv : Int32) (SR : Mem), k39 v1 v2 v3 S0 = some (rv, SR) → XG scr d 162 39 [(0, .inr (some (some 697))), (1, .inl v1), (2, .inl v2), (3, .inl v3)] [] S0 (some (.inl rv)) SR) (v1 : Int32) (v2 : Int32) (v3 : Int32) (S0 : Mem)  (rv : Int32) (SR : Mem) (E : fm_reach_39b k39 v1 v2 v3 S0 = some (rv, SR)) : XG scr d 162 39 [(0, .inr (some (some 697))), (1, .inl v1), (2, .inl v2), (3, .inl v3)] [] S0 (some (.inl rv)) SR := by
  unfold fm_reach_39b at E
  refine g_iload rfl rfl ?_
  refine g_push rfl ?_
  rcases xif E with ⟨h1, E⟩ | ⟨h1, E⟩
  · refine g_icge_t rfl h1 ?_
    refine g_aload rfl rfl ?_
    refine g_getR rfl ty_m (fR_8_17 ty_m) ?_
    refine g_iload rfl rfl ?_
    refine g_push rfl ?_
    obtain ⟨S1, h2, E⟩ := ob E
    refine g_iast rfl fT_8_17 h2 ?_
    refine g_aload rfl rfl ?_
    refine g_getR rfl ty_m (fR_8_16 ty_m) ?_
    refine g_push rfl ?_
    refine g_iload rfl rfl ?_
    obtain ⟨S2, h3, E⟩ := ob E
    refine g_iast rfl fT_8_16 h3 ?_
    refine g_push rfl ?_
    refine g_istore (L2 := [(3, .inl 1), (0, .inr (some (some 697))), (1, .inl v1), (2, .inl v2)]) rfl rfl ?_
    refine g_push rfl ?_
    refine g_istore (L2 := [(4, .inl 0), (3, .inl 1), (0, .inr (some (some 697))), (1, .inl v1), (2, .inl v2)]) rfl rfl ?_
    exact g_loc (lsub_cons rfl (lsub_cons rfl (lsub_cons rfl (lsub_cons rfl lsub_nil)))) (tm_reach_78 hd LF v2 1 0 S2 _ _ E)
  · refine g_icge_f rfl h1 ?_
    refine g_aload rfl rfl ?_
    refine g_getR rfl ty_m (fR_8_17 ty_m) ?_
    refine g_iload rfl rfl ?_
    refine g_push rfl ?_
    obtain ⟨S3, h4, E⟩ := ob E
    refine g_iast rfl fT_8_17 h4 ?_
    refine g_iinc (L2 := [(3, .inl (v3 + 1)), (0, .inr (some (some 697))), (1, .inl v1), (2, .inl v2)]) rfl rfl rfl ?_
    refine g_goto rfl ?_
    exact g_loc (lsub_cons rfl (lsub_cons rfl (lsub_cons rfl (lsub_cons rfl lsub_nil)))) (hk39 v1 v2 (v3 + 1) S3 _ _ E)
def fm_reach_39  : Nat → Int32 → Int32 → Int32 → Mem → Option (Int32 × Mem)
  | 0 => fun _ _ _ _ => none
  | n + 1 => fm_reach_39b  (fm_reach_39  n)
set_option maxRecDepth 20000 in
set_option maxHeartbeats 4000000 in
theorem tm_reach_39 {scr : Nat × (Nat → Int32)} {d : Nat} (hd : 2 ≤ d)  : ∀ (n : Nat) (v1 : Int32) (v2 : Int32) (v3 : Int32) (S0 : Mem), ∀ (rv : Int32) (SR : Mem), fm_reach_39  n v1 v2 v3 S0 = some (rv, SR) → XG scr d 162 39 [(0, .inr (some (some 697))), (1, .inl v1), (2, .inl v2), (3, .inl v3)] [] S0 (some (.inl rv)) SR
  | 0, v1, v2, v3, S0, rv, SR, E => nn E
  | n + 1, v1, v2, v3, S0, rv, SR, E => tm_reach_39b hd  (tm_reach_39 hd  n) v1 v2 v3 S0  rv SR E
def fm_reach (v1 : Int32) (v2 : Int32) (S0 : Mem) : Option (Int32 × Mem) := (fm_isActor v1 S0).bind fun x1 => if x1 = 0 then (some ((-1), S0)) else ((fm_isActor v2 S0).bind fun x2 => if x2 = 0 then (some ((-1), S0)) else ((fm_isLive v1 S0).bind fun x3 => if x3 = 0 then (some ((-2), S0)) else ((fm_isLive v2 S0).bind fun x4 => if x4 = 0 then (some ((-2), S0)) else (fm_reach_39 LF v1 v2 0 S0))))
set_option maxRecDepth 20000 in
set_option maxHeartbeats 4000000 in
theorem tm_reach {scr : Nat × (Nat → Int32)} {d : Nat} (hd : 2 ≤ d) (v1 : Int32) (v2 : Int32) (S0 : Mem)  (rv : Int32) (SR : Mem) (E : fm_reach  v1 v2 S0 = some (rv, SR)) : XG scr d 162 0 [(0, .inr (some (some 697))), (1, .inl v1), (2, .inl v2)] [] S0 (some (.inl rv)) SR := by
  unfold fm_reach at E
  refine g_aload rfl rfl ?_
  refine g_iload rfl rfl ?_
  obtain ⟨x1, h1, E⟩ := ob E
  refine g_inv1 (dc := 1) rfl (by omega) ty_m (Nat.le_of_ble_eq_true rfl) (fun d hd => tm_isActor hd v1 S0 _ h1) ?_
  rcases xif E with ⟨h2, E⟩ | ⟨h2, E⟩
  · refine g_ifeq_t rfl h2 ?_
    refine g_push rfl ?_
    obtain ⟨rfl, rfl⟩ := so2 E
    exact g_iret rfl
  · refine g_ifeq_f rfl h2 ?_
    refine g_aload rfl rfl ?_
    refine g_iload rfl rfl ?_
    obtain ⟨x2, h3, E⟩ := ob E
    refine g_inv1 (dc := 1) rfl (by omega) ty_m (Nat.le_of_ble_eq_true rfl) (fun d hd => tm_isActor hd v2 S0 _ h3) ?_
    rcases xif E with ⟨h4, E⟩ | ⟨h4, E⟩
    · refine g_ifne_t rfl h4 ?_
      refine g_push rfl ?_
      obtain ⟨rfl, rfl⟩ := so2 E
      exact g_iret rfl
    · refine g_ifne_f rfl h4 ?_
      refine g_aload rfl rfl ?_
      refine g_iload rfl rfl ?_
      obtain ⟨x3, h5, E⟩ := ob E
      refine g_inv1 (dc := 1) rfl (by omega) ty_m (Nat.le_of_ble_eq_true rfl) (fun d hd => tm_isLive hd v1 S0 _ h5) ?_
      rcases xif E with ⟨h6, E⟩ | ⟨h6, E⟩
      · refine g_ifeq_t rfl h6 ?_
        refine g_push rfl ?_
        obtain ⟨rfl, rfl⟩ := so2 E
        exact g_iret rfl
      · refine g_ifeq_f rfl h6 ?_
        refine g_aload rfl rfl ?_
        refine g_iload rfl rfl ?_
        obtain ⟨x4, h7, E⟩ := ob E
        refine g_inv1 (dc := 1) rfl (by omega) ty_m (Nat.le_of_ble_eq_true rfl) (fun d hd => tm_isLive hd v2 S0 _ h7) ?_
        rcases xif E with ⟨h8, E⟩ | ⟨h8, E⟩
        · refine g_ifne_t rfl h8 ?_
          refine g_push rfl ?_
          obtain ⟨rfl, rfl⟩ := so2 E
          exact g_iret rfl
        · refine g_ifne_f rfl h8 ?_
          refine g_push rfl ?_
          refine g_istore (L2 := [(3, .inl 0), (0, .inr (some (some 697))), (1, .inl v1), (2, .inl v2)]) rfl rfl ?_
          exact g_loc (lsub_cons rfl (lsub_cons rfl (lsub_cons rfl (lsub_cons rfl lsub_nil)))) (tm_reach_39 hd LF v1 v2 0 S0 _ _ E)
def fm_row_39b (k39 : Int32 → Int32 → Mem → Option (Int32 × Mem)) (v1 : Int32) (v3 : Int32) (S0 : Mem) : Option (Int32 × Mem) := if 60 ≤ v3 then (some (1, S0)) else ((ix v1 6).bind fun i1 => (ast S0 (708 + i1) v3 0).bind fun S1 => k39 v1 (v3 + 1) S1)
set_option maxRecDepth 20000 in
set_option maxHeartbeats 4000000 in
theorem tm_row_39b {scr : Nat × (Nat → Int32)} {d : Nat} (hd : 2 ≤ d) {k39 : Int32 → Int32 → Mem → Option (Int32 × Mem)} (hk39 : ∀ (v1 : Int32) (v3 : Int32) (S0 : Mem), ∀ (rv : Int32) (SR : Mem), k39 v1 v3 S0 = some (rv, SR) → XG scr d 164 39 [(0, .inr (some (some 697))), (1, .inl v1), (3, .inl v3)] [] S0 (some (.inl rv)) SR) (v1 : Int32) (v3 : Int32) (S0 : Mem)  (rv : Int32) (SR : Mem) (E : fm_row_39b k39 v1 v3 S0 = some (rv, SR)) : XG scr d 164 39 [(0, .inr (some (some 697))), (1, .inl v1), (3, .inl v3)] [] S0 (some (.inl rv)) SR := by
  unfold fm_row_39b at E
  refine g_iload rfl rfl ?_
  refine g_push rfl ?_
  rcases xif E with ⟨h1, E⟩ | ⟨h1, E⟩
  · refine g_icge_t rfl h1 ?_
    refine g_push rfl ?_
    obtain ⟨rfl, rfl⟩ := so2 E
    exact g_iret rfl
  · refine g_icge_f rfl h1 ?_
    refine g_aload rfl rfl ?_
    refine g_getR rfl ty_m (fR_8_15 ty_m) ?_
    refine g_iload rfl rfl ?_
    obtain ⟨i1, h2, E⟩ := ob E
    refine g_aald rfl (by decide) (show K0 707 = .inr (3, 6) by decide +kernel) (by decide) h2 (rA_r h2) ?_
    refine g_iload rfl rfl ?_
    refine g_push rfl ?_
    obtain ⟨S1, h3, E⟩ := ob E
    refine g_iast rfl (eT_r h2) h3 ?_
    refine g_iinc (L2 := [(3, .inl (v3 + 1)), (0, .inr (some (some 697))), (1, .inl v1)]) rfl rfl rfl ?_
    refine g_goto rfl ?_
    exact g_loc (lsub_cons rfl (lsub_cons rfl (lsub_cons rfl lsub_nil))) (hk39 v1 (v3 + 1) S1 _ _ E)
def fm_row_39  : Nat → Int32 → Int32 → Mem → Option (Int32 × Mem)
  | 0 => fun _ _ _ => none
  | n + 1 => fm_row_39b  (fm_row_39  n)
set_option maxRecDepth 20000 in
set_option maxHeartbeats 4000000 in
theorem tm_row_39 {scr : Nat × (Nat → Int32)} {d : Nat} (hd : 2 ≤ d)  : ∀ (n : Nat) (v1 : Int32) (v3 : Int32) (S0 : Mem), ∀ (rv : Int32) (SR : Mem), fm_row_39  n v1 v3 S0 = some (rv, SR) → XG scr d 164 39 [(0, .inr (some (some 697))), (1, .inl v1), (3, .inl v3)] [] S0 (some (.inl rv)) SR
  | 0, v1, v3, S0, rv, SR, E => nn E
  | n + 1, v1, v3, S0, rv, SR, E => tm_row_39b hd  (tm_row_39 hd  n) v1 v3 S0  rv SR E
def fm_row (v1 : Int32) (v2 : Int32) (S0 : Mem) : Option (Int32 × Mem) := (fm_isHandle v1 S0).bind fun x1 => if x1 = 0 then (some ((-1), S0)) else (if v2 ≤ 60 then (if 0 ≤ v2 then ((ast S0 704 v1 2).bind fun S1 => (ast S1 706 v1 v2).bind fun S2 => fm_row_39 LF v1 0 S2) else (some ((-14), S0))) else (some ((-1), S0)))
set_option maxRecDepth 20000 in
set_option maxHeartbeats 4000000 in
theorem tm_row {scr : Nat × (Nat → Int32)} {d : Nat} (hd : 2 ≤ d) (v1 : Int32) (v2 : Int32) (S0 : Mem)  (rv : Int32) (SR : Mem) (E : fm_row  v1 v2 S0 = some (rv, SR)) : XG scr d 164 0 [(0, .inr (some (some 697))), (1, .inl v1), (2, .inl v2)] [] S0 (some (.inl rv)) SR := by
  unfold fm_row at E
  refine g_aload rfl rfl ?_
  refine g_iload rfl rfl ?_
  obtain ⟨x1, h1, E⟩ := ob E
  refine g_inv1 (dc := 1) rfl (by omega) ty_m (Nat.le_of_ble_eq_true rfl) (fun d hd => tm_isHandle hd v1 S0 _ h1) ?_
  rcases xif E with ⟨h2, E⟩ | ⟨h2, E⟩
  · refine g_ifeq_t rfl h2 ?_
    refine g_push rfl ?_
    obtain ⟨rfl, rfl⟩ := so2 E
    exact g_iret rfl
  · refine g_ifeq_f rfl h2 ?_
    refine g_iload rfl rfl ?_
    refine g_push rfl ?_
    rcases xif E with ⟨h3, E⟩ | ⟨h3, E⟩
    · refine g_icle_t rfl h3 ?_
      refine g_iload rfl rfl ?_
      rcases xif E with ⟨h4, E⟩ | ⟨h4, E⟩
      · refine g_ifge_t rfl h4 ?_
        refine g_aload rfl rfl ?_
        refine g_getR rfl ty_m (fR_8_12 ty_m) ?_
        refine g_iload rfl rfl ?_
        refine g_push rfl ?_
        obtain ⟨S1, h5, E⟩ := ob E
        refine g_iast rfl fT_8_12 h5 ?_
        refine g_aload rfl rfl ?_
        refine g_getR rfl ty_m (fR_8_14 ty_m) ?_
        refine g_iload rfl rfl ?_
        refine g_iload rfl rfl ?_
        obtain ⟨S2, h6, E⟩ := ob E
        refine g_iast rfl fT_8_14 h6 ?_
        refine g_push rfl ?_
        refine g_istore (L2 := [(3, .inl 0), (0, .inr (some (some 697))), (1, .inl v1), (2, .inl v2)]) rfl rfl ?_
        exact g_loc (lsub_cons rfl (lsub_cons rfl (lsub_cons rfl lsub_nil))) (tm_row_39 hd LF v1 0 S2 _ _ E)
      · refine g_ifge_f rfl h4 ?_
        refine g_push rfl ?_
        obtain ⟨rfl, rfl⟩ := so2 E
        exact g_iret rfl
    · refine g_icle_f rfl h3 ?_
      refine g_push rfl ?_
      obtain ⟨rfl, rfl⟩ := so2 E
      exact g_iret rfl
def fm_script_41b (k41 : Int32 → Int32 → Mem → Option (Int32 × Mem)) (v1 : Int32) (v2 : Int32) (S0 : Mem) : Option (Int32 × Mem) := if v2 = 0 then ((some (up2 S0 697 11 0)).bind fun S1 => if v2 = 0 then ((fm_take 700 698 S1).bind fun S2 => some (((-2000)) - (v1 - 1), S2)) else (some (v1, S1))) else (if (S0 697 11) ≤ (S0 697 19) then ((some (up2 S0 697 11 0)).bind fun S3 => if v2 = 0 then ((fm_take 700 698 S3).bind fun S4 => some (((-2000)) - (v1 - 1), S4)) else (some (v1, S3))) else (if v1 ≤ 0 then ((some (up2 S0 697 19 ((S0 697 19) + 0))).bind fun S5 => bd (fm_line S5) fun x1 S6 => bd (fm_does x1 S6) fun x2 S7 => k41 (v1 + 1) x2 S7) else ((some (up2 S0 697 19 ((S0 697 19) + 1))).bind fun S8 => bd (fm_line S8) fun x3 S9 => bd (fm_does x3 S9) fun x4 S10 => k41 (v1 + 1) x4 S10)))
set_option maxRecDepth 20000 in
set_option maxHeartbeats 4000000 in
theorem tm_script_41b {scr : Nat × (Nat → Int32)} {d : Nat} (hd : 43 ≤ d) {k41 : Int32 → Int32 → Mem → Option (Int32 × Mem)} (hk41 : ∀ (v1 : Int32) (v2 : Int32) (S0 : Mem), ∀ (rv : Int32) (SR : Mem), k41 v1 v2 S0 = some (rv, SR) → XG scr d 167 41 [(0, .inr (some (some 697))), (1, .inl v1), (2, .inl v2)] [] S0 (some (.inl rv)) SR) (v1 : Int32) (v2 : Int32) (S0 : Mem)  (rv : Int32) (SR : Mem) (E : fm_script_41b k41 v1 v2 S0 = some (rv, SR)) : XG scr d 167 41 [(0, .inr (some (some 697))), (1, .inl v1), (2, .inl v2)] [] S0 (some (.inl rv)) SR := by
  unfold fm_script_41b at E
  refine g_iload rfl rfl ?_
  rcases xif E with ⟨h1, E⟩ | ⟨h1, E⟩
  · refine g_ifeq_t rfl h1 ?_
    refine g_aload rfl rfl ?_
    refine g_push rfl ?_
    obtain ⟨S1, hS1, E⟩ := ob E
    refine g_putI rfl ty_m hS1 ?_
    refine g_iload rfl rfl ?_
    rcases xif E with ⟨h2, E⟩ | ⟨h2, E⟩
    · refine g_ifne_t rfl h2 ?_
      refine g_aload rfl rfl ?_
      refine g_getR rfl ty_m (fR_8_2 ty_m) ?_
      refine g_aload rfl rfl ?_
      refine g_getR rfl ty_m (fR_8_0 ty_m) ?_
      obtain ⟨S2, h3, E⟩ := ob E
      refine g_invS2 (dc := 0) rfl (by omega) (Nat.le_of_ble_eq_true rfl) (fun d hd => tm_take hd 700 698 S1 fT_8_2 fT_8_0 _ h3) ?_
      refine g_push rfl ?_
      refine g_iload rfl rfl ?_
      refine g_push rfl ?_
      refine g_isub rfl ?_
      refine g_isub rfl ?_
      obtain ⟨rfl, rfl⟩ := so2 E
      exact g_iret rfl
    · refine g_ifne_f rfl h2 ?_
      refine g_iload rfl rfl ?_
      obtain ⟨rfl, rfl⟩ := so2 E
      exact g_iret rfl
  · refine g_ifeq_f rfl h1 ?_
    refine g_aload rfl rfl ?_
    refine g_getI rfl ty_m ?_
    refine g_aload rfl rfl ?_
    refine g_getI rfl ty_m ?_
    rcases xif E with ⟨h4, E⟩ | ⟨h4, E⟩
    · refine g_icge_t rfl h4 ?_
      refine g_aload rfl rfl ?_
      refine g_push rfl ?_
      obtain ⟨S3, hS3, E⟩ := ob E
      refine g_putI rfl ty_m hS3 ?_
      refine g_iload rfl rfl ?_
      rcases xif E with ⟨h5, E⟩ | ⟨h5, E⟩
      · refine g_ifne_t rfl h5 ?_
        refine g_aload rfl rfl ?_
        refine g_getR rfl ty_m (fR_8_2 ty_m) ?_
        refine g_aload rfl rfl ?_
        refine g_getR rfl ty_m (fR_8_0 ty_m) ?_
        obtain ⟨S4, h6, E⟩ := ob E
        refine g_invS2 (dc := 0) rfl (by omega) (Nat.le_of_ble_eq_true rfl) (fun d hd => tm_take hd 700 698 S3 fT_8_2 fT_8_0 _ h6) ?_
        refine g_push rfl ?_
        refine g_iload rfl rfl ?_
        refine g_push rfl ?_
        refine g_isub rfl ?_
        refine g_isub rfl ?_
        obtain ⟨rfl, rfl⟩ := so2 E
        exact g_iret rfl
      · refine g_ifne_f rfl h5 ?_
        refine g_iload rfl rfl ?_
        obtain ⟨rfl, rfl⟩ := so2 E
        exact g_iret rfl
    · refine g_icge_f rfl h4 ?_
      refine g_aload rfl rfl ?_
      refine g_dup rfl ?_
      refine g_getI rfl ty_m ?_
      refine g_iload rfl rfl ?_
      rcases xif E with ⟨h7, E⟩ | ⟨h7, E⟩
      · refine g_ifle_t rfl h7 ?_
        refine g_push rfl ?_
        refine g_iadd rfl ?_
        obtain ⟨S5, hS5, E⟩ := ob E
        refine g_putI rfl ty_m hS5 ?_
        refine g_aload rfl rfl ?_
        refine g_aload rfl rfl ?_
        obtain ⟨x1, S6, h8, E⟩ := ob2 E
        refine g_inv0 (dc := 4) rfl (by omega) ty_m (Nat.le_of_ble_eq_true rfl) (fun d hd => tm_line hd S5 _ _ h8) ?_
        obtain ⟨x2, S7, h9, E⟩ := ob2 E
        refine g_inv1 (dc := 42) rfl (by omega) ty_m (Nat.le_of_ble_eq_true rfl) (fun d hd => tm_does hd x1 S6 _ _ h9) ?_
        refine g_istore (L2 := [(2, .inl x2), (0, .inr (some (some 697))), (1, .inl v1)]) rfl rfl ?_
        refine g_iinc (L2 := [(1, .inl (v1 + 1)), (2, .inl x2), (0, .inr (some (some 697)))]) rfl rfl rfl ?_
        refine g_goto rfl ?_
        exact g_loc (lsub_cons rfl (lsub_cons rfl (lsub_cons rfl lsub_nil))) (hk41 (v1 + 1) x2 S7 _ _ E)
      · refine g_ifle_f rfl h7 ?_
        refine g_push rfl ?_
        refine g_goto rfl ?_
        refine g_iadd rfl ?_
        obtain ⟨S8, hS8, E⟩ := ob E
        refine g_putI rfl ty_m hS8 ?_
        refine g_aload rfl rfl ?_
        refine g_aload rfl rfl ?_
        obtain ⟨x3, S9, h10, E⟩ := ob2 E
        refine g_inv0 (dc := 4) rfl (by omega) ty_m (Nat.le_of_ble_eq_true rfl) (fun d hd => tm_line hd S8 _ _ h10) ?_
        obtain ⟨x4, S10, h11, E⟩ := ob2 E
        refine g_inv1 (dc := 42) rfl (by omega) ty_m (Nat.le_of_ble_eq_true rfl) (fun d hd => tm_does hd x3 S9 _ _ h11) ?_
        refine g_istore (L2 := [(2, .inl x4), (0, .inr (some (some 697))), (1, .inl v1)]) rfl rfl ?_
        refine g_iinc (L2 := [(1, .inl (v1 + 1)), (2, .inl x4), (0, .inr (some (some 697)))]) rfl rfl rfl ?_
        refine g_goto rfl ?_
        exact g_loc (lsub_cons rfl (lsub_cons rfl (lsub_cons rfl lsub_nil))) (hk41 (v1 + 1) x4 S10 _ _ E)
def fm_script_41  : Nat → Int32 → Int32 → Mem → Option (Int32 × Mem)
  | 0 => fun _ _ _ => none
  | n + 1 => fm_script_41b  (fm_script_41  n)
set_option maxRecDepth 20000 in
set_option maxHeartbeats 4000000 in
theorem tm_script_41 {scr : Nat × (Nat → Int32)} {d : Nat} (hd : 43 ≤ d)  : ∀ (n : Nat) (v1 : Int32) (v2 : Int32) (S0 : Mem), ∀ (rv : Int32) (SR : Mem), fm_script_41  n v1 v2 S0 = some (rv, SR) → XG scr d 167 41 [(0, .inr (some (some 697))), (1, .inl v1), (2, .inl v2)] [] S0 (some (.inl rv)) SR
  | 0, v1, v2, S0, rv, SR, E => nn E
  | n + 1, v1, v2, S0, rv, SR, E => tm_script_41b hd  (tm_script_41 hd  n) v1 v2 S0  rv SR E
def fm_script  (S0 : Mem) : Option (Int32 × Mem) := bd (fm_isForm S0) fun x1 S1 => if x1 = 0 then ((some (up2 S1 697 11 0)).bind fun S2 => some (((-1000)) - (S2 697 20), S2)) else ((fm_take 698 700 S1).bind fun S3 => (some (up2 S3 697 19 0)).bind fun S4 => fm_script_41 LF 0 1 S4)
set_option maxRecDepth 20000 in
set_option maxHeartbeats 4000000 in
theorem tm_script {scr : Nat × (Nat → Int32)} {d : Nat} (hd : 43 ≤ d)  (S0 : Mem)  (rv : Int32) (SR : Mem) (E : fm_script   S0 = some (rv, SR)) : XG scr d 167 0 [(0, .inr (some (some 697)))] [] S0 (some (.inl rv)) SR := by
  unfold fm_script at E
  refine g_aload rfl rfl ?_
  obtain ⟨x1, S1, h1, E⟩ := ob2 E
  refine g_inv0 (dc := 5) rfl (by omega) ty_m (Nat.le_of_ble_eq_true rfl) (fun d hd => tm_isForm hd S0 _ _ h1) ?_
  rcases xif E with ⟨h2, E⟩ | ⟨h2, E⟩
  · refine g_ifne_t rfl h2 ?_
    refine g_aload rfl rfl ?_
    refine g_push rfl ?_
    obtain ⟨S2, hS2, E⟩ := ob E
    refine g_putI rfl ty_m hS2 ?_
    refine g_push rfl ?_
    refine g_aload rfl rfl ?_
    refine g_getI rfl ty_m ?_
    refine g_isub rfl ?_
    obtain ⟨rfl, rfl⟩ := so2 E
    exact g_iret rfl
  · refine g_ifne_f rfl h2 ?_
    refine g_aload rfl rfl ?_
    refine g_getR rfl ty_m (fR_8_0 ty_m) ?_
    refine g_aload rfl rfl ?_
    refine g_getR rfl ty_m (fR_8_2 ty_m) ?_
    obtain ⟨S3, h3, E⟩ := ob E
    refine g_invS2 (dc := 0) rfl (by omega) (Nat.le_of_ble_eq_true rfl) (fun d hd => tm_take hd 698 700 S1 fT_8_0 fT_8_2 _ h3) ?_
    refine g_aload rfl rfl ?_
    refine g_push rfl ?_
    obtain ⟨S4, hS4, E⟩ := ob E
    refine g_putI rfl ty_m hS4 ?_
    refine g_push rfl ?_
    refine g_istore (L2 := [(1, .inl 0), (0, .inr (some (some 697)))]) rfl rfl ?_
    refine g_push rfl ?_
    refine g_istore (L2 := [(2, .inl 1), (1, .inl 0), (0, .inr (some (some 697)))]) rfl rfl ?_
    exact g_loc (lsub_cons rfl (lsub_cons rfl (lsub_cons rfl lsub_nil))) (tm_script_41 hd LF 0 1 S4 _ _ E)
def fm_seed (v1 : Int32) (S0 : Mem) : Option (Int32 × Mem) := (ald S0 698 929).bind fun x1 => (ast S0 698 929 v1).bind fun S1 => some (x1, S1)
set_option maxRecDepth 20000 in
set_option maxHeartbeats 4000000 in
theorem tm_seed {scr : Nat × (Nat → Int32)} {d : Nat} (hd : 0 ≤ d) (v1 : Int32) (S0 : Mem)  (rv : Int32) (SR : Mem) (E : fm_seed  v1 S0 = some (rv, SR)) : XG scr d 168 0 [(0, .inr (some (some 697))), (1, .inl v1)] [] S0 (some (.inl rv)) SR := by
  unfold fm_seed at E
  refine g_aload rfl rfl ?_
  refine g_getR rfl ty_m (fR_8_0 ty_m) ?_
  refine g_push rfl ?_
  obtain ⟨x1, h1, E⟩ := ob E
  refine g_iald rfl fT_8_0 h1 ?_
  refine g_istore (L2 := [(2, .inl x1), (0, .inr (some (some 697))), (1, .inl v1)]) rfl rfl ?_
  refine g_aload rfl rfl ?_
  refine g_getR rfl ty_m (fR_8_0 ty_m) ?_
  refine g_push rfl ?_
  refine g_iload rfl rfl ?_
  obtain ⟨S1, h2, E⟩ := ob E
  refine g_iast rfl fT_8_0 h2 ?_
  refine g_iload rfl rfl ?_
  obtain ⟨rfl, rfl⟩ := so2 E
  exact g_iret rfl
def fm_sender (v1 : Int32) (v2 : Int32) (v3 : Int32) (S0 : Mem) : Option Int32 := (fm_isActor v1 S0).bind fun x1 => if x1 = 0 then (some ((-2))) else (if 0 ≤ v2 then ((fm_messageAt v1 v2 v3 S0).bind fun x2 => if 0 ≤ x2 then ((fm_at v1 x2 S0).bind fun x3 => some x3) else (some ((-2)))) else (some ((-2))))
set_option maxRecDepth 20000 in
set_option maxHeartbeats 4000000 in
theorem tm_sender {scr : Nat × (Nat → Int32)} {d : Nat} (hd : 2 ≤ d) (v1 : Int32) (v2 : Int32) (v3 : Int32) (S0 : Mem)  (rv : Int32) (E : fm_sender  v1 v2 v3 S0 = some rv) : XG scr d 170 0 [(0, .inr (some (some 697))), (1, .inl v1), (2, .inl v2), (3, .inl v3)] [] S0 (some (.inl rv)) S0 := by
  unfold fm_sender at E
  refine g_aload rfl rfl ?_
  refine g_iload rfl rfl ?_
  obtain ⟨x1, h1, E⟩ := ob E
  refine g_inv1 (dc := 1) rfl (by omega) ty_m (Nat.le_of_ble_eq_true rfl) (fun d hd => tm_isActor hd v1 S0 _ h1) ?_
  rcases xif E with ⟨h2, E⟩ | ⟨h2, E⟩
  · refine g_ifeq_t rfl h2 ?_
    refine g_push rfl ?_
    obtain rfl := so1 E
    exact g_iret rfl
  · refine g_ifeq_f rfl h2 ?_
    refine g_iload rfl rfl ?_
    rcases xif E with ⟨h3, E⟩ | ⟨h3, E⟩
    · refine g_ifge_t rfl h3 ?_
      refine g_aload rfl rfl ?_
      refine g_iload rfl rfl ?_
      refine g_iload rfl rfl ?_
      refine g_iload rfl rfl ?_
      obtain ⟨x2, h4, E⟩ := ob E
      refine g_inv3 (dc := 1) rfl (by omega) ty_m (Nat.le_of_ble_eq_true rfl) (fun d hd => tm_messageAt hd v1 v2 v3 S0 _ h4) ?_
      refine g_istore (L2 := [(4, .inl x2), (0, .inr (some (some 697))), (1, .inl v1), (2, .inl v2), (3, .inl v3)]) rfl rfl ?_
      refine g_iload rfl rfl ?_
      rcases xif E with ⟨h5, E⟩ | ⟨h5, E⟩
      · refine g_ifge_t rfl h5 ?_
        refine g_aload rfl rfl ?_
        refine g_iload rfl rfl ?_
        refine g_iload rfl rfl ?_
        obtain ⟨x3, h6, E⟩ := ob E
        refine g_inv2 (dc := 0) rfl (by omega) ty_m (Nat.le_of_ble_eq_true rfl) (fun d hd => tm_at hd v1 x2 S0 _ h6) ?_
        obtain rfl := so1 E
        exact g_iret rfl
      · refine g_ifge_f rfl h5 ?_
        refine g_push rfl ?_
        refine g_goto rfl ?_
        obtain rfl := so1 E
        exact g_iret rfl
    · refine g_ifge_f rfl h3 ?_
      refine g_push rfl ?_
      obtain rfl := so1 E
      exact g_iret rfl
def fm_stack (v1 : Int32) (v2 : Int32) (S0 : Mem) : Option Int32 := (fm_isActor v1 S0).bind fun x1 => if x1 = 0 then (some ((-1))) else (if 0 ≤ v2 then ((fm_at v1 7 S0).bind fun x2 => if x2 ≤ v2 then (some ((-2))) else ((fm_at v1 (8 + v2) S0).bind fun x3 => some x3)) else (some ((-1))))
set_option maxRecDepth 20000 in
set_option maxHeartbeats 4000000 in
theorem tm_stack {scr : Nat × (Nat → Int32)} {d : Nat} (hd : 2 ≤ d) (v1 : Int32) (v2 : Int32) (S0 : Mem)  (rv : Int32) (E : fm_stack  v1 v2 S0 = some rv) : XG scr d 173 0 [(0, .inr (some (some 697))), (1, .inl v1), (2, .inl v2)] [] S0 (some (.inl rv)) S0 := by
  unfold fm_stack at E
  refine g_aload rfl rfl ?_
  refine g_iload rfl rfl ?_
  obtain ⟨x1, h1, E⟩ := ob E
  refine g_inv1 (dc := 1) rfl (by omega) ty_m (Nat.le_of_ble_eq_true rfl) (fun d hd => tm_isActor hd v1 S0 _ h1) ?_
  rcases xif E with ⟨h2, E⟩ | ⟨h2, E⟩
  · refine g_ifeq_t rfl h2 ?_
    refine g_push rfl ?_
    obtain rfl := so1 E
    exact g_iret rfl
  · refine g_ifeq_f rfl h2 ?_
    refine g_iload rfl rfl ?_
    rcases xif E with ⟨h3, E⟩ | ⟨h3, E⟩
    · refine g_ifge_t rfl h3 ?_
      refine g_iload rfl rfl ?_
      refine g_aload rfl rfl ?_
      refine g_iload rfl rfl ?_
      refine g_push rfl ?_
      obtain ⟨x2, h4, E⟩ := ob E
      refine g_inv2 (dc := 0) rfl (by omega) ty_m (Nat.le_of_ble_eq_true rfl) (fun d hd => tm_at hd v1 7 S0 _ h4) ?_
      rcases xif E with ⟨h5, E⟩ | ⟨h5, E⟩
      · refine g_icge_t rfl h5 ?_
        refine g_push rfl ?_
        obtain rfl := so1 E
        exact g_iret rfl
      · refine g_icge_f rfl h5 ?_
        refine g_aload rfl rfl ?_
        refine g_iload rfl rfl ?_
        refine g_push rfl ?_
        refine g_iload rfl rfl ?_
        refine g_iadd rfl ?_
        obtain ⟨x3, h6, E⟩ := ob E
        refine g_inv2 (dc := 0) rfl (by omega) ty_m (Nat.le_of_ble_eq_true rfl) (fun d hd => tm_at hd v1 (8 + v2) S0 _ h6) ?_
        refine g_goto rfl ?_
        obtain rfl := so1 E
        exact g_iret rfl
    · refine g_ifge_f rfl h3 ?_
      refine g_push rfl ?_
      obtain rfl := so1 E
      exact g_iret rfl
def fm_stop (v1 : Int32) (S0 : Mem) : Option (Int32 × Mem) := (fm_isActor v1 S0).bind fun x1 => if x1 = 0 then (some ((-1), S0)) else ((fm_isLive v1 S0).bind fun x2 => if x2 = 0 then (some ((-5), S0)) else ((fm_liveOnes S0).bind fun x3 => (fm_bits x3 S0).bind fun x4 => (fm_stops 14 v1 S0).bind fun S1 => (fm_liveOnes S1).bind fun x5 => (fm_bits x5 S1).bind fun x6 => some (x4 - x6, S1)))
set_option maxRecDepth 20000 in
set_option maxHeartbeats 4000000 in
theorem tm_stop {scr : Nat × (Nat → Int32)} {d : Nat} (hd : 34 ≤ d) (v1 : Int32) (S0 : Mem)  (rv : Int32) (SR : Mem) (E : fm_stop  v1 S0 = some (rv, SR)) : XG scr d 175 0 [(0, .inr (some (some 697))), (1, .inl v1)] [] S0 (some (.inl rv)) SR := by
  unfold fm_stop at E
  refine g_aload rfl rfl ?_
  refine g_iload rfl rfl ?_
  obtain ⟨x1, h1, E⟩ := ob E
  refine g_inv1 (dc := 1) rfl (by omega) ty_m (Nat.le_of_ble_eq_true rfl) (fun d hd => tm_isActor hd v1 S0 _ h1) ?_
  rcases xif E with ⟨h2, E⟩ | ⟨h2, E⟩
  · refine g_ifne_t rfl h2 ?_
    refine g_push rfl ?_
    obtain ⟨rfl, rfl⟩ := so2 E
    exact g_iret rfl
  · refine g_ifne_f rfl h2 ?_
    refine g_aload rfl rfl ?_
    refine g_iload rfl rfl ?_
    obtain ⟨x2, h3, E⟩ := ob E
    refine g_inv1 (dc := 1) rfl (by omega) ty_m (Nat.le_of_ble_eq_true rfl) (fun d hd => tm_isLive hd v1 S0 _ h3) ?_
    rcases xif E with ⟨h4, E⟩ | ⟨h4, E⟩
    · refine g_ifne_t rfl h4 ?_
      refine g_push rfl ?_
      obtain ⟨rfl, rfl⟩ := so2 E
      exact g_iret rfl
    · refine g_ifne_f rfl h4 ?_
      refine g_aload rfl rfl ?_
      obtain ⟨x3, h5, E⟩ := ob E
      refine g_inv0 (dc := 2) rfl (by omega) ty_m (Nat.le_of_ble_eq_true rfl) (fun d hd => tm_liveOnes hd S0 _ h5) ?_
      obtain ⟨x4, h6, E⟩ := ob E
      refine g_invS1 (dc := 0) rfl (by omega) (Nat.le_of_ble_eq_true rfl) (fun d hd => tm_bits hd x3 S0 _ h6) ?_
      refine g_istore (L2 := [(2, .inl x4), (0, .inr (some (some 697))), (1, .inl v1)]) rfl rfl ?_
      refine g_aload rfl rfl ?_
      refine g_iload rfl rfl ?_
      obtain ⟨S1, h7, E⟩ := ob E
      refine g_inv1 (dc := 33) rfl (by omega) ty_m (Nat.le_of_ble_eq_true rfl) (fun d hd => tm_stops 14 d (by omega) v1 S0 _ h7) ?_
      refine g_iload rfl rfl ?_
      refine g_aload rfl rfl ?_
      obtain ⟨x5, h8, E⟩ := ob E
      refine g_inv0 (dc := 2) rfl (by omega) ty_m (Nat.le_of_ble_eq_true rfl) (fun d hd => tm_liveOnes hd S1 _ h8) ?_
      obtain ⟨x6, h9, E⟩ := ob E
      refine g_invS1 (dc := 0) rfl (by omega) (Nat.le_of_ble_eq_true rfl) (fun d hd => tm_bits hd x5 S1 _ h9) ?_
      refine g_isub rfl ?_
      obtain ⟨rfl, rfl⟩ := so2 E
      exact g_iret rfl
def fm_tell (v1 : Int32) (v2 : Int32) (v3 : Int32) (S0 : Mem) : Option (Int32 × Mem) := (fm_isActor v1 S0).bind fun x1 => if x1 = 0 then (some ((-1), S0)) else (if v2 = ((-1)) then ((fm_isNumber v3 S0).bind fun x2 => if x2 = 0 then (some ((-1), S0)) else (bd (fm_sends v1 v2 v3 S0) fun x3 S1 => if x3 = 0 then (some ((-5), S1)) else ((fm_at v1 13 S1).bind fun x4 => some (x4, S1)))) else ((fm_isActor v2 S0).bind fun x5 => if x5 = 0 then (some ((-1), S0)) else ((fm_isNumber v3 S0).bind fun x6 => if x6 = 0 then (some ((-1), S0)) else (bd (fm_sends v1 v2 v3 S0) fun x7 S2 => if x7 = 0 then (some ((-5), S2)) else ((fm_at v1 13 S2).bind fun x8 => some (x8, S2))))))
set_option maxRecDepth 20000 in
set_option maxHeartbeats 4000000 in
theorem tm_tell {scr : Nat × (Nat → Int32)} {d : Nat} (hd : 3 ≤ d) (v1 : Int32) (v2 : Int32) (v3 : Int32) (S0 : Mem)  (rv : Int32) (SR : Mem) (E : fm_tell  v1 v2 v3 S0 = some (rv, SR)) : XG scr d 180 0 [(0, .inr (some (some 697))), (1, .inl v1), (2, .inl v2), (3, .inl v3)] [] S0 (some (.inl rv)) SR := by
  unfold fm_tell at E
  refine g_aload rfl rfl ?_
  refine g_iload rfl rfl ?_
  obtain ⟨x1, h1, E⟩ := ob E
  refine g_inv1 (dc := 1) rfl (by omega) ty_m (Nat.le_of_ble_eq_true rfl) (fun d hd => tm_isActor hd v1 S0 _ h1) ?_
  rcases xif E with ⟨h2, E⟩ | ⟨h2, E⟩
  · refine g_ifeq_t rfl h2 ?_
    refine g_push rfl ?_
    obtain ⟨rfl, rfl⟩ := so2 E
    exact g_iret rfl
  · refine g_ifeq_f rfl h2 ?_
    refine g_iload rfl rfl ?_
    refine g_push rfl ?_
    rcases xif E with ⟨h3, E⟩ | ⟨h3, E⟩
    · refine g_iceq_t rfl h3 ?_
      refine g_iload rfl rfl ?_
      obtain ⟨x2, h4, E⟩ := ob E
      refine g_invS1 (dc := 1) rfl (by omega) (Nat.le_of_ble_eq_true rfl) (fun d hd => tm_isNumber hd v3 S0 _ h4) ?_
      rcases xif E with ⟨h5, E⟩ | ⟨h5, E⟩
      · refine g_ifne_t rfl h5 ?_
        refine g_push rfl ?_
        obtain ⟨rfl, rfl⟩ := so2 E
        exact g_iret rfl
      · refine g_ifne_f rfl h5 ?_
        refine g_aload rfl rfl ?_
        refine g_iload rfl rfl ?_
        refine g_iload rfl rfl ?_
        refine g_iload rfl rfl ?_
        obtain ⟨x3, S1, h6, E⟩ := ob2 E
        refine g_inv3 (dc := 2) rfl (by omega) ty_m (Nat.le_of_ble_eq_true rfl) (fun d hd => tm_sends hd v1 v2 v3 S0 _ _ h6) ?_
        rcases xif E with ⟨h7, E⟩ | ⟨h7, E⟩
        · refine g_ifeq_t rfl h7 ?_
          refine g_push rfl ?_
          obtain ⟨rfl, rfl⟩ := so2 E
          exact g_iret rfl
        · refine g_ifeq_f rfl h7 ?_
          refine g_aload rfl rfl ?_
          refine g_iload rfl rfl ?_
          refine g_push rfl ?_
          obtain ⟨x4, h8, E⟩ := ob E
          refine g_inv2 (dc := 0) rfl (by omega) ty_m (Nat.le_of_ble_eq_true rfl) (fun d hd => tm_at hd v1 13 S1 _ h8) ?_
          refine g_goto rfl ?_
          obtain ⟨rfl, rfl⟩ := so2 E
          exact g_iret rfl
    · refine g_iceq_f rfl h3 ?_
      refine g_aload rfl rfl ?_
      refine g_iload rfl rfl ?_
      obtain ⟨x5, h9, E⟩ := ob E
      refine g_inv1 (dc := 1) rfl (by omega) ty_m (Nat.le_of_ble_eq_true rfl) (fun d hd => tm_isActor hd v2 S0 _ h9) ?_
      rcases xif E with ⟨h10, E⟩ | ⟨h10, E⟩
      · refine g_ifeq_t rfl h10 ?_
        refine g_push rfl ?_
        obtain ⟨rfl, rfl⟩ := so2 E
        exact g_iret rfl
      · refine g_ifeq_f rfl h10 ?_
        refine g_iload rfl rfl ?_
        obtain ⟨x6, h11, E⟩ := ob E
        refine g_invS1 (dc := 1) rfl (by omega) (Nat.le_of_ble_eq_true rfl) (fun d hd => tm_isNumber hd v3 S0 _ h11) ?_
        rcases xif E with ⟨h12, E⟩ | ⟨h12, E⟩
        · refine g_ifne_t rfl h12 ?_
          refine g_push rfl ?_
          obtain ⟨rfl, rfl⟩ := so2 E
          exact g_iret rfl
        · refine g_ifne_f rfl h12 ?_
          refine g_aload rfl rfl ?_
          refine g_iload rfl rfl ?_
          refine g_iload rfl rfl ?_
          refine g_iload rfl rfl ?_
          obtain ⟨x7, S2, h13, E⟩ := ob2 E
          refine g_inv3 (dc := 2) rfl (by omega) ty_m (Nat.le_of_ble_eq_true rfl) (fun d hd => tm_sends hd v1 v2 v3 S0 _ _ h13) ?_
          rcases xif E with ⟨h14, E⟩ | ⟨h14, E⟩
          · refine g_ifeq_t rfl h14 ?_
            refine g_push rfl ?_
            obtain ⟨rfl, rfl⟩ := so2 E
            exact g_iret rfl
          · refine g_ifeq_f rfl h14 ?_
            refine g_aload rfl rfl ?_
            refine g_iload rfl rfl ?_
            refine g_push rfl ?_
            obtain ⟨x8, h15, E⟩ := ob E
            refine g_inv2 (dc := 0) rfl (by omega) ty_m (Nat.le_of_ble_eq_true rfl) (fun d hd => tm_at hd v1 13 S2 _ h15) ?_
            refine g_goto rfl ?_
            obtain ⟨rfl, rfl⟩ := so2 E
            exact g_iret rfl
def fm_tells_121  (v2 : Int32) (v3 : Int32) (s0 : Int32) (s1 : Int32) (S0 : Mem) : Option Int32 := if (s1 &&& s0) = 0 then (some ((-2000000012))) else (if v2 = 0 then (some v3) else (if v2 = 1 then ((fm_at v3 6 S0).bind fun x1 => some x1) else (if v2 = 2 then ((fm_childrenOf v3 S0).bind fun x2 => (fm_liveOnes S0).bind fun x3 => (fm_bits (x2 &&& x3) S0).bind fun x4 => some x4) else ((fm_at v3 38 S0).bind fun x5 => some x5))))
set_option maxRecDepth 20000 in
set_option maxHeartbeats 4000000 in
theorem tm_tells_121 {scr : Nat × (Nat → Int32)} {d : Nat} (hd : 3 ≤ d)  (v2 : Int32) (v3 : Int32) (s0 : Int32) (s1 : Int32) (S0 : Mem)  (rv : Int32) (E : fm_tells_121 v2 v3 s0 s1 S0 = some rv) : XG scr d 181 121 [(0, .inr (some (some 697))), (2, .inl v2), (3, .inl v3)] [.inl s0, .inl s1] S0 (some (.inl rv)) S0 := by
  unfold fm_tells_121 at E
  refine g_iand rfl ?_
  refine g_istore (L2 := [(4, .inl (s1 &&& s0)), (0, .inr (some (some 697))), (2, .inl v2), (3, .inl v3)]) rfl rfl ?_
  refine g_iload rfl rfl ?_
  rcases xif E with ⟨h1, E⟩ | ⟨h1, E⟩
  · refine g_ifne_t rfl h1 ?_
    refine g_push rfl ?_
    obtain rfl := so1 E
    exact g_iret rfl
  · refine g_ifne_f rfl h1 ?_
    refine g_iload rfl rfl ?_
    rcases xif E with ⟨h2, E⟩ | ⟨h2, E⟩
    · refine g_ifne_t rfl h2 ?_
      refine g_iload rfl rfl ?_
      refine g_goto rfl ?_
      obtain rfl := so1 E
      exact g_iret rfl
    · refine g_ifne_f rfl h2 ?_
      refine g_iload rfl rfl ?_
      refine g_push rfl ?_
      rcases xif E with ⟨h3, E⟩ | ⟨h3, E⟩
      · refine g_icne_t rfl h3 ?_
        refine g_aload rfl rfl ?_
        refine g_iload rfl rfl ?_
        refine g_push rfl ?_
        obtain ⟨x1, h4, E⟩ := ob E
        refine g_inv2 (dc := 0) rfl (by omega) ty_m (Nat.le_of_ble_eq_true rfl) (fun d hd => tm_at hd v3 6 S0 _ h4) ?_
        refine g_goto rfl ?_
        obtain rfl := so1 E
        exact g_iret rfl
      · refine g_icne_f rfl h3 ?_
        refine g_iload rfl rfl ?_
        refine g_push rfl ?_
        rcases xif E with ⟨h5, E⟩ | ⟨h5, E⟩
        · refine g_icne_t rfl h5 ?_
          refine g_aload rfl rfl ?_
          refine g_iload rfl rfl ?_
          obtain ⟨x2, h6, E⟩ := ob E
          refine g_inv1 (dc := 1) rfl (by omega) ty_m (Nat.le_of_ble_eq_true rfl) (fun d hd => tm_childrenOf hd v3 S0 _ h6) ?_
          refine g_aload rfl rfl ?_
          obtain ⟨x3, h7, E⟩ := ob E
          refine g_inv0 (dc := 2) rfl (by omega) ty_m (Nat.le_of_ble_eq_true rfl) (fun d hd => tm_liveOnes hd S0 _ h7) ?_
          refine g_iand rfl ?_
          obtain ⟨x4, h8, E⟩ := ob E
          refine g_invS1 (dc := 0) rfl (by omega) (Nat.le_of_ble_eq_true rfl) (fun d hd => tm_bits hd (x2 &&& x3) S0 _ h8) ?_
          refine g_goto rfl ?_
          obtain rfl := so1 E
          exact g_iret rfl
        · refine g_icne_f rfl h5 ?_
          refine g_aload rfl rfl ?_
          refine g_iload rfl rfl ?_
          refine g_push rfl ?_
          obtain ⟨x5, h9, E⟩ := ob E
          refine g_inv2 (dc := 0) rfl (by omega) ty_m (Nat.le_of_ble_eq_true rfl) (fun d hd => tm_at hd v3 38 S0 _ h9) ?_
          obtain rfl := so1 E
          exact g_iret rfl
def fm_tells_51  (v2 : Int32) (v3 : Int32) (s0 : Int32) (S0 : Mem) : Option Int32 := if v2 = 0 then (fm_tells_121 v2 v3 1 s0 S0) else (if s0 = 0 then (fm_tells_121 v2 v3 0 s0 S0) else (if v2 = 3 then ((fm_isLive v3 S0).bind fun x1 => if x1 = 0 then (fm_tells_121 v2 v3 0 s0 S0) else ((fm_at v3 13 S0).bind fun x2 => if x2 = 0 then (fm_tells_121 v2 v3 1 s0 S0) else (fm_tells_121 v2 v3 0 s0 S0))) else (if v2 = 1 then ((fm_childrenOf v3 S0).bind fun x3 => if x3 = 0 then (fm_tells_121 v2 v3 1 s0 S0) else (fm_tells_121 v2 v3 0 s0 S0)) else ((fm_childrenOf v3 S0).bind fun x4 => if x4 = 0 then (fm_tells_121 v2 v3 0 s0 S0) else (fm_tells_121 v2 v3 1 s0 S0)))))
set_option maxRecDepth 20000 in
set_option maxHeartbeats 4000000 in
theorem tm_tells_51 {scr : Nat × (Nat → Int32)} {d : Nat} (hd : 3 ≤ d)  (v2 : Int32) (v3 : Int32) (s0 : Int32) (S0 : Mem)  (rv : Int32) (E : fm_tells_51 v2 v3 s0 S0 = some rv) : XG scr d 181 51 [(0, .inr (some (some 697))), (2, .inl v2), (3, .inl v3)] [.inl s0] S0 (some (.inl rv)) S0 := by
  unfold fm_tells_51 at E
  refine g_istore (L2 := [(4, .inl s0), (0, .inr (some (some 697))), (2, .inl v2), (3, .inl v3)]) rfl rfl ?_
  refine g_iload rfl rfl ?_
  refine g_iload rfl rfl ?_
  rcases xif E with ⟨h1, E⟩ | ⟨h1, E⟩
  · refine g_ifeq_t rfl h1 ?_
    refine g_push rfl ?_
    refine g_goto rfl ?_
    exact g_loc (lsub_cons rfl (lsub_cons rfl (lsub_cons rfl lsub_nil))) (tm_tells_121 hd v2 v3 1 s0 S0 _ E)
  · refine g_ifeq_f rfl h1 ?_
    refine g_iload rfl rfl ?_
    rcases xif E with ⟨h2, E⟩ | ⟨h2, E⟩
    · refine g_ifeq_t rfl h2 ?_
      refine g_push rfl ?_
      exact g_loc (lsub_cons rfl (lsub_cons rfl (lsub_cons rfl lsub_nil))) (tm_tells_121 hd v2 v3 0 s0 S0 _ E)
    · refine g_ifeq_f rfl h2 ?_
      refine g_iload rfl rfl ?_
      refine g_push rfl ?_
      rcases xif E with ⟨h3, E⟩ | ⟨h3, E⟩
      · refine g_icne_t rfl h3 ?_
        refine g_aload rfl rfl ?_
        refine g_iload rfl rfl ?_
        obtain ⟨x1, h4, E⟩ := ob E
        refine g_inv1 (dc := 1) rfl (by omega) ty_m (Nat.le_of_ble_eq_true rfl) (fun d hd => tm_isLive hd v3 S0 _ h4) ?_
        rcases xif E with ⟨h5, E⟩ | ⟨h5, E⟩
        · refine g_ifeq_t rfl h5 ?_
          refine g_push rfl ?_
          exact g_loc (lsub_cons rfl (lsub_cons rfl (lsub_cons rfl lsub_nil))) (tm_tells_121 hd v2 v3 0 s0 S0 _ E)
        · refine g_ifeq_f rfl h5 ?_
          refine g_aload rfl rfl ?_
          refine g_iload rfl rfl ?_
          refine g_push rfl ?_
          obtain ⟨x2, h6, E⟩ := ob E
          refine g_inv2 (dc := 0) rfl (by omega) ty_m (Nat.le_of_ble_eq_true rfl) (fun d hd => tm_at hd v3 13 S0 _ h6) ?_
          rcases xif E with ⟨h7, E⟩ | ⟨h7, E⟩
          · refine g_ifne_t rfl h7 ?_
            refine g_goto rfl ?_
            refine g_push rfl ?_
            refine g_goto rfl ?_
            exact g_loc (lsub_cons rfl (lsub_cons rfl (lsub_cons rfl lsub_nil))) (tm_tells_121 hd v2 v3 1 s0 S0 _ E)
          · refine g_ifne_f rfl h7 ?_
            refine g_push rfl ?_
            exact g_loc (lsub_cons rfl (lsub_cons rfl (lsub_cons rfl lsub_nil))) (tm_tells_121 hd v2 v3 0 s0 S0 _ E)
      · refine g_icne_f rfl h3 ?_
        refine g_iload rfl rfl ?_
        refine g_push rfl ?_
        rcases xif E with ⟨h8, E⟩ | ⟨h8, E⟩
        · refine g_icne_t rfl h8 ?_
          refine g_push rfl ?_
          refine g_goto rfl ?_
          refine g_aload rfl rfl ?_
          refine g_iload rfl rfl ?_
          obtain ⟨x3, h9, E⟩ := ob E
          refine g_inv1 (dc := 1) rfl (by omega) ty_m (Nat.le_of_ble_eq_true rfl) (fun d hd => tm_childrenOf hd v3 S0 _ h9) ?_
          rcases xif E with ⟨h10, E⟩ | ⟨h10, E⟩
          · refine g_ifne_t rfl h10 ?_
            refine g_push rfl ?_
            refine g_goto rfl ?_
            refine g_icne_t rfl (by decide) ?_
            refine g_push rfl ?_
            refine g_goto rfl ?_
            exact g_loc (lsub_cons rfl (lsub_cons rfl (lsub_cons rfl lsub_nil))) (tm_tells_121 hd v2 v3 1 s0 S0 _ E)
          · refine g_ifne_f rfl h10 ?_
            refine g_push rfl ?_
            refine g_icne_f rfl (by decide) ?_
            refine g_push rfl ?_
            exact g_loc (lsub_cons rfl (lsub_cons rfl (lsub_cons rfl lsub_nil))) (tm_tells_121 hd v2 v3 0 s0 S0 _ E)
        · refine g_icne_f rfl h8 ?_
          refine g_push rfl ?_
          refine g_aload rfl rfl ?_
          refine g_iload rfl rfl ?_
          obtain ⟨x4, h11, E⟩ := ob E
          refine g_inv1 (dc := 1) rfl (by omega) ty_m (Nat.le_of_ble_eq_true rfl) (fun d hd => tm_childrenOf hd v3 S0 _ h11) ?_
          rcases xif E with ⟨h12, E⟩ | ⟨h12, E⟩
          · refine g_ifne_t rfl h12 ?_
            refine g_push rfl ?_
            refine g_goto rfl ?_
            refine g_icne_f rfl (by decide) ?_
            refine g_push rfl ?_
            exact g_loc (lsub_cons rfl (lsub_cons rfl (lsub_cons rfl lsub_nil))) (tm_tells_121 hd v2 v3 0 s0 S0 _ E)
          · refine g_ifne_f rfl h12 ?_
            refine g_push rfl ?_
            refine g_icne_t rfl (by decide) ?_
            refine g_push rfl ?_
            refine g_goto rfl ?_
            exact g_loc (lsub_cons rfl (lsub_cons rfl (lsub_cons rfl lsub_nil))) (tm_tells_121 hd v2 v3 1 s0 S0 _ E)
def fm_tells (v1 : Int32) (v2 : Int32) (S0 : Mem) : Option Int32 := (fm_isHandle v1 S0).bind fun x1 => if x1 = 0 then (some ((-2000000000))) else ((fm_in v2 0 3 S0).bind fun x2 => if x2 = 0 then (some ((-2000000000))) else ((ald S0 704 v1).bind fun x3 => if x3 = 0 then (some ((-2000000000))) else ((ald S0 705 v1).bind fun x4 => (ald S0 704 v1).bind fun x5 => if x5 = 1 then (fm_tells_51 v2 x4 1 S0) else (fm_tells_51 v2 x4 0 S0))))
set_option maxRecDepth 20000 in
set_option maxHeartbeats 4000000 in
theorem tm_tells {scr : Nat × (Nat → Int32)} {d : Nat} (hd : 3 ≤ d) (v1 : Int32) (v2 : Int32) (S0 : Mem)  (rv : Int32) (E : fm_tells  v1 v2 S0 = some rv) : XG scr d 181 0 [(0, .inr (some (some 697))), (1, .inl v1), (2, .inl v2)] [] S0 (some (.inl rv)) S0 := by
  unfold fm_tells at E
  refine g_aload rfl rfl ?_
  refine g_iload rfl rfl ?_
  obtain ⟨x1, h1, E⟩ := ob E
  refine g_inv1 (dc := 1) rfl (by omega) ty_m (Nat.le_of_ble_eq_true rfl) (fun d hd => tm_isHandle hd v1 S0 _ h1) ?_
  rcases xif E with ⟨h2, E⟩ | ⟨h2, E⟩
  · refine g_ifeq_t rfl h2 ?_
    refine g_push rfl ?_
    obtain rfl := so1 E
    exact g_iret rfl
  · refine g_ifeq_f rfl h2 ?_
    refine g_iload rfl rfl ?_
    refine g_push rfl ?_
    refine g_push rfl ?_
    obtain ⟨x2, h3, E⟩ := ob E
    refine g_invS3 (dc := 0) rfl (by omega) (Nat.le_of_ble_eq_true rfl) (fun d hd => tm_in hd v2 0 3 S0 _ h3) ?_
    rcases xif E with ⟨h4, E⟩ | ⟨h4, E⟩
    · refine g_ifeq_t rfl h4 ?_
      refine g_push rfl ?_
      obtain rfl := so1 E
      exact g_iret rfl
    · refine g_ifeq_f rfl h4 ?_
      refine g_aload rfl rfl ?_
      refine g_getR rfl ty_m (fR_8_12 ty_m) ?_
      refine g_iload rfl rfl ?_
      obtain ⟨x3, h5, E⟩ := ob E
      refine g_iald rfl fT_8_12 h5 ?_
      rcases xif E with ⟨h6, E⟩ | ⟨h6, E⟩
      · refine g_ifne_t rfl h6 ?_
        refine g_push rfl ?_
        obtain rfl := so1 E
        exact g_iret rfl
      · refine g_ifne_f rfl h6 ?_
        refine g_aload rfl rfl ?_
        refine g_getR rfl ty_m (fR_8_13 ty_m) ?_
        refine g_iload rfl rfl ?_
        obtain ⟨x4, h7, E⟩ := ob E
        refine g_iald rfl fT_8_13 h7 ?_
        refine g_istore (L2 := [(3, .inl x4), (0, .inr (some (some 697))), (1, .inl v1), (2, .inl v2)]) rfl rfl ?_
        refine g_aload rfl rfl ?_
        refine g_getR rfl ty_m (fR_8_12 ty_m) ?_
        refine g_iload rfl rfl ?_
        obtain ⟨x5, h8, E⟩ := ob E
        refine g_iald rfl fT_8_12 h8 ?_
        refine g_push rfl ?_
        rcases xif E with ⟨h9, E⟩ | ⟨h9, E⟩
        · refine g_icne_t rfl h9 ?_
          refine g_push rfl ?_
          refine g_goto rfl ?_
          exact g_loc (lsub_cons rfl (lsub_cons rfl (lsub_cons rfl lsub_nil))) (tm_tells_51 hd v2 x4 1 S0 _ E)
        · refine g_icne_f rfl h9 ?_
          refine g_push rfl ?_
          exact g_loc (lsub_cons rfl (lsub_cons rfl (lsub_cons rfl lsub_nil))) (tm_tells_51 hd v2 x4 0 S0 _ E)
def fm_timer_51b (k17 : Int32 → Int32 → Int32 → Mem → Option Int32) (k51 : Int32 → Int32 → Int32 → Int32 → Int32 → Int32 → Mem → Option Int32) (v1 : Int32) (v2 : Int32) (v3 : Int32) (v4 : Int32) (v5 : Int32) (v6 : Int32) (S0 : Mem) : Option Int32 := (ald S0 698 931).bind fun x1 => if x1 ≤ v6 then (if v4 = v1 then ((ald S0 698 ((932 + (3 * v3)) + v2)).bind fun x2 => if v2 = 2 then (some (x2 + 100)) else (some (x2 + 0))) else (k17 v1 v2 (v3 + 1) S0)) else ((ald S0 698 ((932 + (3 * v6)) + 1)).bind fun x3 => if x3 < v5 then (k51 v1 v2 v3 (v4 + 1) v5 (v6 + 1) S0) else (if x3 = v5 then (if v3 ≤ v6 then (k51 v1 v2 v3 (v4 + 0) v5 (v6 + 1) S0) else (k51 v1 v2 v3 (v4 + 1) v5 (v6 + 1) S0)) else (k51 v1 v2 v3 (v4 + 0) v5 (v6 + 1) S0)))
set_option maxRecDepth 20000 in
set_option maxHeartbeats 4000000 in
theorem tm_timer_51b {scr : Nat × (Nat → Int32)} {d : Nat} (hd : 1 ≤ d) {k17 : Int32 → Int32 → Int32 → Mem → Option Int32} (hk17 : ∀ (v1 : Int32) (v2 : Int32) (v3 : Int32) (S0 : Mem), ∀ (rv : Int32), k17 v1 v2 v3 S0 = some rv → XG scr d 182 17 [(0, .inr (some (some 697))), (1, .inl v1), (2, .inl v2), (3, .inl v3)] [] S0 (some (.inl rv)) S0) {k51 : Int32 → Int32 → Int32 → Int32 → Int32 → Int32 → Mem → Option Int32} (hk51 : ∀ (v1 : Int32) (v2 : Int32) (v3 : Int32) (v4 : Int32) (v5 : Int32) (v6 : Int32) (S0 : Mem), ∀ (rv : Int32), k51 v1 v2 v3 v4 v5 v6 S0 = some rv → XG scr d 182 51 [(0, .inr (some (some 697))), (1, .inl v1), (2, .inl v2), (3, .inl v3), (4, .inl v4), (5, .inl v5), (6, .inl v6)] [] S0 (some (.inl rv)) S0) (v1 : Int32) (v2 : Int32) (v3 : Int32) (v4 : Int32) (v5 : Int32) (v6 : Int32) (S0 : Mem)  (rv : Int32) (E : fm_timer_51b k17 k51 v1 v2 v3 v4 v5 v6 S0 = some rv) : XG scr d 182 51 [(0, .inr (some (some 697))), (1, .inl v1), (2, .inl v2), (3, .inl v3), (4, .inl v4), (5, .inl v5), (6, .inl v6)] [] S0 (some (.inl rv)) S0 := by
  unfold fm_timer_51b at E
  refine g_iload rfl rfl ?_
  refine g_aload rfl rfl ?_
  refine g_getR rfl ty_m (fR_8_0 ty_m) ?_
  refine g_push rfl ?_
  obtain ⟨x1, h1, E⟩ := ob E
  refine g_iald rfl fT_8_0 h1 ?_
  rcases xif E with ⟨h2, E⟩ | ⟨h2, E⟩
  · refine g_icge_t rfl h2 ?_
    refine g_iload rfl rfl ?_
    refine g_iload rfl rfl ?_
    rcases xif E with ⟨h3, E⟩ | ⟨h3, E⟩
    · refine g_icne_t rfl h3 ?_
      refine g_aload rfl rfl ?_
      refine g_getR rfl ty_m (fR_8_0 ty_m) ?_
      refine g_push rfl ?_
      refine g_push rfl ?_
      refine g_iload rfl rfl ?_
      refine g_imul rfl ?_
      refine g_iadd rfl ?_
      refine g_iload rfl rfl ?_
      refine g_iadd rfl ?_
      obtain ⟨x2, h4, E⟩ := ob E
      refine g_iald rfl fT_8_0 h4 ?_
      refine g_iload rfl rfl ?_
      refine g_push rfl ?_
      rcases xif E with ⟨h5, E⟩ | ⟨h5, E⟩
      · refine g_icne_t rfl h5 ?_
        refine g_push rfl ?_
        refine g_goto rfl ?_
        refine g_iadd rfl ?_
        obtain rfl := so1 E
        exact g_iret rfl
      · refine g_icne_f rfl h5 ?_
        refine g_push rfl ?_
        refine g_iadd rfl ?_
        obtain rfl := so1 E
        exact g_iret rfl
    · refine g_icne_f rfl h3 ?_
      refine g_iinc (L2 := [(3, .inl (v3 + 1)), (0, .inr (some (some 697))), (1, .inl v1), (2, .inl v2), (4, .inl v4), (5, .inl v5), (6, .inl v6)]) rfl rfl rfl ?_
      refine g_goto rfl ?_
      exact g_loc (lsub_cons rfl (lsub_cons rfl (lsub_cons rfl (lsub_cons rfl lsub_nil)))) (hk17 v1 v2 (v3 + 1) S0 _ E)
  · refine g_icge_f rfl h2 ?_
    refine g_aload rfl rfl ?_
    refine g_getR rfl ty_m (fR_8_0 ty_m) ?_
    refine g_push rfl ?_
    refine g_push rfl ?_
    refine g_iload rfl rfl ?_
    refine g_imul rfl ?_
    refine g_iadd rfl ?_
    refine g_push rfl ?_
    refine g_iadd rfl ?_
    obtain ⟨x3, h6, E⟩ := ob E
    refine g_iald rfl fT_8_0 h6 ?_
    refine g_istore (L2 := [(7, .inl x3), (0, .inr (some (some 697))), (1, .inl v1), (2, .inl v2), (3, .inl v3), (4, .inl v4), (5, .inl v5), (6, .inl v6)]) rfl rfl ?_
    refine g_iload rfl rfl ?_
    refine g_iload rfl rfl ?_
    refine g_iload rfl rfl ?_
    rcases xif E with ⟨h7, E⟩ | ⟨h7, E⟩
    · refine g_iclt_t rfl h7 ?_
      refine g_push rfl ?_
      refine g_goto rfl ?_
      refine g_iadd rfl ?_
      refine g_istore (L2 := [(4, .inl (v4 + 1)), (7, .inl x3), (0, .inr (some (some 697))), (1, .inl v1), (2, .inl v2), (3, .inl v3), (5, .inl v5), (6, .inl v6)]) rfl rfl ?_
      refine g_iinc (L2 := [(6, .inl (v6 + 1)), (4, .inl (v4 + 1)), (7, .inl x3), (0, .inr (some (some 697))), (1, .inl v1), (2, .inl v2), (3, .inl v3), (5, .inl v5)]) rfl rfl rfl ?_
      refine g_goto rfl ?_
      exact g_loc (lsub_cons rfl (lsub_cons rfl (lsub_cons rfl (lsub_cons rfl (lsub_cons rfl (lsub_cons rfl (lsub_cons rfl lsub_nil))))))) (hk51 v1 v2 v3 (v4 + 1) v5 (v6 + 1) S0 _ E)
    · refine g_iclt_f rfl h7 ?_
      refine g_iload rfl rfl ?_
      refine g_iload rfl rfl ?_
      rcases xif E with ⟨h8, E⟩ | ⟨h8, E⟩
      · refine g_icne_t rfl h8 ?_
        refine g_iload rfl rfl ?_
        refine g_iload rfl rfl ?_
        rcases xif E with ⟨h9, E⟩ | ⟨h9, E⟩
        · refine g_icge_t rfl h9 ?_
          refine g_push rfl ?_
          refine g_iadd rfl ?_
          refine g_istore (L2 := [(4, .inl (v4 + 0)), (7, .inl x3), (0, .inr (some (some 697))), (1, .inl v1), (2, .inl v2), (3, .inl v3), (5, .inl v5), (6, .inl v6)]) rfl rfl ?_
          refine g_iinc (L2 := [(6, .inl (v6 + 1)), (4, .inl (v4 + 0)), (7, .inl x3), (0, .inr (some (some 697))), (1, .inl v1), (2, .inl v2), (3, .inl v3), (5, .inl v5)]) rfl rfl rfl ?_
          refine g_goto rfl ?_
          exact g_loc (lsub_cons rfl (lsub_cons rfl (lsub_cons rfl (lsub_cons rfl (lsub_cons rfl (lsub_cons rfl (lsub_cons rfl lsub_nil))))))) (hk51 v1 v2 v3 (v4 + 0) v5 (v6 + 1) S0 _ E)
        · refine g_icge_f rfl h9 ?_
          refine g_push rfl ?_
          refine g_goto rfl ?_
          refine g_iadd rfl ?_
          refine g_istore (L2 := [(4, .inl (v4 + 1)), (7, .inl x3), (0, .inr (some (some 697))), (1, .inl v1), (2, .inl v2), (3, .inl v3), (5, .inl v5), (6, .inl v6)]) rfl rfl ?_
          refine g_iinc (L2 := [(6, .inl (v6 + 1)), (4, .inl (v4 + 1)), (7, .inl x3), (0, .inr (some (some 697))), (1, .inl v1), (2, .inl v2), (3, .inl v3), (5, .inl v5)]) rfl rfl rfl ?_
          refine g_goto rfl ?_
          exact g_loc (lsub_cons rfl (lsub_cons rfl (lsub_cons rfl (lsub_cons rfl (lsub_cons rfl (lsub_cons rfl (lsub_cons rfl lsub_nil))))))) (hk51 v1 v2 v3 (v4 + 1) v5 (v6 + 1) S0 _ E)
      · refine g_icne_f rfl h8 ?_
        refine g_push rfl ?_
        refine g_iadd rfl ?_
        refine g_istore (L2 := [(4, .inl (v4 + 0)), (7, .inl x3), (0, .inr (some (some 697))), (1, .inl v1), (2, .inl v2), (3, .inl v3), (5, .inl v5), (6, .inl v6)]) rfl rfl ?_
        refine g_iinc (L2 := [(6, .inl (v6 + 1)), (4, .inl (v4 + 0)), (7, .inl x3), (0, .inr (some (some 697))), (1, .inl v1), (2, .inl v2), (3, .inl v3), (5, .inl v5)]) rfl rfl rfl ?_
        refine g_goto rfl ?_
        exact g_loc (lsub_cons rfl (lsub_cons rfl (lsub_cons rfl (lsub_cons rfl (lsub_cons rfl (lsub_cons rfl (lsub_cons rfl lsub_nil))))))) (hk51 v1 v2 v3 (v4 + 0) v5 (v6 + 1) S0 _ E)
def fm_timer_51 (k17 : Int32 → Int32 → Int32 → Mem → Option Int32) : Nat → Int32 → Int32 → Int32 → Int32 → Int32 → Int32 → Mem → Option Int32
  | 0 => fun _ _ _ _ _ _ _ => none
  | n + 1 => fm_timer_51b  k17 (fm_timer_51 k17 n)
set_option maxRecDepth 20000 in
set_option maxHeartbeats 4000000 in
theorem tm_timer_51 {scr : Nat × (Nat → Int32)} {d : Nat} (hd : 1 ≤ d) {k17 : Int32 → Int32 → Int32 → Mem → Option Int32} (hk17 : ∀ (v1 : Int32) (v2 : Int32) (v3 : Int32) (S0 : Mem), ∀ (rv : Int32), k17 v1 v2 v3 S0 = some rv → XG scr d 182 17 [(0, .inr (some (some 697))), (1, .inl v1), (2, .inl v2), (3, .inl v3)] [] S0 (some (.inl rv)) S0) : ∀ (n : Nat) (v1 : Int32) (v2 : Int32) (v3 : Int32) (v4 : Int32) (v5 : Int32) (v6 : Int32) (S0 : Mem), ∀ (rv : Int32), fm_timer_51 k17 n v1 v2 v3 v4 v5 v6 S0 = some rv → XG scr d 182 51 [(0, .inr (some (some 697))), (1, .inl v1), (2, .inl v2), (3, .inl v3), (4, .inl v4), (5, .inl v5), (6, .inl v6)] [] S0 (some (.inl rv)) S0
  | 0, v1, v2, v3, v4, v5, v6, S0, rv, E => nn E
  | n + 1, v1, v2, v3, v4, v5, v6, S0, rv, E => tm_timer_51b hd  hk17 (tm_timer_51 hd hk17 n) v1 v2 v3 v4 v5 v6 S0  rv E
def fm_timer_17b (k17 : Int32 → Int32 → Int32 → Mem → Option Int32) (v1 : Int32) (v2 : Int32) (v3 : Int32) (S0 : Mem) : Option Int32 := (ald S0 698 931).bind fun x1 => if x1 ≤ v3 then (some ((-2))) else ((ald S0 698 ((932 + (3 * v3)) + 1)).bind fun x2 => fm_timer_51 k17 LF v1 v2 v3 0 x2 0 S0)
set_option maxRecDepth 20000 in
set_option maxHeartbeats 4000000 in
theorem tm_timer_17b {scr : Nat × (Nat → Int32)} {d : Nat} (hd : 1 ≤ d) {k17 : Int32 → Int32 → Int32 → Mem → Option Int32} (hk17 : ∀ (v1 : Int32) (v2 : Int32) (v3 : Int32) (S0 : Mem), ∀ (rv : Int32), k17 v1 v2 v3 S0 = some rv → XG scr d 182 17 [(0, .inr (some (some 697))), (1, .inl v1), (2, .inl v2), (3, .inl v3)] [] S0 (some (.inl rv)) S0) (v1 : Int32) (v2 : Int32) (v3 : Int32) (S0 : Mem)  (rv : Int32) (E : fm_timer_17b k17 v1 v2 v3 S0 = some rv) : XG scr d 182 17 [(0, .inr (some (some 697))), (1, .inl v1), (2, .inl v2), (3, .inl v3)] [] S0 (some (.inl rv)) S0 := by
  unfold fm_timer_17b at E
  refine g_iload rfl rfl ?_
  refine g_aload rfl rfl ?_
  refine g_getR rfl ty_m (fR_8_0 ty_m) ?_
  refine g_push rfl ?_
  obtain ⟨x1, h1, E⟩ := ob E
  refine g_iald rfl fT_8_0 h1 ?_
  rcases xif E with ⟨h2, E⟩ | ⟨h2, E⟩
  · refine g_icge_t rfl h2 ?_
    refine g_push rfl ?_
    obtain rfl := so1 E
    exact g_iret rfl
  · refine g_icge_f rfl h2 ?_
    refine g_push rfl ?_
    refine g_istore (L2 := [(4, .inl 0), (0, .inr (some (some 697))), (1, .inl v1), (2, .inl v2), (3, .inl v3)]) rfl rfl ?_
    refine g_aload rfl rfl ?_
    refine g_getR rfl ty_m (fR_8_0 ty_m) ?_
    refine g_push rfl ?_
    refine g_push rfl ?_
    refine g_iload rfl rfl ?_
    refine g_imul rfl ?_
    refine g_iadd rfl ?_
    refine g_push rfl ?_
    refine g_iadd rfl ?_
    obtain ⟨x2, h3, E⟩ := ob E
    refine g_iald rfl fT_8_0 h3 ?_
    refine g_istore (L2 := [(5, .inl x2), (4, .inl 0), (0, .inr (some (some 697))), (1, .inl v1), (2, .inl v2), (3, .inl v3)]) rfl rfl ?_
    refine g_push rfl ?_
    refine g_istore (L2 := [(6, .inl 0), (5, .inl x2), (4, .inl 0), (0, .inr (some (some 697))), (1, .inl v1), (2, .inl v2), (3, .inl v3)]) rfl rfl ?_
    exact g_loc (lsub_cons rfl (lsub_cons rfl (lsub_cons rfl (lsub_cons rfl (lsub_cons rfl (lsub_cons rfl (lsub_cons rfl lsub_nil))))))) (tm_timer_51 hd hk17 LF v1 v2 v3 0 x2 0 S0 _ E)
def fm_timer_17  : Nat → Int32 → Int32 → Int32 → Mem → Option Int32
  | 0 => fun _ _ _ _ => none
  | n + 1 => fm_timer_17b  (fm_timer_17  n)
set_option maxRecDepth 20000 in
set_option maxHeartbeats 4000000 in
theorem tm_timer_17 {scr : Nat × (Nat → Int32)} {d : Nat} (hd : 1 ≤ d)  : ∀ (n : Nat) (v1 : Int32) (v2 : Int32) (v3 : Int32) (S0 : Mem), ∀ (rv : Int32), fm_timer_17  n v1 v2 v3 S0 = some rv → XG scr d 182 17 [(0, .inr (some (some 697))), (1, .inl v1), (2, .inl v2), (3, .inl v3)] [] S0 (some (.inl rv)) S0
  | 0, v1, v2, v3, S0, rv, E => nn E
  | n + 1, v1, v2, v3, S0, rv, E => tm_timer_17b hd  (tm_timer_17 hd  n) v1 v2 v3 S0  rv E
def fm_timer (v1 : Int32) (v2 : Int32) (S0 : Mem) : Option Int32 := if v1 < 0 then (some ((-1))) else ((fm_in v2 0 2 S0).bind fun x1 => if x1 = 0 then (some ((-1))) else (fm_timer_17 LF v1 v2 0 S0))
set_option maxRecDepth 20000 in
set_option maxHeartbeats 4000000 in
theorem tm_timer {scr : Nat × (Nat → Int32)} {d : Nat} (hd : 1 ≤ d) (v1 : Int32) (v2 : Int32) (S0 : Mem)  (rv : Int32) (E : fm_timer  v1 v2 S0 = some rv) : XG scr d 182 0 [(0, .inr (some (some 697))), (1, .inl v1), (2, .inl v2)] [] S0 (some (.inl rv)) S0 := by
  unfold fm_timer at E
  refine g_iload rfl rfl ?_
  rcases xif E with ⟨h1, E⟩ | ⟨h1, E⟩
  · refine g_iflt_t rfl h1 ?_
    refine g_push rfl ?_
    obtain rfl := so1 E
    exact g_iret rfl
  · refine g_iflt_f rfl h1 ?_
    refine g_iload rfl rfl ?_
    refine g_push rfl ?_
    refine g_push rfl ?_
    obtain ⟨x1, h2, E⟩ := ob E
    refine g_invS3 (dc := 0) rfl (by omega) (Nat.le_of_ble_eq_true rfl) (fun d hd => tm_in hd v2 0 2 S0 _ h2) ?_
    rcases xif E with ⟨h3, E⟩ | ⟨h3, E⟩
    · refine g_ifne_t rfl h3 ?_
      refine g_push rfl ?_
      obtain rfl := so1 E
      exact g_iret rfl
    · refine g_ifne_f rfl h3 ?_
      refine g_push rfl ?_
      refine g_istore (L2 := [(3, .inl 0), (0, .inr (some (some 697))), (1, .inl v1), (2, .inl v2)]) rfl rfl ?_
      exact g_loc (lsub_cons rfl (lsub_cons rfl (lsub_cons rfl (lsub_cons rfl lsub_nil)))) (tm_timer_17 hd LF v1 v2 0 S0 _ E)
def fm_watcher (v1 : Int32) (v2 : Int32) (S0 : Mem) : Option Int32 := (fm_isActor v1 S0).bind fun x1 => if x1 = 0 then (some ((-1))) else (if 0 ≤ v2 then ((fm_at v1 51 S0).bind fun x2 => if x2 ≤ v2 then (some ((-2))) else ((fm_at v1 (52 + v2) S0).bind fun x3 => some x3)) else (some ((-1))))
set_option maxRecDepth 20000 in
set_option maxHeartbeats 4000000 in
theorem tm_watcher {scr : Nat × (Nat → Int32)} {d : Nat} (hd : 2 ≤ d) (v1 : Int32) (v2 : Int32) (S0 : Mem)  (rv : Int32) (E : fm_watcher  v1 v2 S0 = some rv) : XG scr d 186 0 [(0, .inr (some (some 697))), (1, .inl v1), (2, .inl v2)] [] S0 (some (.inl rv)) S0 := by
  unfold fm_watcher at E
  refine g_aload rfl rfl ?_
  refine g_iload rfl rfl ?_
  obtain ⟨x1, h1, E⟩ := ob E
  refine g_inv1 (dc := 1) rfl (by omega) ty_m (Nat.le_of_ble_eq_true rfl) (fun d hd => tm_isActor hd v1 S0 _ h1) ?_
  rcases xif E with ⟨h2, E⟩ | ⟨h2, E⟩
  · refine g_ifeq_t rfl h2 ?_
    refine g_push rfl ?_
    obtain rfl := so1 E
    exact g_iret rfl
  · refine g_ifeq_f rfl h2 ?_
    refine g_iload rfl rfl ?_
    rcases xif E with ⟨h3, E⟩ | ⟨h3, E⟩
    · refine g_ifge_t rfl h3 ?_
      refine g_iload rfl rfl ?_
      refine g_aload rfl rfl ?_
      refine g_iload rfl rfl ?_
      refine g_push rfl ?_
      obtain ⟨x2, h4, E⟩ := ob E
      refine g_inv2 (dc := 0) rfl (by omega) ty_m (Nat.le_of_ble_eq_true rfl) (fun d hd => tm_at hd v1 51 S0 _ h4) ?_
      rcases xif E with ⟨h5, E⟩ | ⟨h5, E⟩
      · refine g_icge_t rfl h5 ?_
        refine g_push rfl ?_
        obtain rfl := so1 E
        exact g_iret rfl
      · refine g_icge_f rfl h5 ?_
        refine g_aload rfl rfl ?_
        refine g_iload rfl rfl ?_
        refine g_push rfl ?_
        refine g_iload rfl rfl ?_
        refine g_iadd rfl ?_
        obtain ⟨x3, h6, E⟩ := ob E
        refine g_inv2 (dc := 0) rfl (by omega) ty_m (Nat.le_of_ble_eq_true rfl) (fun d hd => tm_at hd v1 (52 + v2) S0 _ h6) ?_
        refine g_goto rfl ?_
        obtain rfl := so1 E
        exact g_iret rfl
    · refine g_ifge_f rfl h3 ?_
      refine g_push rfl ?_
      obtain rfl := so1 E
      exact g_iret rfl
def fm_would (v1 : Int32) (v2 : Int32) (v3 : Int32) (S0 : Mem) : Option (Int32 × Mem) := (fm_isActor v1 S0).bind fun x1 => if x1 = 0 then (some ((-2000000000), S0)) else ((fm_isNumber v2 S0).bind fun x2 => if x2 = 0 then (some ((-2000000000), S0)) else ((fm_in v3 0 2 S0).bind fun x3 => if x3 = 0 then (some ((-2000000000), S0)) else ((fm_isLive v1 S0).bind fun x4 => if x4 = 0 then (some ((-2000000000), S0)) else ((fm_take 698 699 S0).bind fun S1 => (some (up2 S1 697 5 0)).bind fun S2 => (fm_deals v1 ((-1)) v2 S2).bind fun S3 => if v3 = 0 then ((fm_at v1 6 S3).bind fun x5 => (fm_take 699 698 S3).bind fun S4 => some (x5, S4)) else (if v3 = 1 then ((fm_at v1 5 S3).bind fun x6 => (fm_take 699 698 S3).bind fun S5 => some (x6, S5)) else (if (S3 697 5) = 0 then ((fm_take 699 698 S3).bind fun S6 => some (0, S6)) else ((ald S3 702 1).bind fun x7 => (fm_take 699 698 S3).bind fun S7 => some (x7, S7))))))))
set_option maxRecDepth 20000 in
set_option maxHeartbeats 4000000 in
theorem tm_would {scr : Nat × (Nat → Int32)} {d : Nat} (hd : 39 ≤ d) (v1 : Int32) (v2 : Int32) (v3 : Int32) (S0 : Mem)  (rv : Int32) (SR : Mem) (E : fm_would  v1 v2 v3 S0 = some (rv, SR)) : XG scr d 188 0 [(0, .inr (some (some 697))), (1, .inl v1), (2, .inl v2), (3, .inl v3)] [] S0 (some (.inl rv)) SR := by
  unfold fm_would at E
  refine g_aload rfl rfl ?_
  refine g_iload rfl rfl ?_
  obtain ⟨x1, h1, E⟩ := ob E
  refine g_inv1 (dc := 1) rfl (by omega) ty_m (Nat.le_of_ble_eq_true rfl) (fun d hd => tm_isActor hd v1 S0 _ h1) ?_
  rcases xif E with ⟨h2, E⟩ | ⟨h2, E⟩
  · refine g_ifeq_t rfl h2 ?_
    refine g_push rfl ?_
    obtain ⟨rfl, rfl⟩ := so2 E
    exact g_iret rfl
  · refine g_ifeq_f rfl h2 ?_
    refine g_iload rfl rfl ?_
    obtain ⟨x2, h3, E⟩ := ob E
    refine g_invS1 (dc := 1) rfl (by omega) (Nat.le_of_ble_eq_true rfl) (fun d hd => tm_isNumber hd v2 S0 _ h3) ?_
    rcases xif E with ⟨h4, E⟩ | ⟨h4, E⟩
    · refine g_ifeq_t rfl h4 ?_
      refine g_push rfl ?_
      obtain ⟨rfl, rfl⟩ := so2 E
      exact g_iret rfl
    · refine g_ifeq_f rfl h4 ?_
      refine g_iload rfl rfl ?_
      refine g_push rfl ?_
      refine g_push rfl ?_
      obtain ⟨x3, h5, E⟩ := ob E
      refine g_invS3 (dc := 0) rfl (by omega) (Nat.le_of_ble_eq_true rfl) (fun d hd => tm_in hd v3 0 2 S0 _ h5) ?_
      rcases xif E with ⟨h6, E⟩ | ⟨h6, E⟩
      · refine g_ifeq_t rfl h6 ?_
        refine g_push rfl ?_
        obtain ⟨rfl, rfl⟩ := so2 E
        exact g_iret rfl
      · refine g_ifeq_f rfl h6 ?_
        refine g_aload rfl rfl ?_
        refine g_iload rfl rfl ?_
        obtain ⟨x4, h7, E⟩ := ob E
        refine g_inv1 (dc := 1) rfl (by omega) ty_m (Nat.le_of_ble_eq_true rfl) (fun d hd => tm_isLive hd v1 S0 _ h7) ?_
        rcases xif E with ⟨h8, E⟩ | ⟨h8, E⟩
        · refine g_ifne_t rfl h8 ?_
          refine g_push rfl ?_
          obtain ⟨rfl, rfl⟩ := so2 E
          exact g_iret rfl
        · refine g_ifne_f rfl h8 ?_
          refine g_aload rfl rfl ?_
          refine g_getR rfl ty_m (fR_8_0 ty_m) ?_
          refine g_aload rfl rfl ?_
          refine g_getR rfl ty_m (fR_8_1 ty_m) ?_
          obtain ⟨S1, h9, E⟩ := ob E
          refine g_invS2 (dc := 0) rfl (by omega) (Nat.le_of_ble_eq_true rfl) (fun d hd => tm_take hd 698 699 S0 fT_8_0 fT_8_1 _ h9) ?_
          refine g_aload rfl rfl ?_
          refine g_push rfl ?_
          obtain ⟨S2, hS2, E⟩ := ob E
          refine g_putZ rfl ty_m b00 hS2 ?_
          refine g_aload rfl rfl ?_
          refine g_iload rfl rfl ?_
          refine g_push rfl ?_
          refine g_iload rfl rfl ?_
          obtain ⟨S3, h10, E⟩ := ob E
          refine g_inv3 (dc := 38) rfl (by omega) ty_m (Nat.le_of_ble_eq_true rfl) (fun d hd => tm_deals hd v1 ((-1)) v2 S2 _ h10) ?_
          refine g_iload rfl rfl ?_
          rcases xif E with ⟨h11, E⟩ | ⟨h11, E⟩
          · refine g_ifne_t rfl h11 ?_
            refine g_aload rfl rfl ?_
            refine g_iload rfl rfl ?_
            refine g_push rfl ?_
            obtain ⟨x5, h12, E⟩ := ob E
            refine g_inv2 (dc := 0) rfl (by omega) ty_m (Nat.le_of_ble_eq_true rfl) (fun d hd => tm_at hd v1 6 S3 _ h12) ?_
            refine g_goto rfl ?_
            refine g_istore (L2 := [(4, .inl x5), (0, .inr (some (some 697))), (1, .inl v1), (2, .inl v2), (3, .inl v3)]) rfl rfl ?_
            refine g_aload rfl rfl ?_
            refine g_getR rfl ty_m (fR_8_1 ty_m) ?_
            refine g_aload rfl rfl ?_
            refine g_getR rfl ty_m (fR_8_0 ty_m) ?_
            obtain ⟨S4, h13, E⟩ := ob E
            refine g_invS2 (dc := 0) rfl (by omega) (Nat.le_of_ble_eq_true rfl) (fun d hd => tm_take hd 699 698 S3 fT_8_1 fT_8_0 _ h13) ?_
            refine g_iload rfl rfl ?_
            obtain ⟨rfl, rfl⟩ := so2 E
            exact g_iret rfl
          · refine g_ifne_f rfl h11 ?_
            refine g_iload rfl rfl ?_
            refine g_push rfl ?_
            rcases xif E with ⟨h14, E⟩ | ⟨h14, E⟩
            · refine g_icne_t rfl h14 ?_
              refine g_aload rfl rfl ?_
              refine g_iload rfl rfl ?_
              refine g_push rfl ?_
              obtain ⟨x6, h15, E⟩ := ob E
              refine g_inv2 (dc := 0) rfl (by omega) ty_m (Nat.le_of_ble_eq_true rfl) (fun d hd => tm_at hd v1 5 S3 _ h15) ?_
              refine g_goto rfl ?_
              refine g_istore (L2 := [(4, .inl x6), (0, .inr (some (some 697))), (1, .inl v1), (2, .inl v2), (3, .inl v3)]) rfl rfl ?_
              refine g_aload rfl rfl ?_
              refine g_getR rfl ty_m (fR_8_1 ty_m) ?_
              refine g_aload rfl rfl ?_
              refine g_getR rfl ty_m (fR_8_0 ty_m) ?_
              obtain ⟨S5, h16, E⟩ := ob E
              refine g_invS2 (dc := 0) rfl (by omega) (Nat.le_of_ble_eq_true rfl) (fun d hd => tm_take hd 699 698 S3 fT_8_1 fT_8_0 _ h16) ?_
              refine g_iload rfl rfl ?_
              obtain ⟨rfl, rfl⟩ := so2 E
              exact g_iret rfl
            · refine g_icne_f rfl h14 ?_
              refine g_aload rfl rfl ?_
              refine g_getI rfl ty_m ?_
              rcases xif E with ⟨h17, E⟩ | ⟨h17, E⟩
              · refine g_ifeq_t rfl h17 ?_
                refine g_push rfl ?_
                refine g_istore (L2 := [(4, .inl 0), (0, .inr (some (some 697))), (1, .inl v1), (2, .inl v2), (3, .inl v3)]) rfl rfl ?_
                refine g_aload rfl rfl ?_
                refine g_getR rfl ty_m (fR_8_1 ty_m) ?_
                refine g_aload rfl rfl ?_
                refine g_getR rfl ty_m (fR_8_0 ty_m) ?_
                obtain ⟨S6, h18, E⟩ := ob E
                refine g_invS2 (dc := 0) rfl (by omega) (Nat.le_of_ble_eq_true rfl) (fun d hd => tm_take hd 699 698 S3 fT_8_1 fT_8_0 _ h18) ?_
                refine g_iload rfl rfl ?_
                obtain ⟨rfl, rfl⟩ := so2 E
                exact g_iret rfl
              · refine g_ifeq_f rfl h17 ?_
                refine g_aload rfl rfl ?_
                refine g_getR rfl ty_m (fR_8_8 ty_m) ?_
                refine g_push rfl ?_
                obtain ⟨x7, h19, E⟩ := ob E
                refine g_iald rfl fT_8_8 h19 ?_
                refine g_goto rfl ?_
                refine g_istore (L2 := [(4, .inl x7), (0, .inr (some (some 697))), (1, .inl v1), (2, .inl v2), (3, .inl v3)]) rfl rfl ?_
                refine g_aload rfl rfl ?_
                refine g_getR rfl ty_m (fR_8_1 ty_m) ?_
                refine g_aload rfl rfl ?_
                refine g_getR rfl ty_m (fR_8_0 ty_m) ?_
                obtain ⟨S7, h20, E⟩ := ob E
                refine g_invS2 (dc := 0) rfl (by omega) (Nat.le_of_ble_eq_true rfl) (fun d hd => tm_take hd 699 698 S3 fT_8_1 fT_8_0 _ h20) ?_
                refine g_iload rfl rfl ?_
                obtain ⟨rfl, rfl⟩ := so2 E
                exact g_iret rfl
