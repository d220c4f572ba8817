/-! 13f: the methods as functions over the cells -/
def fl_law_18b (scr : Nat × (Nat → Int32)) (k18 : Int32 → Mem → Option (Int32 × Mem)) (v3 : Int32) (S0 : Mem) : Option (Int32 × Mem) := if ((Int32.ofNat scr.1) - 4) < v3 then (some (1, S0)) else ((sld scr v3).bind fun x1 => if (x1 &&& 31) = 0 then ((sld scr (v3 + 1)).bind fun x2 => (sld scr (v3 + 2)).bind fun x3 => (sld scr (v3 + 3)).bind fun x4 => bd (fx_actor x2 x3 x4 S0) fun x5 S1 => (sld scr (v3 + 1)).bind fun x6 => (sld scr (v3 + 2)).bind fun x7 => (sld scr (v3 + 3)).bind fun x8 => bd (fm_actor x6 x7 x8 S1) fun x9 S2 => k18 (v3 + 4) S2) else (if (x1 &&& 31) = 1 then ((sld scr (v3 + 1)).bind fun x10 => (sld scr (v3 + 2)).bind fun x11 => (sld scr (v3 + 3)).bind fun x12 => bd (fx_tell x10 x11 x12 S0) fun x13 S3 => (sld scr (v3 + 1)).bind fun x14 => (sld scr (v3 + 2)).bind fun x15 => (sld scr (v3 + 3)).bind fun x16 => bd (fm_tell x14 x15 x16 S3) fun x17 S4 => k18 (v3 + 4) S4) else (if (x1 &&& 31) = 2 then ((sld scr (v3 + 1)).bind fun x18 => (sld scr (v3 + 2)).bind fun x19 => (fx_of x18 x19 S0).bind fun x20 => (sld scr (v3 + 1)).bind fun x21 => (sld scr (v3 + 2)).bind fun x22 => bd (fm_of x21 x22 S0) fun x23 S5 => k18 (v3 + 4) S5) else (if (x1 &&& 31) = 3 then ((sld scr (v3 + 1)).bind fun x24 => (fx_counted x24 S0).bind fun x25 => (sld scr (v3 + 1)).bind fun x26 => (fm_counted x26 S0).bind fun x27 => k18 (v3 + 4) S0) else (if (x1 &&& 31) = 4 then ((sld scr (v3 + 1)).bind fun x28 => (sld scr (v3 + 2)).bind fun x29 => (sld scr (v3 + 3)).bind fun x30 => if x30 = 0 then ((fx_message x28 x29 0 S0).bind fun x31 => (sld scr (v3 + 1)).bind fun x32 => (sld scr (v3 + 2)).bind fun x33 => (sld scr (v3 + 3)).bind fun x34 => if x34 = 0 then ((fm_message x32 x33 0 S0).bind fun x35 => k18 (v3 + 4) S0) else ((fm_message x32 x33 1 S0).bind fun x36 => k18 (v3 + 4) S0)) else ((fx_message x28 x29 1 S0).bind fun x37 => (sld scr (v3 + 1)).bind fun x38 => (sld scr (v3 + 2)).bind fun x39 => (sld scr (v3 + 3)).bind fun x40 => if x40 = 0 then ((fm_message x38 x39 0 S0).bind fun x41 => k18 (v3 + 4) S0) else ((fm_message x38 x39 1 S0).bind fun x42 => k18 (v3 + 4) S0))) else (if (x1 &&& 31) = 5 then ((sld scr (v3 + 1)).bind fun x43 => (sld scr (v3 + 2)).bind fun x44 => (sld scr (v3 + 3)).bind fun x45 => if x45 = 0 then ((fx_sender x43 x44 0 S0).bind fun x46 => (sld scr (v3 + 1)).bind fun x47 => (sld scr (v3 + 2)).bind fun x48 => (sld scr (v3 + 3)).bind fun x49 => if x49 = 0 then ((fm_sender x47 x48 0 S0).bind fun x50 => k18 (v3 + 4) S0) else ((fm_sender x47 x48 1 S0).bind fun x51 => k18 (v3 + 4) S0)) else ((fx_sender x43 x44 1 S0).bind fun x52 => (sld scr (v3 + 1)).bind fun x53 => (sld scr (v3 + 2)).bind fun x54 => (sld scr (v3 + 3)).bind fun x55 => if x55 = 0 then ((fm_sender x53 x54 0 S0).bind fun x56 => k18 (v3 + 4) S0) else ((fm_sender x53 x54 1 S0).bind fun x57 => k18 (v3 + 4) S0))) else (if (x1 &&& 31) = 6 then ((sld scr (v3 + 1)).bind fun x58 => (sld scr (v3 + 2)).bind fun x59 => (fx_stack x58 x59 S0).bind fun x60 => (sld scr (v3 + 1)).bind fun x61 => (sld scr (v3 + 2)).bind fun x62 => (fm_stack x61 x62 S0).bind fun x63 => k18 (v3 + 4) S0) else (if (x1 &&& 31) = 7 then ((sld scr (v3 + 1)).bind fun x64 => (sld scr (v3 + 2)).bind fun x65 => (fx_watcher x64 x65 S0).bind fun x66 => (sld scr (v3 + 1)).bind fun x67 => (sld scr (v3 + 2)).bind fun x68 => (fm_watcher x67 x68 S0).bind fun x69 => k18 (v3 + 4) S0) else (if (x1 &&& 31) = 8 then ((sld scr (v3 + 1)).bind fun x70 => (sld scr (v3 + 2)).bind fun x71 => (fx_timer x70 x71 S0).bind fun x72 => (sld scr (v3 + 1)).bind fun x73 => (sld scr (v3 + 2)).bind fun x74 => (fm_timer x73 x74 S0).bind fun x75 => k18 (v3 + 4) S0) else (if (x1 &&& 31) = 9 then ((sld scr (v3 + 1)).bind fun x76 => bd (fx_stop x76 S0) fun x77 S6 => (sld scr (v3 + 1)).bind fun x78 => bd (fm_stop x78 S6) fun x79 S7 => k18 (v3 + 4) S7) else (if (x1 &&& 31) = 10 then ((sld scr (v3 + 1)).bind fun x80 => bd (fx_run x80 S0) fun x81 S8 => (sld scr (v3 + 1)).bind fun x82 => bd (fm_run x82 S8) fun x83 S9 => k18 (v3 + 4) S9) else (if (x1 &&& 31) = 11 then ((fx_ended S0).bind fun x84 => (fm_ended S0).bind fun x85 => k18 (v3 + 4) S0) else (if (x1 &&& 31) = 12 then ((sld scr (v3 + 1)).bind fun x86 => (fx_log x86 S0).bind fun x87 => (sld scr (v3 + 1)).bind fun x88 => (fm_log x88 S0).bind fun x89 => k18 (v3 + 4) S0) else (if (x1 &&& 31) = 13 then ((sld scr (v3 + 1)).bind fun x90 => (sld scr (v3 + 2)).bind fun x91 => (fx_cause x90 x91 S0).bind fun x92 => (sld scr (v3 + 1)).bind fun x93 => (sld scr (v3 + 2)).bind fun x94 => (fm_cause x93 x94 S0).bind fun x95 => k18 (v3 + 4) S0) else (if (x1 &&& 31) = 14 then ((sld scr (v3 + 1)).bind fun x96 => (sld scr (v3 + 2)).bind fun x97 => bd (fx_dry x96 x97 S0) fun x98 S10 => (sld scr (v3 + 1)).bind fun x99 => (sld scr (v3 + 2)).bind fun x100 => bd (fm_dry x99 x100 S10) fun x101 S11 => k18 (v3 + 4) S11) else (if (x1 &&& 31) = 15 then (bd (fx_first S0) fun x102 S12 => bd (fm_first S12) fun x103 S13 => k18 (v3 + 4) S13) else (if (x1 &&& 31) = 16 then (bd (fx_quiet S0) fun x104 S14 => bd (fm_quiet S14) fun x105 S15 => k18 (v3 + 4) S15) else (if (x1 &&& 31) = 17 then ((sld scr (v3 + 1)).bind fun x106 => (sld scr (v3 + 2)).bind fun x107 => (sld scr (v3 + 3)).bind fun x108 => bd (fx_would x106 x107 x108 S0) fun x109 S16 => (sld scr (v3 + 1)).bind fun x110 => (sld scr (v3 + 2)).bind fun x111 => (sld scr (v3 + 3)).bind fun x112 => bd (fm_would x110 x111 x112 S16) fun x113 S17 => k18 (v3 + 4) S17) else (if (x1 &&& 31) = 18 then ((sld scr (v3 + 1)).bind fun x114 => (sld scr (v3 + 2)).bind fun x115 => bd (fx_brings x114 x115 S0) fun x116 S18 => (sld scr (v3 + 1)).bind fun x117 => (sld scr (v3 + 2)).bind fun x118 => bd (fm_brings x117 x118 S18) fun x119 S19 => k18 (v3 + 4) S19) else (if (x1 &&& 31) = 19 then ((sld scr (v3 + 1)).bind fun x120 => (sld scr (v3 + 2)).bind fun x121 => (fx_reach x120 x121 S0).bind fun x122 => (sld scr (v3 + 1)).bind fun x123 => (sld scr (v3 + 2)).bind fun x124 => bd (fm_reach x123 x124 S0) fun x125 S20 => k18 (v3 + 4) S20) else (if (x1 &&& 31) = 20 then ((sld scr (v3 + 1)).bind fun x126 => bd (fx_feed x126 S0) fun x127 S21 => (sld scr (v3 + 1)).bind fun x128 => bd (fm_feed x128 S21) fun x129 S22 => k18 (v3 + 4) S22) else (if (x1 &&& 31) = 21 then (bd (fx_script S0) fun x130 S23 => bd (fm_script S23) fun x131 S24 => k18 (v3 + 4) S24) else (if (x1 &&& 31) = 22 then ((sld scr (v3 + 1)).bind fun x132 => bd (fx_drawn x132 S0) fun x133 S25 => (sld scr (v3 + 1)).bind fun x134 => bd (fm_drawn x134 S25) fun x135 S26 => k18 (v3 + 4) S26) else (if (x1 &&& 31) = 23 then ((sld scr (v3 + 1)).bind fun x136 => bd (fx_seed x136 S0) fun x137 S27 => (sld scr (v3 + 1)).bind fun x138 => bd (fm_seed x138 S27) fun x139 S28 => k18 (v3 + 4) S28) else (if (x1 &&& 31) = 24 then ((sld scr (v3 + 1)).bind fun x140 => (sld scr (v3 + 2)).bind fun x141 => bd (fx_order x140 x141 S0) fun x142 S29 => (sld scr (v3 + 1)).bind fun x143 => (sld scr (v3 + 2)).bind fun x144 => bd (fm_order x143 x144 S29) fun x145 S30 => k18 (v3 + 4) S30) else (if (x1 &&& 31) = 25 then (bd (fx_image S0) fun x146 S31 => bd (fm_image S31) fun x147 S32 => k18 (v3 + 4) S32) else (if (x1 &&& 31) = 26 then (bd (fx_back S0) fun x148 S33 => bd (fm_back S33) fun x149 S34 => if x148 = x149 then (k18 (v3 + 4) S34) else (some (0, S34))) else (if (x1 &&& 31) = 27 then ((sld scr (v3 + 1)).bind fun x150 => (sld scr (v3 + 2)).bind fun x151 => bd (fx_hold x150 x151 S0) fun x152 S35 => (sld scr (v3 + 1)).bind fun x153 => (sld scr (v3 + 2)).bind fun x154 => bd (fm_hold x153 x154 S35) fun x155 S36 => k18 (v3 + 4) S36) else (if (x1 &&& 31) = 28 then ((sld scr (v3 + 1)).bind fun x156 => (sld scr (v3 + 2)).bind fun x157 => bd (fx_row x156 x157 S0) fun x158 S37 => (sld scr (v3 + 1)).bind fun x159 => (sld scr (v3 + 2)).bind fun x160 => bd (fm_row x159 x160 S37) fun x161 S38 => k18 (v3 + 4) S38) else (if (x1 &&& 31) = 29 then ((sld scr (v3 + 1)).bind fun x162 => (sld scr (v3 + 2)).bind fun x163 => (sld scr (v3 + 3)).bind fun x164 => bd (fx_put x162 x163 x164 S0) fun x165 S39 => (sld scr (v3 + 1)).bind fun x166 => (sld scr (v3 + 2)).bind fun x167 => (sld scr (v3 + 3)).bind fun x168 => bd (fm_put x166 x167 x168 S39) fun x169 S40 => k18 (v3 + 4) S40) else (if (x1 &&& 31) = 30 then ((sld scr (v3 + 1)).bind fun x170 => (sld scr (v3 + 2)).bind fun x171 => (fx_tells x170 x171 S0).bind fun x172 => (sld scr (v3 + 1)).bind fun x173 => (sld scr (v3 + 2)).bind fun x174 => (fm_tells x173 x174 S0).bind fun x175 => k18 (v3 + 4) S0) else (if (x1 &&& 31) = 31 then ((sld scr (v3 + 1)).bind fun x176 => (fx_count x176 S0).bind fun x177 => (sld scr (v3 + 1)).bind fun x178 => (fm_count x178 S0).bind fun x179 => k18 (v3 + 4) S0) else (k18 (v3 + 4) S0)))))))))))))))))))))))))))))))))
set_option maxRecDepth 20000 in
set_option maxHeartbeats 4000000 in
theorem tl_law_18b {scr : Nat × (Nat → Int32)} {d : Nat} (hd : 44 ≤ d) {k18 : Int32 → Mem → Option (Int32 × Mem)} (hk18 : ∀ (v3 : Int32) (S0 : Mem), ∀ (rv : Int32) (SR : Mem), k18 v3 S0 = some (rv, SR) → XG scr d 190 18 [(0, .inr (some none)), (1, .inr (some (some 0))), (2, .inr (some (some 697))), (3, .inl v3)] [] S0 (some (.inl rv)) SR) (v3 : Int32) (S0 : Mem)  (rv : Int32) (SR : Mem) (E : fl_law_18b scr k18 v3 S0 = some (rv, SR)) : XG scr d 190 18 [(0, .inr (some none)), (1, .inr (some (some 0))), (2, .inr (some (some 697))), (3, .inl v3)] [] S0 (some (.inl rv)) SR := by
  unfold fl_law_18b at E
  refine g_iload rfl rfl ?_
  refine g_aload rfl rfl ?_
  refine g_slen rfl ?_
  refine g_push rfl ?_
  refine g_isub rfl ?_
  rcases xif E with ⟨h1, E⟩ | ⟨h1, E⟩
  · refine g_icgt_t rfl h1 ?_
    refine g_push rfl ?_
    obtain ⟨rfl, rfl⟩ := so2 E
    exact g_zret rfl b01
  · refine g_icgt_f rfl h1 ?_
    refine g_aload rfl rfl ?_
    refine g_iload rfl rfl ?_
    obtain ⟨x1, h2, E⟩ := ob E
    refine g_sld rfl h2 ?_
    refine g_push rfl ?_
    refine g_iand rfl ?_
    rcases xif E with ⟨h3, E⟩ | ⟨h3, E⟩
    · refine g_tsw (u := 176) rfl (by rw [h3]; decide +kernel) ?_
      refine g_aload rfl rfl ?_
      refine g_aload rfl rfl ?_
      refine g_iload rfl rfl ?_
      refine g_push rfl ?_
      refine g_iadd rfl ?_
      obtain ⟨x2, h4, E⟩ := ob E
      refine g_sld rfl h4 ?_
      refine g_aload rfl rfl ?_
      refine g_iload rfl rfl ?_
      refine g_push rfl ?_
      refine g_iadd rfl ?_
      obtain ⟨x3, h5, E⟩ := ob E
      refine g_sld rfl h5 ?_
      refine g_aload rfl rfl ?_
      refine g_iload rfl rfl ?_
      refine g_push rfl ?_
      refine g_iadd rfl ?_
      obtain ⟨x4, h6, E⟩ := ob E
      refine g_sld rfl h6 ?_
      obtain ⟨x5, S1, h7, E⟩ := ob2 E
      refine g_inv3 (dc := 4) rfl (by omega) ty_x (Nat.le_of_ble_eq_true rfl) (fun d hd => tx_actor hd x2 x3 x4 S0 _ _ h7) ?_
      refine g_pop rfl ?_
      refine g_aload rfl rfl ?_
      refine g_aload rfl rfl ?_
      refine g_iload rfl rfl ?_
      refine g_push rfl ?_
      refine g_iadd rfl ?_
      obtain ⟨x6, h8, E⟩ := ob E
      refine g_sld rfl h8 ?_
      refine g_aload rfl rfl ?_
      refine g_iload rfl rfl ?_
      refine g_push rfl ?_
      refine g_iadd rfl ?_
      obtain ⟨x7, h9, E⟩ := ob E
      refine g_sld rfl h9 ?_
      refine g_aload rfl rfl ?_
      refine g_iload rfl rfl ?_
      refine g_push rfl ?_
      refine g_iadd rfl ?_
      obtain ⟨x8, h10, E⟩ := ob E
      refine g_sld rfl h10 ?_
      obtain ⟨x9, S2, h11, E⟩ := ob2 E
      refine g_inv3 (dc := 3) rfl (by omega) ty_m (Nat.le_of_ble_eq_true rfl) (fun d hd => tm_actor hd x6 x7 x8 S1 _ _ h11) ?_
      refine g_pop rfl ?_
      refine g_goto rfl ?_
      refine g_iinc (L2 := [(3, .inl (v3 + 4)), (0, .inr (some none)), (1, .inr (some (some 0))), (2, .inr (some (some 697)))]) rfl rfl rfl ?_
      refine g_goto rfl ?_
      exact g_loc (lsub_cons rfl (lsub_cons rfl (lsub_cons rfl (lsub_cons rfl lsub_nil)))) (hk18 (v3 + 4) S2 _ _ E)
    · rcases xif E with ⟨h12, E⟩ | ⟨h12, E⟩
      · refine g_tsw (u := 219) rfl (by rw [h12]; decide +kernel) ?_
        refine g_aload rfl rfl ?_
        refine g_aload rfl rfl ?_
        refine g_iload rfl rfl ?_
        refine g_push rfl ?_
        refine g_iadd rfl ?_
        obtain ⟨x10, h13, E⟩ := ob E
        refine g_sld rfl h13 ?_
        refine g_aload rfl rfl ?_
        refine g_iload rfl rfl ?_
        refine g_push rfl ?_
        refine g_iadd rfl ?_
        obtain ⟨x11, h14, E⟩ := ob E
        refine g_sld rfl h14 ?_
        refine g_aload rfl rfl ?_
        refine g_iload rfl rfl ?_
        refine g_push rfl ?_
        refine g_iadd rfl ?_
        obtain ⟨x12, h15, E⟩ := ob E
        refine g_sld rfl h15 ?_
        obtain ⟨x13, S3, h16, E⟩ := ob2 E
        refine g_inv3 (dc := 2) rfl (by omega) ty_x (Nat.le_of_ble_eq_true rfl) (fun d hd => tx_tell hd x10 x11 x12 S0 _ _ h16) ?_
        refine g_pop rfl ?_
        refine g_aload rfl rfl ?_
        refine g_aload rfl rfl ?_
        refine g_iload rfl rfl ?_
        refine g_push rfl ?_
        refine g_iadd rfl ?_
        obtain ⟨x14, h17, E⟩ := ob E
        refine g_sld rfl h17 ?_
        refine g_aload rfl rfl ?_
        refine g_iload rfl rfl ?_
        refine g_push rfl ?_
        refine g_iadd rfl ?_
        obtain ⟨x15, h18, E⟩ := ob E
        refine g_sld rfl h18 ?_
        refine g_aload rfl rfl ?_
        refine g_iload rfl rfl ?_
        refine g_push rfl ?_
        refine g_iadd rfl ?_
        obtain ⟨x16, h19, E⟩ := ob E
        refine g_sld rfl h19 ?_
        obtain ⟨x17, S4, h20, E⟩ := ob2 E
        refine g_inv3 (dc := 3) rfl (by omega) ty_m (Nat.le_of_ble_eq_true rfl) (fun d hd => tm_tell hd x14 x15 x16 S3 _ _ h20) ?_
        refine g_pop rfl ?_
        refine g_goto rfl ?_
        refine g_iinc (L2 := [(3, .inl (v3 + 4)), (0, .inr (some none)), (1, .inr (some (some 0))), (2, .inr (some (some 697)))]) rfl rfl rfl ?_
        refine g_goto rfl ?_
        exact g_loc (lsub_cons rfl (lsub_cons rfl (lsub_cons rfl (lsub_cons rfl lsub_nil)))) (hk18 (v3 + 4) S4 _ _ E)
      · rcases xif E with ⟨h21, E⟩ | ⟨h21, E⟩
        · refine g_tsw (u := 262) rfl (by rw [h21]; decide +kernel) ?_
          refine g_aload rfl rfl ?_
          refine g_aload rfl rfl ?_
          refine g_iload rfl rfl ?_
          refine g_push rfl ?_
          refine g_iadd rfl ?_
          obtain ⟨x18, h22, E⟩ := ob E
          refine g_sld rfl h22 ?_
          refine g_aload rfl rfl ?_
          refine g_iload rfl rfl ?_
          refine g_push rfl ?_
          refine g_iadd rfl ?_
          obtain ⟨x19, h23, E⟩ := ob E
          refine g_sld rfl h23 ?_
          obtain ⟨x20, h24, E⟩ := ob E
          refine g_inv2 (dc := 1) rfl (by omega) ty_x (Nat.le_of_ble_eq_true rfl) (fun d hd => tx_of hd x18 x19 S0 _ h24) ?_
          refine g_pop rfl ?_
          refine g_aload rfl rfl ?_
          refine g_aload rfl rfl ?_
          refine g_iload rfl rfl ?_
          refine g_push rfl ?_
          refine g_iadd rfl ?_
          obtain ⟨x21, h25, E⟩ := ob E
          refine g_sld rfl h25 ?_
          refine g_aload rfl rfl ?_
          refine g_iload rfl rfl ?_
          refine g_push rfl ?_
          refine g_iadd rfl ?_
          obtain ⟨x22, h26, E⟩ := ob E
          refine g_sld rfl h26 ?_
          obtain ⟨x23, S5, h27, E⟩ := ob2 E
          refine g_inv2 (dc := 2) rfl (by omega) ty_m (Nat.le_of_ble_eq_true rfl) (fun d hd => tm_of hd x21 x22 S0 _ _ h27) ?_
          refine g_pop rfl ?_
          refine g_goto rfl ?_
          refine g_iinc (L2 := [(3, .inl (v3 + 4)), (0, .inr (some none)), (1, .inr (some (some 0))), (2, .inr (some (some 697)))]) rfl rfl rfl ?_
          refine g_goto rfl ?_
          exact g_loc (lsub_cons rfl (lsub_cons rfl (lsub_cons rfl (lsub_cons rfl lsub_nil)))) (hk18 (v3 + 4) S5 _ _ E)
        · rcases xif E with ⟨h28, E⟩ | ⟨h28, E⟩
          · refine g_tsw (u := 295) rfl (by rw [h28]; decide +kernel) ?_
            refine g_aload rfl rfl ?_
            refine g_aload rfl rfl ?_
            refine g_iload rfl rfl ?_
            refine g_push rfl ?_
            refine g_iadd rfl ?_
            obtain ⟨x24, h29, E⟩ := ob E
            refine g_sld rfl h29 ?_
            obtain ⟨x25, h30, E⟩ := ob E
            refine g_inv1 (dc := 1) rfl (by omega) ty_x (Nat.le_of_ble_eq_true rfl) (fun d hd => tx_counted hd x24 S0 _ h30) ?_
            refine g_pop rfl ?_
            refine g_aload rfl rfl ?_
            refine g_aload rfl rfl ?_
            refine g_iload rfl rfl ?_
            refine g_push rfl ?_
            refine g_iadd rfl ?_
            obtain ⟨x26, h31, E⟩ := ob E
            refine g_sld rfl h31 ?_
            obtain ⟨x27, h32, E⟩ := ob E
            refine g_inv1 (dc := 2) rfl (by omega) ty_m (Nat.le_of_ble_eq_true rfl) (fun d hd => tm_counted hd x26 S0 _ h32) ?_
            refine g_pop rfl ?_
            refine g_goto rfl ?_
            refine g_iinc (L2 := [(3, .inl (v3 + 4)), (0, .inr (some none)), (1, .inr (some (some 0))), (2, .inr (some (some 697)))]) rfl rfl rfl ?_
            refine g_goto rfl ?_
            exact g_loc (lsub_cons rfl (lsub_cons rfl (lsub_cons rfl (lsub_cons rfl lsub_nil)))) (hk18 (v3 + 4) S0 _ _ E)
          · rcases xif E with ⟨h33, E⟩ | ⟨h33, E⟩
            · refine g_tsw (u := 318) rfl (by rw [h33]; decide +kernel) ?_
              refine g_aload rfl rfl ?_
              refine g_aload rfl rfl ?_
              refine g_iload rfl rfl ?_
              refine g_push rfl ?_
              refine g_iadd rfl ?_
              obtain ⟨x28, h34, E⟩ := ob E
              refine g_sld rfl h34 ?_
              refine g_aload rfl rfl ?_
              refine g_iload rfl rfl ?_
              refine g_push rfl ?_
              refine g_iadd rfl ?_
              obtain ⟨x29, h35, E⟩ := ob E
              refine g_sld rfl h35 ?_
              refine g_aload rfl rfl ?_
              refine g_iload rfl rfl ?_
              refine g_push rfl ?_
              refine g_iadd rfl ?_
              obtain ⟨x30, h36, E⟩ := ob E
              refine g_sld rfl h36 ?_
              rcases xif E with ⟨h37, E⟩ | ⟨h37, E⟩
              · refine g_ifeq_t rfl h37 ?_
                refine g_push rfl ?_
                obtain ⟨x31, h38, E⟩ := ob E
                refine g_inv3 (dc := 1) rfl (by omega) ty_x (Nat.le_of_ble_eq_true rfl) (fun d hd => tx_message hd x28 x29 0 S0 _ h38) ?_
                refine g_pop rfl ?_
                refine g_aload rfl rfl ?_
                refine g_aload rfl rfl ?_
                refine g_iload rfl rfl ?_
                refine g_push rfl ?_
                refine g_iadd rfl ?_
                obtain ⟨x32, h39, E⟩ := ob E
                refine g_sld rfl h39 ?_
                refine g_aload rfl rfl ?_
                refine g_iload rfl rfl ?_
                refine g_push rfl ?_
                refine g_iadd rfl ?_
                obtain ⟨x33, h40, E⟩ := ob E
                refine g_sld rfl h40 ?_
                refine g_aload rfl rfl ?_
                refine g_iload rfl rfl ?_
                refine g_push rfl ?_
                refine g_iadd rfl ?_
                obtain ⟨x34, h41, E⟩ := ob E
                refine g_sld rfl h41 ?_
                rcases xif E with ⟨h42, E⟩ | ⟨h42, E⟩
                · refine g_ifeq_t rfl h42 ?_
                  refine g_push rfl ?_
                  obtain ⟨x35, h43, E⟩ := ob E
                  refine g_inv3 (dc := 2) rfl (by omega) ty_m (Nat.le_of_ble_eq_true rfl) (fun d hd => tm_message hd x32 x33 0 S0 _ h43) ?_
                  refine g_pop rfl ?_
                  refine g_goto rfl ?_
                  refine g_iinc (L2 := [(3, .inl (v3 + 4)), (0, .inr (some none)), (1, .inr (some (some 0))), (2, .inr (some (some 697)))]) rfl rfl rfl ?_
                  refine g_goto rfl ?_
                  exact g_loc (lsub_cons rfl (lsub_cons rfl (lsub_cons rfl (lsub_cons rfl lsub_nil)))) (hk18 (v3 + 4) S0 _ _ E)
                · refine g_ifeq_f rfl h42 ?_
                  refine g_push rfl ?_
                  refine g_goto rfl ?_
                  obtain ⟨x36, h44, E⟩ := ob E
                  refine g_inv3 (dc := 2) rfl (by omega) ty_m (Nat.le_of_ble_eq_true rfl) (fun d hd => tm_message hd x32 x33 1 S0 _ h44) ?_
                  refine g_pop rfl ?_
                  refine g_goto rfl ?_
                  refine g_iinc (L2 := [(3, .inl (v3 + 4)), (0, .inr (some none)), (1, .inr (some (some 0))), (2, .inr (some (some 697)))]) rfl rfl rfl ?_
                  refine g_goto rfl ?_
                  exact g_loc (lsub_cons rfl (lsub_cons rfl (lsub_cons rfl (lsub_cons rfl lsub_nil)))) (hk18 (v3 + 4) S0 _ _ E)
              · refine g_ifeq_f rfl h37 ?_
                refine g_push rfl ?_
                refine g_goto rfl ?_
                obtain ⟨x37, h45, E⟩ := ob E
                refine g_inv3 (dc := 1) rfl (by omega) ty_x (Nat.le_of_ble_eq_true rfl) (fun d hd => tx_message hd x28 x29 1 S0 _ h45) ?_
                refine g_pop rfl ?_
                refine g_aload rfl rfl ?_
                refine g_aload rfl rfl ?_
                refine g_iload rfl rfl ?_
                refine g_push rfl ?_
                refine g_iadd rfl ?_
                obtain ⟨x38, h46, E⟩ := ob E
                refine g_sld rfl h46 ?_
                refine g_aload rfl rfl ?_
                refine g_iload rfl rfl ?_
                refine g_push rfl ?_
                refine g_iadd rfl ?_
                obtain ⟨x39, h47, E⟩ := ob E
                refine g_sld rfl h47 ?_
                refine g_aload rfl rfl ?_
                refine g_iload rfl rfl ?_
                refine g_push rfl ?_
                refine g_iadd rfl ?_
                obtain ⟨x40, h48, E⟩ := ob E
                refine g_sld rfl h48 ?_
                rcases xif E with ⟨h49, E⟩ | ⟨h49, E⟩
                · refine g_ifeq_t rfl h49 ?_
                  refine g_push rfl ?_
                  obtain ⟨x41, h50, E⟩ := ob E
                  refine g_inv3 (dc := 2) rfl (by omega) ty_m (Nat.le_of_ble_eq_true rfl) (fun d hd => tm_message hd x38 x39 0 S0 _ h50) ?_
                  refine g_pop rfl ?_
                  refine g_goto rfl ?_
                  refine g_iinc (L2 := [(3, .inl (v3 + 4)), (0, .inr (some none)), (1, .inr (some (some 0))), (2, .inr (some (some 697)))]) rfl rfl rfl ?_
                  refine g_goto rfl ?_
                  exact g_loc (lsub_cons rfl (lsub_cons rfl (lsub_cons rfl (lsub_cons rfl lsub_nil)))) (hk18 (v3 + 4) S0 _ _ E)
                · refine g_ifeq_f rfl h49 ?_
                  refine g_push rfl ?_
                  refine g_goto rfl ?_
                  obtain ⟨x42, h51, E⟩ := ob E
                  refine g_inv3 (dc := 2) rfl (by omega) ty_m (Nat.le_of_ble_eq_true rfl) (fun d hd => tm_message hd x38 x39 1 S0 _ h51) ?_
                  refine g_pop rfl ?_
                  refine g_goto rfl ?_
                  refine g_iinc (L2 := [(3, .inl (v3 + 4)), (0, .inr (some none)), (1, .inr (some (some 0))), (2, .inr (some (some 697)))]) rfl rfl rfl ?_
                  refine g_goto rfl ?_
                  exact g_loc (lsub_cons rfl (lsub_cons rfl (lsub_cons rfl (lsub_cons rfl lsub_nil)))) (hk18 (v3 + 4) S0 _ _ E)
            · rcases xif E with ⟨h52, E⟩ | ⟨h52, E⟩
              · refine g_tsw (u := 377) rfl (by rw [h52]; decide +kernel) ?_
                refine g_aload rfl rfl ?_
                refine g_aload rfl rfl ?_
                refine g_iload rfl rfl ?_
                refine g_push rfl ?_
                refine g_iadd rfl ?_
                obtain ⟨x43, h53, E⟩ := ob E
                refine g_sld rfl h53 ?_
                refine g_aload rfl rfl ?_
                refine g_iload rfl rfl ?_
                refine g_push rfl ?_
                refine g_iadd rfl ?_
                obtain ⟨x44, h54, E⟩ := ob E
                refine g_sld rfl h54 ?_
                refine g_aload rfl rfl ?_
                refine g_iload rfl rfl ?_
                refine g_push rfl ?_
                refine g_iadd rfl ?_
                obtain ⟨x45, h55, E⟩ := ob E
                refine g_sld rfl h55 ?_
                rcases xif E with ⟨h56, E⟩ | ⟨h56, E⟩
                · refine g_ifeq_t rfl h56 ?_
                  refine g_push rfl ?_
                  obtain ⟨x46, h57, E⟩ := ob E
                  refine g_inv3 (dc := 1) rfl (by omega) ty_x (Nat.le_of_ble_eq_true rfl) (fun d hd => tx_sender hd x43 x44 0 S0 _ h57) ?_
                  refine g_pop rfl ?_
                  refine g_aload rfl rfl ?_
                  refine g_aload rfl rfl ?_
                  refine g_iload rfl rfl ?_
                  refine g_push rfl ?_
                  refine g_iadd rfl ?_
                  obtain ⟨x47, h58, E⟩ := ob E
                  refine g_sld rfl h58 ?_
                  refine g_aload rfl rfl ?_
                  refine g_iload rfl rfl ?_
                  refine g_push rfl ?_
                  refine g_iadd rfl ?_
                  obtain ⟨x48, h59, E⟩ := ob E
                  refine g_sld rfl h59 ?_
                  refine g_aload rfl rfl ?_
                  refine g_iload rfl rfl ?_
                  refine g_push rfl ?_
                  refine g_iadd rfl ?_
                  obtain ⟨x49, h60, E⟩ := ob E
                  refine g_sld rfl h60 ?_
                  rcases xif E with ⟨h61, E⟩ | ⟨h61, E⟩
                  · refine g_ifeq_t rfl h61 ?_
                    refine g_push rfl ?_
                    obtain ⟨x50, h62, E⟩ := ob E
                    refine g_inv3 (dc := 2) rfl (by omega) ty_m (Nat.le_of_ble_eq_true rfl) (fun d hd => tm_sender hd x47 x48 0 S0 _ h62) ?_
                    refine g_pop rfl ?_
                    refine g_goto rfl ?_
                    refine g_iinc (L2 := [(3, .inl (v3 + 4)), (0, .inr (some none)), (1, .inr (some (some 0))), (2, .inr (some (some 697)))]) rfl rfl rfl ?_
                    refine g_goto rfl ?_
                    exact g_loc (lsub_cons rfl (lsub_cons rfl (lsub_cons rfl (lsub_cons rfl lsub_nil)))) (hk18 (v3 + 4) S0 _ _ E)
                  · refine g_ifeq_f rfl h61 ?_
                    refine g_push rfl ?_
                    refine g_goto rfl ?_
                    obtain ⟨x51, h63, E⟩ := ob E
                    refine g_inv3 (dc := 2) rfl (by omega) ty_m (Nat.le_of_ble_eq_true rfl) (fun d hd => tm_sender hd x47 x48 1 S0 _ h63) ?_
                    refine g_pop rfl ?_
                    refine g_goto rfl ?_
                    refine g_iinc (L2 := [(3, .inl (v3 + 4)), (0, .inr (some none)), (1, .inr (some (some 0))), (2, .inr (some (some 697)))]) rfl rfl rfl ?_
                    refine g_goto rfl ?_
                    exact g_loc (lsub_cons rfl (lsub_cons rfl (lsub_cons rfl (lsub_cons rfl lsub_nil)))) (hk18 (v3 + 4) S0 _ _ E)
                · refine g_ifeq_f rfl h56 ?_
                  refine g_push rfl ?_
                  refine g_goto rfl ?_
                  obtain ⟨x52, h64, E⟩ := ob E
                  refine g_inv3 (dc := 1) rfl (by omega) ty_x (Nat.le_of_ble_eq_true rfl) (fun d hd => tx_sender hd x43 x44 1 S0 _ h64) ?_
                  refine g_pop rfl ?_
                  refine g_aload rfl rfl ?_
                  refine g_aload rfl rfl ?_
                  refine g_iload rfl rfl ?_
                  refine g_push rfl ?_
                  refine g_iadd rfl ?_
                  obtain ⟨x53, h65, E⟩ := ob E
                  refine g_sld rfl h65 ?_
                  refine g_aload rfl rfl ?_
                  refine g_iload rfl rfl ?_
                  refine g_push rfl ?_
                  refine g_iadd rfl ?_
                  obtain ⟨x54, h66, E⟩ := ob E
                  refine g_sld rfl h66 ?_
                  refine g_aload rfl rfl ?_
                  refine g_iload rfl rfl ?_
                  refine g_push rfl ?_
                  refine g_iadd rfl ?_
                  obtain ⟨x55, h67, E⟩ := ob E
                  refine g_sld rfl h67 ?_
                  rcases xif E with ⟨h68, E⟩ | ⟨h68, E⟩
                  · refine g_ifeq_t rfl h68 ?_
                    refine g_push rfl ?_
                    obtain ⟨x56, h69, E⟩ := ob E
                    refine g_inv3 (dc := 2) rfl (by omega) ty_m (Nat.le_of_ble_eq_true rfl) (fun d hd => tm_sender hd x53 x54 0 S0 _ h69) ?_
                    refine g_pop rfl ?_
                    refine g_goto rfl ?_
                    refine g_iinc (L2 := [(3, .inl (v3 + 4)), (0, .inr (some none)), (1, .inr (some (some 0))), (2, .inr (some (some 697)))]) rfl rfl rfl ?_
                    refine g_goto rfl ?_
                    exact g_loc (lsub_cons rfl (lsub_cons rfl (lsub_cons rfl (lsub_cons rfl lsub_nil)))) (hk18 (v3 + 4) S0 _ _ E)
                  · refine g_ifeq_f rfl h68 ?_
                    refine g_push rfl ?_
                    refine g_goto rfl ?_
                    obtain ⟨x57, h70, E⟩ := ob E
                    refine g_inv3 (dc := 2) rfl (by omega) ty_m (Nat.le_of_ble_eq_true rfl) (fun d hd => tm_sender hd x53 x54 1 S0 _ h70) ?_
                    refine g_pop rfl ?_
                    refine g_goto rfl ?_
                    refine g_iinc (L2 := [(3, .inl (v3 + 4)), (0, .inr (some none)), (1, .inr (some (some 0))), (2, .inr (some (some 697)))]) rfl rfl rfl ?_
                    refine g_goto rfl ?_
                    exact g_loc (lsub_cons rfl (lsub_cons rfl (lsub_cons rfl (lsub_cons rfl lsub_nil)))) (hk18 (v3 + 4) S0 _ _ E)
              · rcases xif E with ⟨h71, E⟩ | ⟨h71, E⟩
                · refine g_tsw (u := 436) rfl (by rw [h71]; decide +kernel) ?_
                  refine g_aload rfl rfl ?_
                  refine g_aload rfl rfl ?_
                  refine g_iload rfl rfl ?_
                  refine g_push rfl ?_
                  refine g_iadd rfl ?_
                  obtain ⟨x58, h72, E⟩ := ob E
                  refine g_sld rfl h72 ?_
                  refine g_aload rfl rfl ?_
                  refine g_iload rfl rfl ?_
                  refine g_push rfl ?_
                  refine g_iadd rfl ?_
                  obtain ⟨x59, h73, E⟩ := ob E
                  refine g_sld rfl h73 ?_
                  obtain ⟨x60, h74, E⟩ := ob E
                  refine g_inv2 (dc := 2) rfl (by omega) ty_x (Nat.le_of_ble_eq_true rfl) (fun d hd => tx_stack hd x58 x59 S0 _ h74) ?_
                  refine g_pop rfl ?_
                  refine g_aload rfl rfl ?_
                  refine g_aload rfl rfl ?_
                  refine g_iload rfl rfl ?_
                  refine g_push rfl ?_
                  refine g_iadd rfl ?_
                  obtain ⟨x61, h75, E⟩ := ob E
                  refine g_sld rfl h75 ?_
                  refine g_aload rfl rfl ?_
                  refine g_iload rfl rfl ?_
                  refine g_push rfl ?_
                  refine g_iadd rfl ?_
                  obtain ⟨x62, h76, E⟩ := ob E
                  refine g_sld rfl h76 ?_
                  obtain ⟨x63, h77, E⟩ := ob E
                  refine g_inv2 (dc := 2) rfl (by omega) ty_m (Nat.le_of_ble_eq_true rfl) (fun d hd => tm_stack hd x61 x62 S0 _ h77) ?_
                  refine g_pop rfl ?_
                  refine g_goto rfl ?_
                  refine g_iinc (L2 := [(3, .inl (v3 + 4)), (0, .inr (some none)), (1, .inr (some (some 0))), (2, .inr (some (some 697)))]) rfl rfl rfl ?_
                  refine g_goto rfl ?_
                  exact g_loc (lsub_cons rfl (lsub_cons rfl (lsub_cons rfl (lsub_cons rfl lsub_nil)))) (hk18 (v3 + 4) S0 _ _ E)
                · rcases xif E with ⟨h78, E⟩ | ⟨h78, E⟩
                  · refine g_tsw (u := 469) rfl (by rw [h78]; decide +kernel) ?_
                    refine g_aload rfl rfl ?_
                    refine g_aload rfl rfl ?_
                    refine g_iload rfl rfl ?_
                    refine g_push rfl ?_
                    refine g_iadd rfl ?_
                    obtain ⟨x64, h79, E⟩ := ob E
                    refine g_sld rfl h79 ?_
                    refine g_aload rfl rfl ?_
                    refine g_iload rfl rfl ?_
                    refine g_push rfl ?_
                    refine g_iadd rfl ?_
                    obtain ⟨x65, h80, E⟩ := ob E
                    refine g_sld rfl h80 ?_
                    obtain ⟨x66, h81, E⟩ := ob E
                    refine g_inv2 (dc := 2) rfl (by omega) ty_x (Nat.le_of_ble_eq_true rfl) (fun d hd => tx_watcher hd x64 x65 S0 _ h81) ?_
                    refine g_pop rfl ?_
                    refine g_aload rfl rfl ?_
                    refine g_aload rfl rfl ?_
                    refine g_iload rfl rfl ?_
                    refine g_push rfl ?_
                    refine g_iadd rfl ?_
                    obtain ⟨x67, h82, E⟩ := ob E
                    refine g_sld rfl h82 ?_
                    refine g_aload rfl rfl ?_
                    refine g_iload rfl rfl ?_
                    refine g_push rfl ?_
                    refine g_iadd rfl ?_
                    obtain ⟨x68, h83, E⟩ := ob E
                    refine g_sld rfl h83 ?_
                    obtain ⟨x69, h84, E⟩ := ob E
                    refine g_inv2 (dc := 2) rfl (by omega) ty_m (Nat.le_of_ble_eq_true rfl) (fun d hd => tm_watcher hd x67 x68 S0 _ h84) ?_
                    refine g_pop rfl ?_
                    refine g_goto rfl ?_
                    refine g_iinc (L2 := [(3, .inl (v3 + 4)), (0, .inr (some none)), (1, .inr (some (some 0))), (2, .inr (some (some 697)))]) rfl rfl rfl ?_
                    refine g_goto rfl ?_
                    exact g_loc (lsub_cons rfl (lsub_cons rfl (lsub_cons rfl (lsub_cons rfl lsub_nil)))) (hk18 (v3 + 4) S0 _ _ E)
                  · rcases xif E with ⟨h85, E⟩ | ⟨h85, E⟩
                    · refine g_tsw (u := 502) rfl (by rw [h85]; decide +kernel) ?_
                      refine g_aload rfl rfl ?_
                      refine g_aload rfl rfl ?_
                      refine g_iload rfl rfl ?_
                      refine g_push rfl ?_
                      refine g_iadd rfl ?_
                      obtain ⟨x70, h86, E⟩ := ob E
                      refine g_sld rfl h86 ?_
                      refine g_aload rfl rfl ?_
                      refine g_iload rfl rfl ?_
                      refine g_push rfl ?_
                      refine g_iadd rfl ?_
                      obtain ⟨x71, h87, E⟩ := ob E
                      refine g_sld rfl h87 ?_
                      obtain ⟨x72, h88, E⟩ := ob E
                      refine g_inv2 (dc := 1) rfl (by omega) ty_x (Nat.le_of_ble_eq_true rfl) (fun d hd => tx_timer hd x70 x71 S0 _ h88) ?_
                      refine g_pop rfl ?_
                      refine g_aload rfl rfl ?_
                      refine g_aload rfl rfl ?_
                      refine g_iload rfl rfl ?_
                      refine g_push rfl ?_
                      refine g_iadd rfl ?_
                      obtain ⟨x73, h89, E⟩ := ob E
                      refine g_sld rfl h89 ?_
                      refine g_aload rfl rfl ?_
                      refine g_iload rfl rfl ?_
                      refine g_push rfl ?_
                      refine g_iadd rfl ?_
                      obtain ⟨x74, h90, E⟩ := ob E
                      refine g_sld rfl h90 ?_
                      obtain ⟨x75, h91, E⟩ := ob E
                      refine g_inv2 (dc := 1) rfl (by omega) ty_m (Nat.le_of_ble_eq_true rfl) (fun d hd => tm_timer hd x73 x74 S0 _ h91) ?_
                      refine g_pop rfl ?_
                      refine g_goto rfl ?_
                      refine g_iinc (L2 := [(3, .inl (v3 + 4)), (0, .inr (some none)), (1, .inr (some (some 0))), (2, .inr (some (some 697)))]) rfl rfl rfl ?_
                      refine g_goto rfl ?_
                      exact g_loc (lsub_cons rfl (lsub_cons rfl (lsub_cons rfl (lsub_cons rfl lsub_nil)))) (hk18 (v3 + 4) S0 _ _ E)
                    · rcases xif E with ⟨h92, E⟩ | ⟨h92, E⟩
                      · refine g_tsw (u := 535) rfl (by rw [h92]; decide +kernel) ?_
                        refine g_aload rfl rfl ?_
                        refine g_aload rfl rfl ?_
                        refine g_iload rfl rfl ?_
                        refine g_push rfl ?_
                        refine g_iadd rfl ?_
                        obtain ⟨x76, h93, E⟩ := ob E
                        refine g_sld rfl h93 ?_
                        obtain ⟨x77, S6, h94, E⟩ := ob2 E
                        refine g_inv1 (dc := 3) rfl (by omega) ty_x (Nat.le_of_ble_eq_true rfl) (fun d hd => tx_stop hd x76 S0 _ _ h94) ?_
                        refine g_pop rfl ?_
                        refine g_aload rfl rfl ?_
                        refine g_aload rfl rfl ?_
                        refine g_iload rfl rfl ?_
                        refine g_push rfl ?_
                        refine g_iadd rfl ?_
                        obtain ⟨x78, h95, E⟩ := ob E
                        refine g_sld rfl h95 ?_
                        obtain ⟨x79, S7, h96, E⟩ := ob2 E
                        refine g_inv1 (dc := 34) rfl (by omega) ty_m (Nat.le_of_ble_eq_true rfl) (fun d hd => tm_stop hd x78 S6 _ _ h96) ?_
                        refine g_pop rfl ?_
                        refine g_goto rfl ?_
                        refine g_iinc (L2 := [(3, .inl (v3 + 4)), (0, .inr (some none)), (1, .inr (some (some 0))), (2, .inr (some (some 697)))]) rfl rfl rfl ?_
                        refine g_goto rfl ?_
                        exact g_loc (lsub_cons rfl (lsub_cons rfl (lsub_cons rfl (lsub_cons rfl lsub_nil)))) (hk18 (v3 + 4) S7 _ _ E)
                      · rcases xif E with ⟨h97, E⟩ | ⟨h97, E⟩
                        · refine g_tsw (u := 558) rfl (by rw [h97]; decide +kernel) ?_
                          refine g_aload rfl rfl ?_
                          refine g_aload rfl rfl ?_
                          refine g_iload rfl rfl ?_
                          refine g_push rfl ?_
                          refine g_iadd rfl ?_
                          obtain ⟨x80, h98, E⟩ := ob E
                          refine g_sld rfl h98 ?_
                          obtain ⟨x81, S8, h99, E⟩ := ob2 E
                          refine g_inv1 (dc := 7) rfl (by omega) ty_x (Nat.le_of_ble_eq_true rfl) (fun d hd => tx_run hd x80 S0 _ _ h99) ?_
                          refine g_pop rfl ?_
                          refine g_aload rfl rfl ?_
                          refine g_aload rfl rfl ?_
                          refine g_iload rfl rfl ?_
                          refine g_push rfl ?_
                          refine g_iadd rfl ?_
                          obtain ⟨x82, h100, E⟩ := ob E
                          refine g_sld rfl h100 ?_
                          obtain ⟨x83, S9, h101, E⟩ := ob2 E
                          refine g_inv1 (dc := 41) rfl (by omega) ty_m (Nat.le_of_ble_eq_true rfl) (fun d hd => tm_run hd x82 S8 _ _ h101) ?_
                          refine g_pop rfl ?_
                          refine g_goto rfl ?_
                          refine g_iinc (L2 := [(3, .inl (v3 + 4)), (0, .inr (some none)), (1, .inr (some (some 0))), (2, .inr (some (some 697)))]) rfl rfl rfl ?_
                          refine g_goto rfl ?_
                          exact g_loc (lsub_cons rfl (lsub_cons rfl (lsub_cons rfl (lsub_cons rfl lsub_nil)))) (hk18 (v3 + 4) S9 _ _ E)
                        · rcases xif E with ⟨h102, E⟩ | ⟨h102, E⟩
                          · refine g_tsw (u := 581) rfl (by rw [h102]; decide +kernel) ?_
                            refine g_aload rfl rfl ?_
                            obtain ⟨x84, h103, E⟩ := ob E
                            refine g_inv0 (dc := 0) rfl (by omega) ty_x (Nat.le_of_ble_eq_true rfl) (fun d hd => tx_ended hd S0 _ h103) ?_
                            refine g_pop rfl ?_
                            refine g_aload rfl rfl ?_
                            obtain ⟨x85, h104, E⟩ := ob E
                            refine g_inv0 (dc := 0) rfl (by omega) ty_m (Nat.le_of_ble_eq_true rfl) (fun d hd => tm_ended hd S0 _ h104) ?_
                            refine g_pop rfl ?_
                            refine g_goto rfl ?_
                            refine g_iinc (L2 := [(3, .inl (v3 + 4)), (0, .inr (some none)), (1, .inr (some (some 0))), (2, .inr (some (some 697)))]) rfl rfl rfl ?_
                            refine g_goto rfl ?_
                            exact g_loc (lsub_cons rfl (lsub_cons rfl (lsub_cons rfl (lsub_cons rfl lsub_nil)))) (hk18 (v3 + 4) S0 _ _ E)
                          · rcases xif E with ⟨h105, E⟩ | ⟨h105, E⟩
                            · refine g_tsw (u := 594) rfl (by rw [h105]; decide +kernel) ?_
                              refine g_aload rfl rfl ?_
                              refine g_aload rfl rfl ?_
                              refine g_iload rfl rfl ?_
                              refine g_push rfl ?_
                              refine g_iadd rfl ?_
                              obtain ⟨x86, h106, E⟩ := ob E
                              refine g_sld rfl h106 ?_
                              obtain ⟨x87, h107, E⟩ := ob E
                              refine g_inv1 (dc := 1) rfl (by omega) ty_x (Nat.le_of_ble_eq_true rfl) (fun d hd => tx_log hd x86 S0 _ h107) ?_
                              refine g_pop rfl ?_
                              refine g_aload rfl rfl ?_
                              refine g_aload rfl rfl ?_
                              refine g_iload rfl rfl ?_
                              refine g_push rfl ?_
                              refine g_iadd rfl ?_
                              obtain ⟨x88, h108, E⟩ := ob E
                              refine g_sld rfl h108 ?_
                              obtain ⟨x89, h109, E⟩ := ob E
                              refine g_inv1 (dc := 0) rfl (by omega) ty_m (Nat.le_of_ble_eq_true rfl) (fun d hd => tm_log hd x88 S0 _ h109) ?_
                              refine g_pop rfl ?_
                              refine g_goto rfl ?_
                              refine g_iinc (L2 := [(3, .inl (v3 + 4)), (0, .inr (some none)), (1, .inr (some (some 0))), (2, .inr (some (some 697)))]) rfl rfl rfl ?_
                              refine g_goto rfl ?_
                              exact g_loc (lsub_cons rfl (lsub_cons rfl (lsub_cons rfl (lsub_cons rfl lsub_nil)))) (hk18 (v3 + 4) S0 _ _ E)
                            · rcases xif E with ⟨h110, E⟩ | ⟨h110, E⟩
                              · refine g_tsw (u := 617) rfl (by rw [h110]; decide +kernel) ?_
                                refine g_aload rfl rfl ?_
                                refine g_aload rfl rfl ?_
                                refine g_iload rfl rfl ?_
                                refine g_push rfl ?_
                                refine g_iadd rfl ?_
                                obtain ⟨x90, h111, E⟩ := ob E
                                refine g_sld rfl h111 ?_
                                refine g_aload rfl rfl ?_
                                refine g_iload rfl rfl ?_
                                refine g_push rfl ?_
                                refine g_iadd rfl ?_
                                obtain ⟨x91, h112, E⟩ := ob E
                                refine g_sld rfl h112 ?_
                                obtain ⟨x92, h113, E⟩ := ob E
                                refine g_inv2 (dc := 1) rfl (by omega) ty_x (Nat.le_of_ble_eq_true rfl) (fun d hd => tx_cause hd x90 x91 S0 _ h113) ?_
                                refine g_pop rfl ?_
                                refine g_aload rfl rfl ?_
                                refine g_aload rfl rfl ?_
                                refine g_iload rfl rfl ?_
                                refine g_push rfl ?_
                                refine g_iadd rfl ?_
                                obtain ⟨x93, h114, E⟩ := ob E
                                refine g_sld rfl h114 ?_
                                refine g_aload rfl rfl ?_
                                refine g_iload rfl rfl ?_
                                refine g_push rfl ?_
                                refine g_iadd rfl ?_
                                obtain ⟨x94, h115, E⟩ := ob E
                                refine g_sld rfl h115 ?_
                                obtain ⟨x95, h116, E⟩ := ob E
                                refine g_inv2 (dc := 1) rfl (by omega) ty_m (Nat.le_of_ble_eq_true rfl) (fun d hd => tm_cause hd x93 x94 S0 _ h116) ?_
                                refine g_pop rfl ?_
                                refine g_goto rfl ?_
                                refine g_iinc (L2 := [(3, .inl (v3 + 4)), (0, .inr (some none)), (1, .inr (some (some 0))), (2, .inr (some (some 697)))]) rfl rfl rfl ?_
                                refine g_goto rfl ?_
                                exact g_loc (lsub_cons rfl (lsub_cons rfl (lsub_cons rfl (lsub_cons rfl lsub_nil)))) (hk18 (v3 + 4) S0 _ _ E)
                              · rcases xif E with ⟨h117, E⟩ | ⟨h117, E⟩
                                · refine g_tsw (u := 650) rfl (by rw [h117]; decide +kernel) ?_
                                  refine g_aload rfl rfl ?_
                                  refine g_aload rfl rfl ?_
                                  refine g_iload rfl rfl ?_
                                  refine g_push rfl ?_
                                  refine g_iadd rfl ?_
                                  obtain ⟨x96, h118, E⟩ := ob E
                                  refine g_sld rfl h118 ?_
                                  refine g_aload rfl rfl ?_
                                  refine g_iload rfl rfl ?_
                                  refine g_push rfl ?_
                                  refine g_iadd rfl ?_
                                  obtain ⟨x97, h119, E⟩ := ob E
                                  refine g_sld rfl h119 ?_
                                  obtain ⟨x98, S10, h120, E⟩ := ob2 E
                                  refine g_inv2 (dc := 7) rfl (by omega) ty_x (Nat.le_of_ble_eq_true rfl) (fun d hd => tx_dry hd x96 x97 S0 _ _ h120) ?_
                                  refine g_pop rfl ?_
                                  refine g_aload rfl rfl ?_
                                  refine g_aload rfl rfl ?_
                                  refine g_iload rfl rfl ?_
                                  refine g_push rfl ?_
                                  refine g_iadd rfl ?_
                                  obtain ⟨x99, h121, E⟩ := ob E
                                  refine g_sld rfl h121 ?_
                                  refine g_aload rfl rfl ?_
                                  refine g_iload rfl rfl ?_
                                  refine g_push rfl ?_
                                  refine g_iadd rfl ?_
                                  obtain ⟨x100, h122, E⟩ := ob E
                                  refine g_sld rfl h122 ?_
                                  obtain ⟨x101, S11, h123, E⟩ := ob2 E
                                  refine g_inv2 (dc := 41) rfl (by omega) ty_m (Nat.le_of_ble_eq_true rfl) (fun d hd => tm_dry hd x99 x100 S10 _ _ h123) ?_
                                  refine g_pop rfl ?_
                                  refine g_goto rfl ?_
                                  refine g_iinc (L2 := [(3, .inl (v3 + 4)), (0, .inr (some none)), (1, .inr (some (some 0))), (2, .inr (some (some 697)))]) rfl rfl rfl ?_
                                  refine g_goto rfl ?_
                                  exact g_loc (lsub_cons rfl (lsub_cons rfl (lsub_cons rfl (lsub_cons rfl lsub_nil)))) (hk18 (v3 + 4) S11 _ _ E)
                                · rcases xif E with ⟨h124, E⟩ | ⟨h124, E⟩
                                  · refine g_tsw (u := 683) rfl (by rw [h124]; decide +kernel) ?_
                                    refine g_aload rfl rfl ?_
                                    obtain ⟨x102, S12, h125, E⟩ := ob2 E
                                    refine g_inv0 (dc := 6) rfl (by omega) ty_x (Nat.le_of_ble_eq_true rfl) (fun d hd => tx_first hd S0 _ _ h125) ?_
                                    refine g_pop rfl ?_
                                    refine g_aload rfl rfl ?_
                                    obtain ⟨x103, S13, h126, E⟩ := ob2 E
                                    refine g_inv0 (dc := 40) rfl (by omega) ty_m (Nat.le_of_ble_eq_true rfl) (fun d hd => tm_first hd S12 _ _ h126) ?_
                                    refine g_pop rfl ?_
                                    refine g_goto rfl ?_
                                    refine g_iinc (L2 := [(3, .inl (v3 + 4)), (0, .inr (some none)), (1, .inr (some (some 0))), (2, .inr (some (some 697)))]) rfl rfl rfl ?_
                                    refine g_goto rfl ?_
                                    exact g_loc (lsub_cons rfl (lsub_cons rfl (lsub_cons rfl (lsub_cons rfl lsub_nil)))) (hk18 (v3 + 4) S13 _ _ E)
                                  · rcases xif E with ⟨h127, E⟩ | ⟨h127, E⟩
                                    · refine g_tsw (u := 696) rfl (by rw [h127]; decide +kernel) ?_
                                      refine g_aload rfl rfl ?_
                                      obtain ⟨x104, S14, h128, E⟩ := ob2 E
                                      refine g_inv0 (dc := 6) rfl (by omega) ty_x (Nat.le_of_ble_eq_true rfl) (fun d hd => tx_quiet hd S0 _ _ h128) ?_
                                      refine g_pop rfl ?_
                                      refine g_aload rfl rfl ?_
                                      obtain ⟨x105, S15, h129, E⟩ := ob2 E
                                      refine g_inv0 (dc := 40) rfl (by omega) ty_m (Nat.le_of_ble_eq_true rfl) (fun d hd => tm_quiet hd S14 _ _ h129) ?_
                                      refine g_pop rfl ?_
                                      refine g_goto rfl ?_
                                      refine g_iinc (L2 := [(3, .inl (v3 + 4)), (0, .inr (some none)), (1, .inr (some (some 0))), (2, .inr (some (some 697)))]) rfl rfl rfl ?_
                                      refine g_goto rfl ?_
                                      exact g_loc (lsub_cons rfl (lsub_cons rfl (lsub_cons rfl (lsub_cons rfl lsub_nil)))) (hk18 (v3 + 4) S15 _ _ E)
                                    · rcases xif E with ⟨h130, E⟩ | ⟨h130, E⟩
                                      · refine g_tsw (u := 709) rfl (by rw [h130]; decide +kernel) ?_
                                        refine g_aload rfl rfl ?_
                                        refine g_aload rfl rfl ?_
                                        refine g_iload rfl rfl ?_
                                        refine g_push rfl ?_
                                        refine g_iadd rfl ?_
                                        obtain ⟨x106, h131, E⟩ := ob E
                                        refine g_sld rfl h131 ?_
                                        refine g_aload rfl rfl ?_
                                        refine g_iload rfl rfl ?_
                                        refine g_push rfl ?_
                                        refine g_iadd rfl ?_
                                        obtain ⟨x107, h132, E⟩ := ob E
                                        refine g_sld rfl h132 ?_
                                        refine g_aload rfl rfl ?_
                                        refine g_iload rfl rfl ?_
                                        refine g_push rfl ?_
                                        refine g_iadd rfl ?_
                                        obtain ⟨x108, h133, E⟩ := ob E
                                        refine g_sld rfl h133 ?_
                                        obtain ⟨x109, S16, h134, E⟩ := ob2 E
                                        refine g_inv3 (dc := 5) rfl (by omega) ty_x (Nat.le_of_ble_eq_true rfl) (fun d hd => tx_would hd x106 x107 x108 S0 _ _ h134) ?_
                                        refine g_pop rfl ?_
                                        refine g_aload rfl rfl ?_
                                        refine g_aload rfl rfl ?_
                                        refine g_iload rfl rfl ?_
                                        refine g_push rfl ?_
                                        refine g_iadd rfl ?_
                                        obtain ⟨x110, h135, E⟩ := ob E
                                        refine g_sld rfl h135 ?_
                                        refine g_aload rfl rfl ?_
                                        refine g_iload rfl rfl ?_
                                        refine g_push rfl ?_
                                        refine g_iadd rfl ?_
                                        obtain ⟨x111, h136, E⟩ := ob E
                                        refine g_sld rfl h136 ?_
                                        refine g_aload rfl rfl ?_
                                        refine g_iload rfl rfl ?_
                                        refine g_push rfl ?_
                                        refine g_iadd rfl ?_
                                        obtain ⟨x112, h137, E⟩ := ob E
                                        refine g_sld rfl h137 ?_
                                        obtain ⟨x113, S17, h138, E⟩ := ob2 E
                                        refine g_inv3 (dc := 39) rfl (by omega) ty_m (Nat.le_of_ble_eq_true rfl) (fun d hd => tm_would hd x110 x111 x112 S16 _ _ h138) ?_
                                        refine g_pop rfl ?_
                                        refine g_goto rfl ?_
                                        refine g_iinc (L2 := [(3, .inl (v3 + 4)), (0, .inr (some none)), (1, .inr (some (some 0))), (2, .inr (some (some 697)))]) rfl rfl rfl ?_
                                        refine g_goto rfl ?_
                                        exact g_loc (lsub_cons rfl (lsub_cons rfl (lsub_cons rfl (lsub_cons rfl lsub_nil)))) (hk18 (v3 + 4) S17 _ _ E)
                                      · rcases xif E with ⟨h139, E⟩ | ⟨h139, E⟩
                                        · refine g_tsw (u := 752) rfl (by rw [h139]; decide +kernel) ?_
                                          refine g_aload rfl rfl ?_
                                          refine g_aload rfl rfl ?_
                                          refine g_iload rfl rfl ?_
                                          refine g_push rfl ?_
                                          refine g_iadd rfl ?_
                                          obtain ⟨x114, h140, E⟩ := ob E
                                          refine g_sld rfl h140 ?_
                                          refine g_aload rfl rfl ?_
                                          refine g_iload rfl rfl ?_
                                          refine g_push rfl ?_
                                          refine g_iadd rfl ?_
                                          obtain ⟨x115, h141, E⟩ := ob E
                                          refine g_sld rfl h141 ?_
                                          obtain ⟨x116, S18, h142, E⟩ := ob2 E
                                          refine g_inv2 (dc := 5) rfl (by omega) ty_x (Nat.le_of_ble_eq_true rfl) (fun d hd => tx_brings hd x114 x115 S0 _ _ h142) ?_
                                          refine g_pop rfl ?_
                                          refine g_aload rfl rfl ?_
                                          refine g_aload rfl rfl ?_
                                          refine g_iload rfl rfl ?_
                                          refine g_push rfl ?_
                                          refine g_iadd rfl ?_
                                          obtain ⟨x117, h143, E⟩ := ob E
                                          refine g_sld rfl h143 ?_
                                          refine g_aload rfl rfl ?_
                                          refine g_iload rfl rfl ?_
                                          refine g_push rfl ?_
                                          refine g_iadd rfl ?_
                                          obtain ⟨x118, h144, E⟩ := ob E
                                          refine g_sld rfl h144 ?_
                                          obtain ⟨x119, S19, h145, E⟩ := ob2 E
                                          refine g_inv2 (dc := 37) rfl (by omega) ty_m (Nat.le_of_ble_eq_true rfl) (fun d hd => tm_brings hd x117 x118 S18 _ _ h145) ?_
                                          refine g_pop rfl ?_
                                          refine g_goto rfl ?_
                                          refine g_iinc (L2 := [(3, .inl (v3 + 4)), (0, .inr (some none)), (1, .inr (some (some 0))), (2, .inr (some (some 697)))]) rfl rfl rfl ?_
                                          refine g_goto rfl ?_
                                          exact g_loc (lsub_cons rfl (lsub_cons rfl (lsub_cons rfl (lsub_cons rfl lsub_nil)))) (hk18 (v3 + 4) S19 _ _ E)
                                        · rcases xif E with ⟨h146, E⟩ | ⟨h146, E⟩
                                          · refine g_tsw (u := 785) rfl (by rw [h146]; decide +kernel) ?_
                                            refine g_aload rfl rfl ?_
                                            refine g_aload rfl rfl ?_
                                            refine g_iload rfl rfl ?_
                                            refine g_push rfl ?_
                                            refine g_iadd rfl ?_
                                            obtain ⟨x120, h147, E⟩ := ob E
                                            refine g_sld rfl h147 ?_
                                            refine g_aload rfl rfl ?_
                                            refine g_iload rfl rfl ?_
                                            refine g_push rfl ?_
                                            refine g_iadd rfl ?_
                                            obtain ⟨x121, h148, E⟩ := ob E
                                            refine g_sld rfl h148 ?_
                                            obtain ⟨x122, h149, E⟩ := ob E
                                            refine g_inv2 (dc := 1) rfl (by omega) ty_x (Nat.le_of_ble_eq_true rfl) (fun d hd => tx_reach hd x120 x121 S0 _ h149) ?_
                                            refine g_pop rfl ?_
                                            refine g_aload rfl rfl ?_
                                            refine g_aload rfl rfl ?_
                                            refine g_iload rfl rfl ?_
                                            refine g_push rfl ?_
                                            refine g_iadd rfl ?_
                                            obtain ⟨x123, h150, E⟩ := ob E
                                            refine g_sld rfl h150 ?_
                                            refine g_aload rfl rfl ?_
                                            refine g_iload rfl rfl ?_
                                            refine g_push rfl ?_
                                            refine g_iadd rfl ?_
                                            obtain ⟨x124, h151, E⟩ := ob E
                                            refine g_sld rfl h151 ?_
                                            obtain ⟨x125, S20, h152, E⟩ := ob2 E
                                            refine g_inv2 (dc := 2) rfl (by omega) ty_m (Nat.le_of_ble_eq_true rfl) (fun d hd => tm_reach hd x123 x124 S0 _ _ h152) ?_
                                            refine g_pop rfl ?_
                                            refine g_goto rfl ?_
                                            refine g_iinc (L2 := [(3, .inl (v3 + 4)), (0, .inr (some none)), (1, .inr (some (some 0))), (2, .inr (some (some 697)))]) rfl rfl rfl ?_
                                            refine g_goto rfl ?_
                                            exact g_loc (lsub_cons rfl (lsub_cons rfl (lsub_cons rfl (lsub_cons rfl lsub_nil)))) (hk18 (v3 + 4) S20 _ _ E)
                                          · rcases xif E with ⟨h153, E⟩ | ⟨h153, E⟩
                                            · refine g_tsw (u := 818) rfl (by rw [h153]; decide +kernel) ?_
                                              refine g_aload rfl rfl ?_
                                              refine g_aload rfl rfl ?_
                                              refine g_iload rfl rfl ?_
                                              refine g_push rfl ?_
                                              refine g_iadd rfl ?_
                                              obtain ⟨x126, h154, E⟩ := ob E
                                              refine g_sld rfl h154 ?_
                                              obtain ⟨x127, S21, h155, E⟩ := ob2 E
                                              refine g_inv1 (dc := 1) rfl (by omega) ty_x (Nat.le_of_ble_eq_true rfl) (fun d hd => tx_feed hd x126 S0 _ _ h155) ?_
                                              refine g_pop rfl ?_
                                              refine g_aload rfl rfl ?_
                                              refine g_aload rfl rfl ?_
                                              refine g_iload rfl rfl ?_
                                              refine g_push rfl ?_
                                              refine g_iadd rfl ?_
                                              obtain ⟨x128, h156, E⟩ := ob E
                                              refine g_sld rfl h156 ?_
                                              obtain ⟨x129, S22, h157, E⟩ := ob2 E
                                              refine g_inv1 (dc := 1) rfl (by omega) ty_m (Nat.le_of_ble_eq_true rfl) (fun d hd => tm_feed hd x128 S21 _ _ h157) ?_
                                              refine g_pop rfl ?_
                                              refine g_goto rfl ?_
                                              refine g_iinc (L2 := [(3, .inl (v3 + 4)), (0, .inr (some none)), (1, .inr (some (some 0))), (2, .inr (some (some 697)))]) rfl rfl rfl ?_
                                              refine g_goto rfl ?_
                                              exact g_loc (lsub_cons rfl (lsub_cons rfl (lsub_cons rfl (lsub_cons rfl lsub_nil)))) (hk18 (v3 + 4) S22 _ _ E)
                                            · rcases xif E with ⟨h158, E⟩ | ⟨h158, E⟩
                                              · refine g_tsw (u := 841) rfl (by rw [h158]; decide +kernel) ?_
                                                refine g_aload rfl rfl ?_
                                                obtain ⟨x130, S23, h159, E⟩ := ob2 E
                                                refine g_inv0 (dc := 7) rfl (by omega) ty_x (Nat.le_of_ble_eq_true rfl) (fun d hd => tx_script hd S0 _ _ h159) ?_
                                                refine g_pop rfl ?_
                                                refine g_aload rfl rfl ?_
                                                obtain ⟨x131, S24, h160, E⟩ := ob2 E
                                                refine g_inv0 (dc := 43) rfl (by omega) ty_m (Nat.le_of_ble_eq_true rfl) (fun d hd => tm_script hd S23 _ _ h160) ?_
                                                refine g_pop rfl ?_
                                                refine g_goto rfl ?_
                                                refine g_iinc (L2 := [(3, .inl (v3 + 4)), (0, .inr (some none)), (1, .inr (some (some 0))), (2, .inr (some (some 697)))]) rfl rfl rfl ?_
                                                refine g_goto rfl ?_
                                                exact g_loc (lsub_cons rfl (lsub_cons rfl (lsub_cons rfl (lsub_cons rfl lsub_nil)))) (hk18 (v3 + 4) S24 _ _ E)
                                              · rcases xif E with ⟨h161, E⟩ | ⟨h161, E⟩
                                                · refine g_tsw (u := 854) rfl (by rw [h161]; decide +kernel) ?_
                                                  refine g_aload rfl rfl ?_
                                                  refine g_aload rfl rfl ?_
                                                  refine g_iload rfl rfl ?_
                                                  refine g_push rfl ?_
                                                  refine g_iadd rfl ?_
                                                  obtain ⟨x132, h162, E⟩ := ob E
                                                  refine g_sld rfl h162 ?_
                                                  obtain ⟨x133, S25, h163, E⟩ := ob2 E
                                                  refine g_inv1 (dc := 2) rfl (by omega) ty_x (Nat.le_of_ble_eq_true rfl) (fun d hd => tx_drawn hd x132 S0 _ _ h163) ?_
                                                  refine g_pop rfl ?_
                                                  refine g_aload rfl rfl ?_
                                                  refine g_aload rfl rfl ?_
                                                  refine g_iload rfl rfl ?_
                                                  refine g_push rfl ?_
                                                  refine g_iadd rfl ?_
                                                  obtain ⟨x134, h164, E⟩ := ob E
                                                  refine g_sld rfl h164 ?_
                                                  obtain ⟨x135, S26, h165, E⟩ := ob2 E
                                                  refine g_inv1 (dc := 3) rfl (by omega) ty_m (Nat.le_of_ble_eq_true rfl) (fun d hd => tm_drawn hd x134 S25 _ _ h165) ?_
                                                  refine g_pop rfl ?_
                                                  refine g_goto rfl ?_
                                                  refine g_iinc (L2 := [(3, .inl (v3 + 4)), (0, .inr (some none)), (1, .inr (some (some 0))), (2, .inr (some (some 697)))]) rfl rfl rfl ?_
                                                  refine g_goto rfl ?_
                                                  exact g_loc (lsub_cons rfl (lsub_cons rfl (lsub_cons rfl (lsub_cons rfl lsub_nil)))) (hk18 (v3 + 4) S26 _ _ E)
                                                · rcases xif E with ⟨h166, E⟩ | ⟨h166, E⟩
                                                  · refine g_tsw (u := 877) rfl (by rw [h166]; decide +kernel) ?_
                                                    refine g_aload rfl rfl ?_
                                                    refine g_aload rfl rfl ?_
                                                    refine g_iload rfl rfl ?_
                                                    refine g_push rfl ?_
                                                    refine g_iadd rfl ?_
                                                    obtain ⟨x136, h167, E⟩ := ob E
                                                    refine g_sld rfl h167 ?_
                                                    obtain ⟨x137, S27, h168, E⟩ := ob2 E
                                                    refine g_inv1 (dc := 0) rfl (by omega) ty_x (Nat.le_of_ble_eq_true rfl) (fun d hd => tx_seed hd x136 S0 _ _ h168) ?_
                                                    refine g_pop rfl ?_
                                                    refine g_aload rfl rfl ?_
                                                    refine g_aload rfl rfl ?_
                                                    refine g_iload rfl rfl ?_
                                                    refine g_push rfl ?_
                                                    refine g_iadd rfl ?_
                                                    obtain ⟨x138, h169, E⟩ := ob E
                                                    refine g_sld rfl h169 ?_
                                                    obtain ⟨x139, S28, h170, E⟩ := ob2 E
                                                    refine g_inv1 (dc := 0) rfl (by omega) ty_m (Nat.le_of_ble_eq_true rfl) (fun d hd => tm_seed hd x138 S27 _ _ h170) ?_
                                                    refine g_pop rfl ?_
                                                    refine g_goto rfl ?_
                                                    refine g_iinc (L2 := [(3, .inl (v3 + 4)), (0, .inr (some none)), (1, .inr (some (some 0))), (2, .inr (some (some 697)))]) rfl rfl rfl ?_
                                                    refine g_goto rfl ?_
                                                    exact g_loc (lsub_cons rfl (lsub_cons rfl (lsub_cons rfl (lsub_cons rfl lsub_nil)))) (hk18 (v3 + 4) S28 _ _ E)
                                                  · rcases xif E with ⟨h171, E⟩ | ⟨h171, E⟩
                                                    · refine g_tsw (u := 900) rfl (by rw [h171]; decide +kernel) ?_
                                                      refine g_aload rfl rfl ?_
                                                      refine g_aload rfl rfl ?_
                                                      refine g_iload rfl rfl ?_
                                                      refine g_push rfl ?_
                                                      refine g_iadd rfl ?_
                                                      obtain ⟨x140, h172, E⟩ := ob E
                                                      refine g_sld rfl h172 ?_
                                                      refine g_aload rfl rfl ?_
                                                      refine g_iload rfl rfl ?_
                                                      refine g_push rfl ?_
                                                      refine g_iadd rfl ?_
                                                      obtain ⟨x141, h173, E⟩ := ob E
                                                      refine g_sld rfl h173 ?_
                                                      obtain ⟨x142, S29, h174, E⟩ := ob2 E
                                                      refine g_inv2 (dc := 7) rfl (by omega) ty_x (Nat.le_of_ble_eq_true rfl) (fun d hd => tx_order hd x140 x141 S0 _ _ h174) ?_
                                                      refine g_pop rfl ?_
                                                      refine g_aload rfl rfl ?_
                                                      refine g_aload rfl rfl ?_
                                                      refine g_iload rfl rfl ?_
                                                      refine g_push rfl ?_
                                                      refine g_iadd rfl ?_
                                                      obtain ⟨x143, h175, E⟩ := ob E
                                                      refine g_sld rfl h175 ?_
                                                      refine g_aload rfl rfl ?_
                                                      refine g_iload rfl rfl ?_
                                                      refine g_push rfl ?_
                                                      refine g_iadd rfl ?_
                                                      obtain ⟨x144, h176, E⟩ := ob E
                                                      refine g_sld rfl h176 ?_
                                                      obtain ⟨x145, S30, h177, E⟩ := ob2 E
                                                      refine g_inv2 (dc := 41) rfl (by omega) ty_m (Nat.le_of_ble_eq_true rfl) (fun d hd => tm_order hd x143 x144 S29 _ _ h177) ?_
                                                      refine g_pop rfl ?_
                                                      refine g_goto rfl ?_
                                                      refine g_iinc (L2 := [(3, .inl (v3 + 4)), (0, .inr (some none)), (1, .inr (some (some 0))), (2, .inr (some (some 697)))]) rfl rfl rfl ?_
                                                      refine g_goto rfl ?_
                                                      exact g_loc (lsub_cons rfl (lsub_cons rfl (lsub_cons rfl (lsub_cons rfl lsub_nil)))) (hk18 (v3 + 4) S30 _ _ E)
                                                    · rcases xif E with ⟨h178, E⟩ | ⟨h178, E⟩
                                                      · refine g_tsw (u := 933) rfl (by rw [h178]; decide +kernel) ?_
                                                        refine g_aload rfl rfl ?_
                                                        obtain ⟨x146, S31, h179, E⟩ := ob2 E
                                                        refine g_inv0 (dc := 3) rfl (by omega) ty_x (Nat.le_of_ble_eq_true rfl) (fun d hd => tx_image hd S0 _ _ h179) ?_
                                                        refine g_pop rfl ?_
                                                        refine g_aload rfl rfl ?_
                                                        obtain ⟨x147, S32, h180, E⟩ := ob2 E
                                                        refine g_inv0 (dc := 1) rfl (by omega) ty_m (Nat.le_of_ble_eq_true rfl) (fun d hd => tm_image hd S31 _ _ h180) ?_
                                                        refine g_pop rfl ?_
                                                        refine g_goto rfl ?_
                                                        refine g_iinc (L2 := [(3, .inl (v3 + 4)), (0, .inr (some none)), (1, .inr (some (some 0))), (2, .inr (some (some 697)))]) rfl rfl rfl ?_
                                                        refine g_goto rfl ?_
                                                        exact g_loc (lsub_cons rfl (lsub_cons rfl (lsub_cons rfl (lsub_cons rfl lsub_nil)))) (hk18 (v3 + 4) S32 _ _ E)
                                                      · rcases xif E with ⟨h181, E⟩ | ⟨h181, E⟩
                                                        · refine g_tsw (u := 946) rfl (by rw [h181]; decide +kernel) ?_
                                                          refine g_aload rfl rfl ?_
                                                          obtain ⟨x148, S33, h182, E⟩ := ob2 E
                                                          refine g_inv0 (dc := 3) rfl (by omega) ty_x (Nat.le_of_ble_eq_true rfl) (fun d hd => tx_back hd S0 _ _ h182) ?_
                                                          refine g_aload rfl rfl ?_
                                                          obtain ⟨x149, S34, h183, E⟩ := ob2 E
                                                          refine g_inv0 (dc := 1) rfl (by omega) ty_m (Nat.le_of_ble_eq_true rfl) (fun d hd => tm_back hd S33 _ _ h183) ?_
                                                          rcases xif E with ⟨h184, E⟩ | ⟨h184, E⟩
                                                          · refine g_iceq_t rfl h184 ?_
                                                            refine g_iinc (L2 := [(3, .inl (v3 + 4)), (0, .inr (some none)), (1, .inr (some (some 0))), (2, .inr (some (some 697)))]) rfl rfl rfl ?_
                                                            refine g_goto rfl ?_
                                                            exact g_loc (lsub_cons rfl (lsub_cons rfl (lsub_cons rfl (lsub_cons rfl lsub_nil)))) (hk18 (v3 + 4) S34 _ _ E)
                                                          · refine g_iceq_f rfl h184 ?_
                                                            refine g_push rfl ?_
                                                            obtain ⟨rfl, rfl⟩ := so2 E
                                                            exact g_zret rfl b00
                                                        · rcases xif E with ⟨h185, E⟩ | ⟨h185, E⟩
                                                          · refine g_tsw (u := 959) rfl (by rw [h185]; decide +kernel) ?_
                                                            refine g_aload rfl rfl ?_
                                                            refine g_aload rfl rfl ?_
                                                            refine g_iload rfl rfl ?_
                                                            refine g_push rfl ?_
                                                            refine g_iadd rfl ?_
                                                            obtain ⟨x150, h186, E⟩ := ob E
                                                            refine g_sld rfl h186 ?_
                                                            refine g_aload rfl rfl ?_
                                                            refine g_iload rfl rfl ?_
                                                            refine g_push rfl ?_
                                                            refine g_iadd rfl ?_
                                                            obtain ⟨x151, h187, E⟩ := ob E
                                                            refine g_sld rfl h187 ?_
                                                            obtain ⟨x152, S35, h188, E⟩ := ob2 E
                                                            refine g_inv2 (dc := 1) rfl (by omega) ty_x (Nat.le_of_ble_eq_true rfl) (fun d hd => tx_hold hd x150 x151 S0 _ _ h188) ?_
                                                            refine g_pop rfl ?_
                                                            refine g_aload rfl rfl ?_
                                                            refine g_aload rfl rfl ?_
                                                            refine g_iload rfl rfl ?_
                                                            refine g_push rfl ?_
                                                            refine g_iadd rfl ?_
                                                            obtain ⟨x153, h189, E⟩ := ob E
                                                            refine g_sld rfl h189 ?_
                                                            refine g_aload rfl rfl ?_
                                                            refine g_iload rfl rfl ?_
                                                            refine g_push rfl ?_
                                                            refine g_iadd rfl ?_
                                                            obtain ⟨x154, h190, E⟩ := ob E
                                                            refine g_sld rfl h190 ?_
                                                            obtain ⟨x155, S36, h191, E⟩ := ob2 E
                                                            refine g_inv2 (dc := 2) rfl (by omega) ty_m (Nat.le_of_ble_eq_true rfl) (fun d hd => tm_hold hd x153 x154 S35 _ _ h191) ?_
                                                            refine g_pop rfl ?_
                                                            refine g_goto rfl ?_
                                                            refine g_iinc (L2 := [(3, .inl (v3 + 4)), (0, .inr (some none)), (1, .inr (some (some 0))), (2, .inr (some (some 697)))]) rfl rfl rfl ?_
                                                            refine g_goto rfl ?_
                                                            exact g_loc (lsub_cons rfl (lsub_cons rfl (lsub_cons rfl (lsub_cons rfl lsub_nil)))) (hk18 (v3 + 4) S36 _ _ E)
                                                          · rcases xif E with ⟨h192, E⟩ | ⟨h192, E⟩
                                                            · refine g_tsw (u := 992) rfl (by rw [h192]; decide +kernel) ?_
                                                              refine g_aload rfl rfl ?_
                                                              refine g_aload rfl rfl ?_
                                                              refine g_iload rfl rfl ?_
                                                              refine g_push rfl ?_
                                                              refine g_iadd rfl ?_
                                                              obtain ⟨x156, h193, E⟩ := ob E
                                                              refine g_sld rfl h193 ?_
                                                              refine g_aload rfl rfl ?_
                                                              refine g_iload rfl rfl ?_
                                                              refine g_push rfl ?_
                                                              refine g_iadd rfl ?_
                                                              obtain ⟨x157, h194, E⟩ := ob E
                                                              refine g_sld rfl h194 ?_
                                                              obtain ⟨x158, S37, h195, E⟩ := ob2 E
                                                              refine g_inv2 (dc := 1) rfl (by omega) ty_x (Nat.le_of_ble_eq_true rfl) (fun d hd => tx_row hd x156 x157 S0 _ _ h195) ?_
                                                              refine g_pop rfl ?_
                                                              refine g_aload rfl rfl ?_
                                                              refine g_aload rfl rfl ?_
                                                              refine g_iload rfl rfl ?_
                                                              refine g_push rfl ?_
                                                              refine g_iadd rfl ?_
                                                              obtain ⟨x159, h196, E⟩ := ob E
                                                              refine g_sld rfl h196 ?_
                                                              refine g_aload rfl rfl ?_
                                                              refine g_iload rfl rfl ?_
                                                              refine g_push rfl ?_
                                                              refine g_iadd rfl ?_
                                                              obtain ⟨x160, h197, E⟩ := ob E
                                                              refine g_sld rfl h197 ?_
                                                              obtain ⟨x161, S38, h198, E⟩ := ob2 E
                                                              refine g_inv2 (dc := 2) rfl (by omega) ty_m (Nat.le_of_ble_eq_true rfl) (fun d hd => tm_row hd x159 x160 S37 _ _ h198) ?_
                                                              refine g_pop rfl ?_
                                                              refine g_goto rfl ?_
                                                              refine g_iinc (L2 := [(3, .inl (v3 + 4)), (0, .inr (some none)), (1, .inr (some (some 0))), (2, .inr (some (some 697)))]) rfl rfl rfl ?_
                                                              refine g_goto rfl ?_
                                                              exact g_loc (lsub_cons rfl (lsub_cons rfl (lsub_cons rfl (lsub_cons rfl lsub_nil)))) (hk18 (v3 + 4) S38 _ _ E)
                                                            · rcases xif E with ⟨h199, E⟩ | ⟨h199, E⟩
                                                              · refine g_tsw (u := 1025) rfl (by rw [h199]; decide +kernel) ?_
                                                                refine g_aload rfl rfl ?_
                                                                refine g_aload rfl rfl ?_
                                                                refine g_iload rfl rfl ?_
                                                                refine g_push rfl ?_
                                                                refine g_iadd rfl ?_
                                                                obtain ⟨x162, h200, E⟩ := ob E
                                                                refine g_sld rfl h200 ?_
                                                                refine g_aload rfl rfl ?_
                                                                refine g_iload rfl rfl ?_
                                                                refine g_push rfl ?_
                                                                refine g_iadd rfl ?_
                                                                obtain ⟨x163, h201, E⟩ := ob E
                                                                refine g_sld rfl h201 ?_
                                                                refine g_aload rfl rfl ?_
                                                                refine g_iload rfl rfl ?_
                                                                refine g_push rfl ?_
                                                                refine g_iadd rfl ?_
                                                                obtain ⟨x164, h202, E⟩ := ob E
                                                                refine g_sld rfl h202 ?_
                                                                obtain ⟨x165, S39, h203, E⟩ := ob2 E
                                                                refine g_inv3 (dc := 1) rfl (by omega) ty_x (Nat.le_of_ble_eq_true rfl) (fun d hd => tx_put hd x162 x163 x164 S0 _ _ h203) ?_
                                                                refine g_pop rfl ?_
                                                                refine g_aload rfl rfl ?_
                                                                refine g_aload rfl rfl ?_
                                                                refine g_iload rfl rfl ?_
                                                                refine g_push rfl ?_
                                                                refine g_iadd rfl ?_
                                                                obtain ⟨x166, h204, E⟩ := ob E
                                                                refine g_sld rfl h204 ?_
                                                                refine g_aload rfl rfl ?_
                                                                refine g_iload rfl rfl ?_
                                                                refine g_push rfl ?_
                                                                refine g_iadd rfl ?_
                                                                obtain ⟨x167, h205, E⟩ := ob E
                                                                refine g_sld rfl h205 ?_
                                                                refine g_aload rfl rfl ?_
                                                                refine g_iload rfl rfl ?_
                                                                refine g_push rfl ?_
                                                                refine g_iadd rfl ?_
                                                                obtain ⟨x168, h206, E⟩ := ob E
                                                                refine g_sld rfl h206 ?_
                                                                obtain ⟨x169, S40, h207, E⟩ := ob2 E
                                                                refine g_inv3 (dc := 2) rfl (by omega) ty_m (Nat.le_of_ble_eq_true rfl) (fun d hd => tm_put hd x166 x167 x168 S39 _ _ h207) ?_
                                                                refine g_pop rfl ?_
                                                                refine g_goto rfl ?_
                                                                refine g_iinc (L2 := [(3, .inl (v3 + 4)), (0, .inr (some none)), (1, .inr (some (some 0))), (2, .inr (some (some 697)))]) rfl rfl rfl ?_
                                                                refine g_goto rfl ?_
                                                                exact g_loc (lsub_cons rfl (lsub_cons rfl (lsub_cons rfl (lsub_cons rfl lsub_nil)))) (hk18 (v3 + 4) S40 _ _ E)
                                                              · rcases xif E with ⟨h208, E⟩ | ⟨h208, E⟩
                                                                · refine g_tsw (u := 1068) rfl (by rw [h208]; decide +kernel) ?_
                                                                  refine g_aload rfl rfl ?_
                                                                  refine g_aload rfl rfl ?_
                                                                  refine g_iload rfl rfl ?_
                                                                  refine g_push rfl ?_
                                                                  refine g_iadd rfl ?_
                                                                  obtain ⟨x170, h209, E⟩ := ob E
                                                                  refine g_sld rfl h209 ?_
                                                                  refine g_aload rfl rfl ?_
                                                                  refine g_iload rfl rfl ?_
                                                                  refine g_push rfl ?_
                                                                  refine g_iadd rfl ?_
                                                                  obtain ⟨x171, h210, E⟩ := ob E
                                                                  refine g_sld rfl h210 ?_
                                                                  obtain ⟨x172, h211, E⟩ := ob E
                                                                  refine g_inv2 (dc := 1) rfl (by omega) ty_x (Nat.le_of_ble_eq_true rfl) (fun d hd => tx_tells hd x170 x171 S0 _ h211) ?_
                                                                  refine g_pop rfl ?_
                                                                  refine g_aload rfl rfl ?_
                                                                  refine g_aload rfl rfl ?_
                                                                  refine g_iload rfl rfl ?_
                                                                  refine g_push rfl ?_
                                                                  refine g_iadd rfl ?_
                                                                  obtain ⟨x173, h212, E⟩ := ob E
                                                                  refine g_sld rfl h212 ?_
                                                                  refine g_aload rfl rfl ?_
                                                                  refine g_iload rfl rfl ?_
                                                                  refine g_push rfl ?_
                                                                  refine g_iadd rfl ?_
                                                                  obtain ⟨x174, h213, E⟩ := ob E
                                                                  refine g_sld rfl h213 ?_
                                                                  obtain ⟨x175, h214, E⟩ := ob E
                                                                  refine g_inv2 (dc := 3) rfl (by omega) ty_m (Nat.le_of_ble_eq_true rfl) (fun d hd => tm_tells hd x173 x174 S0 _ h214) ?_
                                                                  refine g_pop rfl ?_
                                                                  refine g_goto rfl ?_
                                                                  refine g_iinc (L2 := [(3, .inl (v3 + 4)), (0, .inr (some none)), (1, .inr (some (some 0))), (2, .inr (some (some 697)))]) rfl rfl rfl ?_
                                                                  refine g_goto rfl ?_
                                                                  exact g_loc (lsub_cons rfl (lsub_cons rfl (lsub_cons rfl (lsub_cons rfl lsub_nil)))) (hk18 (v3 + 4) S0 _ _ E)
                                                                · rcases xif E with ⟨h215, E⟩ | ⟨h215, E⟩
                                                                  · refine g_tsw (u := 1101) rfl (by rw [h215]; decide +kernel) ?_
                                                                    refine g_aload rfl rfl ?_
                                                                    refine g_aload rfl rfl ?_
                                                                    refine g_iload rfl rfl ?_
                                                                    refine g_push rfl ?_
                                                                    refine g_iadd rfl ?_
                                                                    obtain ⟨x176, h216, E⟩ := ob E
                                                                    refine g_sld rfl h216 ?_
                                                                    obtain ⟨x177, h217, E⟩ := ob E
                                                                    refine g_inv1 (dc := 1) rfl (by omega) ty_x (Nat.le_of_ble_eq_true rfl) (fun d hd => tx_count hd x176 S0 _ h217) ?_
                                                                    refine g_pop rfl ?_
                                                                    refine g_aload rfl rfl ?_
                                                                    refine g_aload rfl rfl ?_
                                                                    refine g_iload rfl rfl ?_
                                                                    refine g_push rfl ?_
                                                                    refine g_iadd rfl ?_
                                                                    obtain ⟨x178, h218, E⟩ := ob E
                                                                    refine g_sld rfl h218 ?_
                                                                    obtain ⟨x179, h219, E⟩ := ob E
                                                                    refine g_inv1 (dc := 3) rfl (by omega) ty_m (Nat.le_of_ble_eq_true rfl) (fun d hd => tm_count hd x178 S0 _ h219) ?_
                                                                    refine g_pop rfl ?_
                                                                    refine g_goto rfl ?_
                                                                    refine g_iinc (L2 := [(3, .inl (v3 + 4)), (0, .inr (some none)), (1, .inr (some (some 0))), (2, .inr (some (some 697)))]) rfl rfl rfl ?_
                                                                    refine g_goto rfl ?_
                                                                    exact g_loc (lsub_cons rfl (lsub_cons rfl (lsub_cons rfl (lsub_cons rfl lsub_nil)))) (hk18 (v3 + 4) S0 _ _ E)
                                                                  · refine g_tsw (u := 1124) rfl (tsw_d (sw_def (n := 31) rfl _ (by decide +kernel) (fc h3 (fc h12 (fc h21 (fc h28 (fc h33 (fc h52 (fc h71 (fc h78 (fc h85 (fc h92 (fc h97 (fc h102 (fc h105 (fc h110 (fc h117 (fc h124 (fc h127 (fc h130 (fc h139 (fc h146 (fc h153 (fc h158 (fc h161 (fc h166 (fc h171 (fc h178 (fc h181 (fc h185 (fc h192 (fc h199 (fc h208 (fc h215 fn)))))))))))))))))))))))))))))))))) ?_
                                                                    refine g_iinc (L2 := [(3, .inl (v3 + 4)), (0, .inr (some none)), (1, .inr (some (some 0))), (2, .inr (some (some 697)))]) rfl rfl rfl ?_
                                                                    refine g_goto rfl ?_
                                                                    exact g_loc (lsub_cons rfl (lsub_cons rfl (lsub_cons rfl (lsub_cons rfl lsub_nil)))) (hk18 (v3 + 4) S0 _ _ E)
def fl_law_18 (scr : Nat × (Nat → Int32))  : Nat → Int32 → Mem → Option (Int32 × Mem)
  | 0 => fun _ _ => none
  | n + 1 => fl_law_18b scr (fl_law_18 scr n)
set_option maxRecDepth 20000 in
set_option maxHeartbeats 4000000 in
theorem tl_law_18 {scr : Nat × (Nat → Int32)} {d : Nat} (hd : 44 ≤ d)  : ∀ (n : Nat) (v3 : Int32) (S0 : Mem), ∀ (rv : Int32) (SR : Mem), fl_law_18 scr n v3 S0 = some (rv, SR) → XG scr d 190 18 [(0, .inr (some none)), (1, .inr (some (some 0))), (2, .inr (some (some 697))), (3, .inl v3)] [] S0 (some (.inl rv)) SR
  | 0, v3, S0, rv, SR, E => nn E
  | n + 1, v3, S0, rv, SR, E => tl_law_18b hd  (tl_law_18 hd  n) v3 S0  rv SR E
