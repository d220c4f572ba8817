/-! 64: the law, call by call -/
set_option maxHeartbeats 4000000 in
theorem law_loop {L : Nat} {xs : Nat → Int32} (hL : L ≤ 2048) : ∀ (m n i : Nat) (S : Mem) (w : Wst) (ik : Option Wst) (bl : List Int32) (hd : Nat → Hd), L < 4 * (i + m) + 4 → m < n → i ≤ 513 → REL S w ik bl hd → ∃ S1, fl_law_18 (L, xs) n (Int32.ofNat (4 * i)) S = some (1, S1)
  | _, 0, _, _, _, _, _, _, _, h, _, _ => absurd h (Nat.not_lt_zero _)
  | m, n + 1, i, S, w, ik, bl, hd, hm, hn, hi, h => by
    show ∃ S1, fl_law_18b (L, xs) (fl_law_18 (L, xs) n) (Int32.ofNat (4 * i)) S = some (1, S1)
    unfold fl_law_18b
    by_cases he : L < 4 * i + 4
    · rw [if_pos (show Int32.ofNat (L, xs).1 - 4 < Int32.ofNat (4 * i) from (l_end (by omega) (by omega)).mpr he)]
      exact ⟨S, rfl⟩
    obtain ⟨m, rfl⟩ : ∃ m', m = m' + 1 := ⟨m - 1, by omega⟩
    have go : ∀ {S1 : Mem} {w1 : Wst} {ik1 : Option Wst} {bl1 : List Int32} {hd1 : Nat → Hd}, REL S1 w1 ik1 bl1 hd1 → ∃ S2, fl_law_18 (L, xs) n (Int32.ofNat (4 * (i + 1))) S1 = some (1, S2) := fun {S1 w1 ik1 bl1 hd1} h1 => law_loop hL m n (i + 1) S1 w1 ik1 bl1 hd1 (by omega) (by omega) (by omega) h1
    rw [if_neg (show ¬ (Int32.ofNat (L, xs).1 - 4 < Int32.ofNat (4 * i)) from fun q => he ((l_end (by omega) (by omega)).mp q)), l_1, l_2, l_3, l_4, l_int (by omega) (show 4 * i < L by omega), l_int (by omega) (show 4 * i + 1 < L by omega), l_int (by omega) (show 4 * i + 2 < L by omega), l_int (by omega) (show 4 * i + 3 < L by omega)]
    simp only [obs]
    generalize xs (4 * i) = y0
    generalize xs (4 * i + 1) = y1
    generalize xs (4 * i + 2) = y2
    generalize xs (4 * i + 3) = y3
    by_cases h0 : y0 &&& 31 = 0
    · rw [if_pos h0]
      obtain ⟨r, S1, S2, x0, g1, g2, g3⟩ := e_actor h y1 y2 y3
      rw [g1, bd_some, g2, bd_some]
      exact go g3
    rw [if_neg h0]
    by_cases h1 : y0 &&& 31 = 1
    · rw [if_pos h1]
      obtain ⟨r, S1, S2, x0, g1, g2, g3⟩ := e_tell h y1 y2 y3
      rw [g1, bd_some, g2, bd_some]
      exact go g3
    rw [if_neg h1]
    by_cases h2 : y0 &&& 31 = 2
    · rw [if_pos h2]
      obtain ⟨r, g1, g2⟩ := e_of h y1 y2
      rw [g1, obs, g2, bd_some]
      exact go h
    rw [if_neg h2]
    by_cases h3 : y0 &&& 31 = 3
    · rw [if_pos h3]
      obtain ⟨r, g1, g2⟩ := e_counted h y1
      rw [g1, obs, g2, obs]
      exact go h
    rw [if_neg h3]
    by_cases h4 : y0 &&& 31 = 4
    · rw [if_pos h4]
      by_cases z : y3 = 0
      · obtain ⟨r, g1, g2⟩ := e_message h y1 y2 0
        rw [if_pos z, g1, obs, if_pos z, g2, obs]
        exact go h
      · obtain ⟨r, g1, g2⟩ := e_message h y1 y2 1
        rw [if_neg z, g1, obs, if_neg z, g2, obs]
        exact go h
    rw [if_neg h4]
    by_cases h5 : y0 &&& 31 = 5
    · rw [if_pos h5]
      by_cases z : y3 = 0
      · obtain ⟨r, r2, g1, g2⟩ := e_sender h y1 y2 0
        rw [if_pos z, g1, obs, if_pos z, g2, obs]
        exact go h
      · obtain ⟨r, r2, g1, g2⟩ := e_sender h y1 y2 1
        rw [if_neg z, g1, obs, if_neg z, g2, obs]
        exact go h
    rw [if_neg h5]
    by_cases h6 : y0 &&& 31 = 6
    · rw [if_pos h6]
      obtain ⟨r, g1, g2⟩ := e_stack h y1 y2
      rw [g1, obs, g2, obs]
      exact go h
    rw [if_neg h6]
    by_cases h7 : y0 &&& 31 = 7
    · rw [if_pos h7]
      obtain ⟨r, g1, g2⟩ := e_watcher h y1 y2
      rw [g1, obs, g2, obs]
      exact go h
    rw [if_neg h7]
    by_cases h8 : y0 &&& 31 = 8
    · rw [if_pos h8]
      obtain ⟨r, g1, g2⟩ := e_timer h y1 y2
      rw [g1, obs, g2, obs]
      exact go h
    rw [if_neg h8]
    by_cases h9 : y0 &&& 31 = 9
    · rw [if_pos h9]
      obtain ⟨r, S1, S2, x0, g1, g2, g3⟩ := e_stop h y1
      rw [g1, bd_some, g2, bd_some]
      exact go g3
    rw [if_neg h9]
    by_cases h10 : y0 &&& 31 = 10
    · rw [if_pos h10]
      obtain ⟨r, S1, S2, x0, g1, g2, g3⟩ := e_run h y1
      rw [g1, bd_some, g2, bd_some]
      exact go g3
    rw [if_neg h10]
    by_cases h11 : y0 &&& 31 = 11
    · rw [if_pos h11]
      obtain ⟨r, g1, g2⟩ := e_ended h
      rw [g1, obs, g2, obs]
      exact go h
    rw [if_neg h11]
    by_cases h12 : y0 &&& 31 = 12
    · rw [if_pos h12]
      obtain ⟨r, g1, g2⟩ := e_log h y1
      rw [g1, obs, g2, obs]
      exact go h
    rw [if_neg h12]
    by_cases h13 : y0 &&& 31 = 13
    · rw [if_pos h13]
      obtain ⟨r, g1, g2⟩ := e_cause h y1 y2
      rw [g1, obs, g2, obs]
      exact go h
    rw [if_neg h13]
    by_cases h14 : y0 &&& 31 = 14
    · rw [if_pos h14]
      obtain ⟨r, S1, S2, g1, g2, g3⟩ := e_dry h y1 y2
      rw [g1, bd_some, g2, bd_some]
      exact go g3
    rw [if_neg h14]
    by_cases h15 : y0 &&& 31 = 15
    · rw [if_pos h15]
      obtain ⟨r, S1, S2, g1, g2, g3⟩ := e_first h
      rw [g1, bd_some, g2, bd_some]
      exact go g3
    rw [if_neg h15]
    by_cases h16 : y0 &&& 31 = 16
    · rw [if_pos h16]
      obtain ⟨r, S1, S2, g1, g2, g3⟩ := e_quiet h
      rw [g1, bd_some, g2, bd_some]
      exact go g3
    rw [if_neg h16]
    by_cases h17 : y0 &&& 31 = 17
    · rw [if_pos h17]
      obtain ⟨r, S1, S2, g1, g2, g3⟩ := e_would h y1 y2 y3
      rw [g1, bd_some, g2, bd_some]
      exact go g3
    rw [if_neg h17]
    by_cases h18 : y0 &&& 31 = 18
    · rw [if_pos h18]
      obtain ⟨r, S1, S2, g1, g2, g3⟩ := e_brings h y1 y2
      rw [g1, bd_some, g2, bd_some]
      exact go g3
    rw [if_neg h18]
    by_cases h19 : y0 &&& 31 = 19
    · rw [if_pos h19]
      obtain ⟨r, S2, g1, g2, g3⟩ := e_reach h y1 y2
      rw [g1, obs, g2, bd_some]
      exact go g3
    rw [if_neg h19]
    by_cases h20 : y0 &&& 31 = 20
    · rw [if_pos h20]
      obtain ⟨r, S1, S2, x0, g1, g2, g3⟩ := e_feed h y1
      rw [g1, bd_some, g2, bd_some]
      exact go g3
    rw [if_neg h20]
    by_cases h21 : y0 &&& 31 = 21
    · rw [if_pos h21]
      obtain ⟨r, r2, S1, S2, x0, g1, g2, g3⟩ := e_script h
      rw [g1, bd_some, g2, bd_some]
      exact go g3
    rw [if_neg h21]
    by_cases h22 : y0 &&& 31 = 22
    · rw [if_pos h22]
      obtain ⟨r, S1, S2, x0, g1, g2, g3⟩ := e_drawn h y1
      rw [g1, bd_some, g2, bd_some]
      exact go g3
    rw [if_neg h22]
    by_cases h23 : y0 &&& 31 = 23
    · rw [if_pos h23]
      obtain ⟨r, S1, S2, x0, g1, g2, g3⟩ := e_seed h y1
      rw [g1, bd_some, g2, bd_some]
      exact go g3
    rw [if_neg h23]
    by_cases h24 : y0 &&& 31 = 24
    · rw [if_pos h24]
      obtain ⟨r, S1, S2, g1, g2, g3⟩ := e_order h y1 y2
      rw [g1, bd_some, g2, bd_some]
      exact go g3
    rw [if_neg h24]
    by_cases h25 : y0 &&& 31 = 25
    · rw [if_pos h25]
      obtain ⟨r, S1, S2, x0, g1, g2, g3⟩ := e_image h
      rw [g1, bd_some, g2, bd_some]
      exact go g3
    rw [if_neg h25]
    by_cases h26 : y0 &&& 31 = 26
    · rw [if_pos h26]
      obtain ⟨r, S1, S2, x0, x1, g1, g2, g3⟩ := e_back h
      rw [g1, bd_some, g2, bd_some, if_pos rfl]
      exact go g3
    rw [if_neg h26]
    by_cases h27 : y0 &&& 31 = 27
    · rw [if_pos h27]
      obtain ⟨r, S1, S2, x0, g1, g2, g3⟩ := e_hold h y1 y2
      rw [g1, bd_some, g2, bd_some]
      exact go g3
    rw [if_neg h27]
    by_cases h28 : y0 &&& 31 = 28
    · rw [if_pos h28]
      obtain ⟨r, S1, S2, x0, g1, g2, g3⟩ := e_row h y1 y2
      rw [g1, bd_some, g2, bd_some]
      exact go g3
    rw [if_neg h28]
    by_cases h29 : y0 &&& 31 = 29
    · rw [if_pos h29]
      obtain ⟨r, S1, S2, x0, g1, g2, g3⟩ := e_put h y1 y2 y3
      rw [g1, bd_some, g2, bd_some]
      exact go g3
    rw [if_neg h29]
    by_cases h30 : y0 &&& 31 = 30
    · rw [if_pos h30]
      obtain ⟨r, g1, g2⟩ := e_tells h y1 y2
      rw [g1, obs, g2, obs]
      exact go h
    rw [if_neg h30]
    by_cases h31 : y0 &&& 31 = 31
    · rw [if_pos h31]
      obtain ⟨r, g1, g2⟩ := e_count h y1
      rw [g1, obs, g2, obs]
      exact go h
    rw [if_neg h31]
    exact go h
theorem law_all {L : Nat} (xs : Nat → Int32) (hL : L ≤ 2048) : ∃ S1, fl_law_18 (L, xs) LF 0 I0 = some (1, S1) := by
  have h := law_loop (xs := xs) hL 512 LF 0 I0 w00 none [] h00 (by omega) (by decide) (by decide) rel_0
  exact h
