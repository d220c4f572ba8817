/-! 51: calls: texts fed, rows, handles told, images -/
section
variable {S : Mem} {w : Wst} {ik : Option Wst} {bl : List Int32} {hd : Nat → Hd}
theorem REL.tape {S2 : Mem} {bl' : List Int32} (h : REL S w ik bl hd) (hc : ∀ b, b < 697 → (b < 673 ∨ 679 ≤ b) → S2 b = S b) (hm : S2 697 4 = S 697 4) (hm2 : ∀ b, (b = 698 ∨ b = 701 ∨ (704 ≤ b ∧ b ≤ 706) ∨ (708 ≤ b ∧ b < 714)) → S2 b = S b) (k1 : RN S2 674 bl') (k2 : MTp S2 bl') (hl : bl'.length ≤ 120) (hq : ∀ q ∈ bl', okN 256 q) : REL S2 w ik bl' hd := by
  obtain ⟨⟨c1, c2, c3, c4⟩, ⟨m1, m2, m3, m4⟩, g1, g2, g3, g4, g5⟩ := h
  refine ⟨⟨c1.congr g1.1.1 fun b q => hc b (by have := q.2; omega) (by have := q.2; omega), c2.congr g2 (hc 0 (by decide) (by omega)) fun b q => hc b (by have := q.2; omega) (by have := q.2; omega), k1, c4.congr fun b q1 q2 => hc b q2 (by omega)⟩, ⟨by rw [hm2 698 (by omega)]; exact m1, m2.congr hm (hm2 _ (by omega)), k2, m4.congr (hm2 _ (by omega)) (hm2 _ (by omega)) (hm2 _ (by omega)) fun b q1 q2 => hm2 b (by omega)⟩, g1, g2, hl, hq, g5⟩
theorem ln703 : ln 703 = 120 ∧ ln 675 = 120 := by decide +kernel
theorem e_feed (h : REL S w ik bl hd) (v : Int32) : ∃ r S1 S2 bl', fx_feed v S = some (r, S1) ∧ fm_feed v S1 = some (r, S2) ∧ REL S2 w ik bl' hd := by
  have hbl := h.2.2.2.2.1
  have hR : RN S 674 bl := h.1.2.2.1
  have hT := h.2.1.2.2.1
  unfold fx_feed fm_feed
  by_cases h1 : v < 0
  · rw [if_pos h1]
    refine ⟨_, S, S, bl, rfl, ?_, h⟩
    rw [in_ok, if_neg (fun q => q.1 h1), obs, if_pos rfl]
  · rw [if_neg h1]
    by_cases h2 : v ≤ 255
    · have hv : okN 256 v := by
        rcases nn_cases v with hv | ⟨n, hn, rfl⟩
        · exact absurd hv h1
        · rw [show (255 : Int32) = Int32.ofNat 255 from rfl, n_le hn (by decide)] at h2
          exact ⟨n, by omega, rfl⟩
      rw [if_pos h2]
      by_cases g : bl.length < 120
      · obtain ⟨S1, q1, q2, q3⟩ := n_add_ok v hR (by show _ < ln 675; rw [ln703.2]; exact g) (by show ln 675 < _; rw [ln703.2]; decide)
        have e697 : S1 697 = S 697 := q3 697 fun q => by rcases q with q | q <;> omega
        have e11 : S1 697 11 = Int32.ofNat bl.length := by rw [e697]; exact hT.1
        rw [q1, bd_some, if_neg n10]
        refine ⟨_, S1, up2 (up2 S1 697 11 (Int32.ofNat (bl.length + 1))) 703 bl.length v, bl ++ [v], rfl, ?_, ?_⟩
        · rw [in_ok, if_pos ⟨h1, Int32.not_lt.mpr h2⟩, obs, if_neg n10, e11, if_neg (show ¬ Int32.ofNat bl.length = 120 from fun q => by rw [show (120 : Int32) = Int32.ofNat 120 from rfl, n_inj (by omega) (by decide)] at q; omega), n_succ, obs, ast_n (by rw [ln703.1]; exact g) (by rw [ln703.1]; decide), obs, up2_off (by decide), up2_self, q2.1, List.length_append]
          rfl
        · refine h.tape (fun b p1 p2 => ?_) ?_ (fun b p => ?_) (q2.congr (by rw [up2_off (by omega), up2_off (by omega)]) (by rw [up2_off (by omega), up2_off (by omega)])) ⟨?_, fun i hi => ?_⟩ ?_ ?_
          · rw [up2_off (by omega), up2_off (by omega)]
            exact q3 b fun q => by rcases q with q | q <;> omega
          · rw [up2_off (by decide), up2_nf (by decide), e697]
          · rw [up2_off (by omega), up2_off (by omega)]
            exact q3 b fun q => by rcases q with q | q <;> omega
          · rw [up2_off (by decide), up2_self, List.length_append]
            rfl
          · rw [List.length_append] at hi
            have hi2 : i < bl.length + 1 := hi
            by_cases e : i < bl.length
            · rw [List.getElem?_append_left e, hT.2 i e, up2_nf (by omega), up2_off (by decide), q3 703 fun q => by rcases q with q | q <;> omega]
            · have e2 : i = bl.length := by omega
              rw [e2, List.getElem?_append_right (Nat.le_refl _), Nat.sub_self, up2_self]
              rfl
          · rw [List.length_append]
            show bl.length + 1 ≤ 120
            omega
          · intro q hq
            rcases List.mem_append.mp hq with p | p
            · exact h.2.2.2.2.2.1 q p
            · rw [List.mem_singleton.mp p]
              exact hv
      · have e : bl.length = 120 := by omega
        rw [n_add_full v hR (by show _ = ln 675; rw [ln703.2]; exact e) (by show ln 675 < _; rw [ln703.2]; decide), bd_some, if_pos rfl]
        refine ⟨_, S, S, bl, rfl, ?_, h⟩
        rw [in_ok, if_pos ⟨h1, Int32.not_lt.mpr h2⟩, obs, if_neg n10, hT.1, if_pos (by rw [e]; rfl)]
    · rw [if_neg h2]
      refine ⟨_, S, S, bl, rfl, ?_, h⟩
      rw [in_ok, if_neg (fun q => q.2 (Int32.not_le.mp h2)), obs, if_pos rfl]
theorem e_put (h : REL S w ik bl hd) (v1 v2 v3 : Int32) : ∃ r S1 S2 hd', fx_put v1 v2 v3 S = some (r, S1) ∧ fm_put v1 v2 v3 S1 = some (r, S2) ∧ REL S2 w ik bl hd' := by
  unfold fx_put fm_put
  rcases hand_cases v1 S S with ⟨j, hj, rfl, e1, e2⟩ | ⟨e1, e2⟩
  · obtain ⟨cc1, cc2, cc3⟩ := h.1.2.2.2 j hj
    obtain ⟨mm1, mm2, mm3⟩ := h.2.1.2.2.2 j hj
    obtain ⟨oo1, oo2, oo3⟩ := h.2.2.2.2.2.2 j hj
    rw [e1, obs, if_neg n10, ix_n hj (by decide), obs, cc1]
    by_cases g : (hd j).1 = 2
    · have hl := oo3 g
      have hRN := cc3 g
      obtain ⟨mr1, mr2⟩ := mm3 g
      obtain ⟨hl1, hl2⟩ := lnH.2.2.2 j hj
      generalize hL : (hd j).2.2 = l at *
      have hsz : S (679 + 3 * j + 1) 1 = Int32.ofNat l.length := hRN.1
      rw [if_pos g, obs]
      rcases nn_cases v2 with hv | ⟨i, hi, rfl⟩
      · rw [if_pos hv]
        refine ⟨_, S, S, hd, rfl, ?_, h⟩
        rw [e2, obs, if_neg n10, c704 hj, obs, mm1, if_pos g, c706 hj, obs, in_ok, if_neg (fun q => q.1 hv), obs, if_pos rfl]
      · rw [if_neg (n_neg hi), hsz]
        by_cases gi : i < l.length
        · have hm : l[i]? = some l[i] := List.getElem?_eq_getElem gi
          have hch : fn_change (679 + 3 * j + 1) (Int32.ofNat i) v3 S = some (up2 S (679 + 3 * j + 1 + 1) i v3) := by
            unfold fn_change
            rw [if_neg (n_neg hi), hl2, if_neg (fun q => by rw [n_le (by decide) hi] at q; omega), ast_n (by rw [hl2]; omega) (by rw [hl2]; decide), obs]
          have hin : fm_in (Int32.ofNat i) 0 (Int32.ofNat l.length - 1) (up2 S (679 + 3 * j + 1 + 1) i v3) = some 1 := by
            rw [in_ok, if_pos ⟨n_neg hi, fun q => by rw [show (1 : Int32) = Int32.ofNat 1 from rfl, n_sub (by omega), n_lt (by omega) hi] at q; omega⟩]
          have x704 : (up2 S (679 + 3 * j + 1 + 1) i v3) 704 = S 704 := up2_off (by omega)
          have x706 : (up2 S (679 + 3 * j + 1 + 1) i v3) 706 = S 706 := up2_off (by omega)
          have x708 : (up2 S (679 + 3 * j + 1 + 1) i v3) (708 + j) = S (708 + j) := up2_off (by omega)
          have hcell : S (708 + j) i = l[i] := by
            have := mr2 i gi
            rw [hm] at this
            exact (Option.some.inj this).symm
          rw [if_pos ((n_lt hi (by omega)).mpr gi), n_at_ok hRN hm (by rw [hl2]; exact hl) (by rw [hl2]; decide), obs, hch, obs]
          refine ⟨_, _, up2 (up2 S (679 + 3 * j + 1 + 1) i v3) (708 + j) i v3, xup hd j (2, 0, l.set i v3), rfl, ?_, ?_⟩
          · rw [hand_m hj, obs, if_neg n10, c704 hj, obs, x704, mm1, if_pos g, c706 hj, obs, x706, mr1, hin, obs, if_neg n10, obs, ald_n (by rw [hl1]; omega) (by rw [hl1]; decide), obs, obs, ast_n (by rw [hl1]; omega) (by rw [hl1]; decide), obs, x708, hcell]
          · have hset : ∀ k, k < (l.set i v3).length → ∀ (g : Nat → Int32), (∀ k, k < l.length → l[k]? = some (g k)) → (l.set i v3)[k]? = some (upd g i v3 k) := fun k hk g hg => by
              rw [List.length_set] at hk
              rw [List.getElem?_set]
              by_cases q : i = k
              · rw [if_pos q, if_pos gi, ← q, upd_s]
              · rw [if_neg q, upd_n (Ne.symm q)]
                exact hg k hk
            refine h.hnd hj ⟨Or.inr (Or.inr rfl), fun q => absurd (show (2 : Int32) = 1 from q) (by decide), fun _ => by show (l.set i v3).length ≤ 60; rw [List.length_set]; exact hl⟩ (fun b q1 q2 => ?_) ⟨?_, ?_, ?_, ?_⟩ (fun i q => ?_) (fun i q => ?_) (fun i q => ?_) (fun i q1 q2 => ?_) ⟨?_, fun q => absurd (show (2 : Int32) = 1 from q) (by decide), fun _ => ⟨?_, fun k hk => ?_⟩⟩ ⟨?_, fun q => absurd (show (2 : Int32) = 1 from q) (by decide), fun _ => ⟨?_, fun k hk => ?_⟩⟩
            · rw [up2_off (by omega), up2_off (by omega)]
            · rw [up2_off (by omega), up2_off (by omega)]
            · rw [up2_off (by omega), up2_off (by omega)]
            · rw [up2_off (by omega), up2_off (by omega)]
            · rw [up2_off (by omega), up2_off (by omega)]
            · rw [up2_off (by omega), up2_off (by omega)]
            · rw [up2_off (by omega), up2_off (by omega)]
            · rw [up2_off (by omega), up2_off (by omega)]
            · rw [up2_off (by omega), up2_off (by omega)]
            · rw [up2_off (by omega), up2_off (by omega), cc1, g]
            · rw [up2_off (by omega), up2_off (by omega), hsz]
              show _ = Int32.ofNat (l.set i v3).length
              rw [List.length_set]
            · rw [up2_off (by omega)]
              have e : up2 S (679 + 3 * j + 1 + 1) i v3 (679 + 3 * j + 1 + 1) = upd (S (679 + 3 * j + 1 + 1)) i v3 := xup_s
              rw [e]
              exact hset k hk _ hRN.2
            · rw [up2_off (by omega), up2_off (by omega), mm1, g]
            · rw [up2_off (by omega), up2_off (by omega), mr1]
              show _ = Int32.ofNat (l.set i v3).length
              rw [List.length_set]
            · have e : up2 (up2 S (679 + 3 * j + 1 + 1) i v3) (708 + j) i v3 (708 + j) = upd (S (708 + j)) i v3 := by
                show xup _ (708 + j) _ (708 + j) = _
                rw [xup_s, x708]
              rw [e]
              exact hset k hk _ mr2
        · rw [if_neg (fun q => gi ((n_lt hi (by omega)).mp q))]
          refine ⟨_, S, S, hd, rfl, ?_, h⟩
          have hin : fm_in (Int32.ofNat i) 0 (Int32.ofNat l.length - 1) S = some 0 := by
            rw [in_ok, if_neg]
            rintro ⟨-, q⟩
            refine q ?_
            rw [Int32.lt_iff_toInt_lt, n_int hi]
            by_cases e0 : l.length = 0
            · rw [e0]
              have : (Int32.ofNat 0 - 1 : Int32).toInt = -1 := by decide
              omega
            · rw [show (1 : Int32) = Int32.ofNat 1 from rfl, n_sub (by omega), n_int (by omega)]
              omega
          rw [e2, obs, if_neg n10, c704 hj, obs, mm1, if_pos g, c706 hj, obs, mr1, hin, obs, if_pos rfl]
    · rw [if_neg g]
      refine ⟨_, S, S, hd, rfl, ?_, h⟩
      rw [e2, obs, if_neg n10, c704 hj, obs, mm1, if_neg g]
  · rw [e1, obs, if_pos rfl]
    refine ⟨_, S, S, hd, rfl, ?_, h⟩
    rw [e2, obs, if_pos rfl]
theorem in03 (v : Int32) (S1 : Mem) : (v < 0 ∧ fm_in v 0 3 S1 = some 0) ∨ (¬ v < 0 ∧ 3 < v ∧ fm_in v 0 3 S1 = some 0) ∨ (¬ v < 0 ∧ ¬ 3 < v ∧ fm_in v 0 3 S1 = some 1 ∧ (v = 0 ∨ v = 1 ∨ v = 2 ∨ v = 3)) := by
  rw [in_ok]
  by_cases h1 : v < 0
  · exact Or.inl ⟨h1, by rw [if_neg (fun q => q.1 h1)]⟩
  · by_cases h2 : 3 < v
    · exact Or.inr (Or.inl ⟨h1, h2, by rw [if_neg (fun q => q.2 h2)]⟩)
    · refine Or.inr (Or.inr ⟨h1, h2, by rw [if_pos ⟨h1, h2⟩], ?_⟩)
      rcases nn_cases v with hv | ⟨n, hn, rfl⟩
      · exact absurd hv h1
      · rw [show (3 : Int32) = Int32.ofNat 3 from rfl, n_lt (by decide) hn] at h2
        have : n = 0 ∨ n = 1 ∨ n = 2 ∨ n = 3 := by omega
        rcases this with rfl | rfl | rfl | rfl
        · exact Or.inl rfl
        · exact Or.inr (Or.inl rfl)
        · exact Or.inr (Or.inr (Or.inl rfl))
        · exact Or.inr (Or.inr (Or.inr rfl))
theorem e_tells (h : REL S w ik bl hd) (v1 v2 : Int32) : ∃ r, fx_tells v1 v2 S = some r ∧ fm_tells v1 v2 S = some r := by
  have hI := h.2.2.1.1
  have h12 := hI.1
  unfold fx_tells fm_tells
  rcases hand_cases v1 S S with ⟨j, hj, rfl, e1, e2⟩ | ⟨e1, e2⟩
  · obtain ⟨cc1, cc2, cc3⟩ := h.1.2.2.2 j hj
    obtain ⟨mm1, mm2, mm3⟩ := h.2.1.2.2.2 j hj
    obtain ⟨oo1, oo2, oo3⟩ := h.2.2.2.2.2.2 j hj
    rw [e1, obs, if_neg n10, e2, obs, if_neg n10]
    rcases in03 v2 S with ⟨q1, q2⟩ | ⟨q1, q2, q3⟩ | ⟨q1, q2, q3, q4⟩
    · rw [if_pos q1, q2, obs, if_pos rfl]
      exact ⟨_, rfl, rfl⟩
    · rw [if_neg q1, if_pos q2, q3, obs, if_pos rfl]
      exact ⟨_, rfl, rfl⟩
    · rw [if_neg q1, if_neg q2, q3, obs, if_neg n10, ix_n hj (by decide), obs, cc1, c704 hj, obs, mm1]
      by_cases g0 : (hd j).1 = 0
      · rw [if_pos g0, obs, if_pos g0]
        exact ⟨_, rfl, rfl⟩
      · rw [if_neg g0]
        simp only [obs]
        rw [if_neg g0, c705 hj, obs, cc1]
        by_cases g1 : (hd j).1 = 1
        · obtain ⟨a, ha, ea⟩ := oo2 g1
          have ha12 : a < 12 := by omega
          have hA := h.1.1.2.2.1 a ha
          have hM := h.2.1.1.2.2.1 a ha
          have hx := hI.fit ha
          obtain ⟨l1, l2⟩ := live_both h ha
          have x1 : fw_childBits 1 (Int32.ofNat a) S = some (sBits (fun b => decide (aI (wA w b) 0 = Int32.ofNat a)) (wN w) 0 0) := w_childBits_ok h.1.1 hI
          have x2 : fm_childrenOf (Int32.ofNat a) S = some (sBits (fun b => decide (aI (wA w b) 0 = Int32.ofNat a)) (wN w) 0 0) := by
            have := m_childrenOf_ok (S := S) (v := Int32.ofNat a) h.2.1.1 hI
            rwa [gM_eta] at this
          have x3 : fw_liveBits 1 S = some (sBits (sLive w) (wN w) 0 0) := w_liveBits_ok h.1.1 hI
          have x4 : fm_liveOnes S = some (sBits (sLive w) (wN w) 0 0) := by
            have := m_liveOnes_ok (S := S) h.2.1.1 hI
            rwa [gM_eta] at this
          have x5 := and_count (S := S) (S1 := S) (p := fun b => decide (aI (wA w b) 0 = Int32.ofNat a)) (q := sLive w) h12
          have x6 : ∃ r, fj_bitCount (sBits (fun b => decide (aI (wA w b) 0 = Int32.ofNat a)) (wN w) 0 0 &&& sBits (sLive w) (wN w) 0 0) S = some r := ⟨_, rfl⟩
          obtain ⟨rc, hrc⟩ := x6
          rw [if_pos g1, if_pos g1, cc2 g1, mm2 g1, ea, w_isActor_ok h.1.1 h12 ha, obs, if_neg n10, ix_n ha12 (by decide), obs, x1, obs]
          unfold fm_tells_51
          rcases q4 with rfl | rfl | rfl | rfl
          · rw [if_neg (by decide), if_neg (by decide), if_neg (by decide), if_pos rfl]
            unfold fm_tells_121
            rw [if_neg (by decide), if_pos rfl]
            exact ⟨_, rfl, rfl⟩
          · rw [if_pos (show (1 : Int32) = 1 from rfl), if_neg n10, if_neg n10, if_neg (show ¬ (1 : Int32) = 3 by decide), if_pos (show (1 : Int32) = 1 from rfl), x2, obs]
            by_cases g : sBits (fun b => decide (aI (wA w b) 0 = Int32.ofNat a)) (wN w) 0 0 = 0
            · rw [if_pos g, if_pos g]
              unfold fm_tells_121
              rw [if_neg (by decide), if_neg (by decide), if_pos rfl, a6 ha12, obs, hA.1 5 (by decide), hM.1.2.2.2.2.2.2]
              exact ⟨_, rfl, rfl⟩
            · rw [if_neg g, if_neg g]
              unfold fm_tells_121
              rw [if_pos (by decide)]
              exact ⟨_, rfl, rfl⟩
          · rw [if_neg (show ¬ (2 : Int32) = 1 by decide), if_pos (show (2 : Int32) = 2 from rfl), if_neg (show ¬ (2 : Int32) = 0 by decide), if_neg n10, if_neg (show ¬ (2 : Int32) = 3 by decide), if_neg (show ¬ (2 : Int32) = 1 by decide), x2, obs]
            by_cases g : sBits (fun b => decide (aI (wA w b) 0 = Int32.ofNat a)) (wN w) 0 0 = 0
            · rw [if_pos g, if_pos g]
              unfold fm_tells_121
              rw [if_pos (by decide)]
              exact ⟨_, rfl, rfl⟩
            · rw [if_neg g, if_neg g, x3, obs, hrc, obs]
              unfold fm_tells_121
              rw [if_neg (by decide), if_neg (by decide), if_neg (by decide), if_pos rfl, x2, obs, x4, obs, ← x5, hrc, obs]
              exact ⟨_, rfl, rfl⟩
          · rw [if_neg (show ¬ (3 : Int32) = 1 by decide), if_neg (show ¬ (3 : Int32) = 2 by decide), if_pos (show (3 : Int32) = 3 from rfl), if_neg (show ¬ (3 : Int32) = 0 by decide), if_neg n10, if_pos (show (3 : Int32) = 3 from rfl), l2, obs, hA.1 6 (by decide)]
            by_cases e : sLive w a = true
            · rw [if_neg (live_6 e), if_pos e, if_neg n10, hA.2.2.1.1, a13 ha12, obs, hM.2.2.1.1]
              by_cases g : Int32.ofNat (aMail (wA w a)).length = 0
              · rw [if_pos g, if_pos g, hA.2.2.2.1.1]
                unfold fm_tells_121
                rw [if_neg (by decide), if_neg (by decide), if_neg (by decide), if_neg (by decide), a38 ha12, obs, hM.2.2.2.1.1]
                exact ⟨_, rfl, rfl⟩
              · rw [if_neg g, if_neg g]
                unfold fm_tells_121
                rw [if_pos (by decide)]
                exact ⟨_, rfl, rfl⟩
            · have e6 : aI (wA w a) 6 = 0 := (hI.b ha).resolve_right fun q => e (sLive_of ha q)
              rw [if_pos e6, if_neg e, if_pos rfl]
              unfold fm_tells_121
              rw [if_pos (by decide)]
              exact ⟨_, rfl, rfl⟩
        · rw [if_neg g1, if_neg g1]
          unfold fm_tells_51
          by_cases g : v2 = 0
          · rw [if_pos g]
            unfold fm_tells_121
            rw [if_pos (by decide)]
            exact ⟨_, rfl, rfl⟩
          · rw [if_neg g, if_pos rfl]
            unfold fm_tells_121
            rw [if_pos (by decide)]
            exact ⟨_, rfl, rfl⟩
  · rw [e1, obs, if_pos rfl, e2, obs, if_pos rfl]
    exact ⟨_, rfl, rfl⟩
/-! images -/
theorem e_image (h : REL S w ik bl hd) : ∃ r S1 S2 ik', fx_image S = some (r, S1) ∧ fm_image S1 = some (r, S2) ∧ REL S2 w ik' bl hd := by
  obtain ⟨⟨c1, c2, c3, c4⟩, ⟨m1, m2, m3, m4⟩, g1, g2, g3, g4, g5⟩ := h
  obtain ⟨S1, q1, q2, q3⟩ := w_copy_ok (W := 337) (V := 1) (Or.inr (Or.inr (Or.inl rfl))) (Or.inl rfl) (by decide) c1 g1.1
  have hoff : ∀ b, (b < 337 ∨ 505 ≤ b) → S1 b = S b := fun b hb => q3.1 b fun q => by
    have := q.1
    have := q.2
    omega
  have ht := take_ok (S := up2 S1 0 6 1) (a := 698) (b := 701) (by decide) ln698 ln_4.2.2
  unfold fx_image fm_image
  rw [q1, obs, obs]
  have e4 : (up2 S1 0 6 1) 337 4 = Int32.ofNat (wN w) := by rw [up2_off (by decide)]; exact q2.1
  have x698 : (up2 S1 0 6 1) 698 = S 698 := by rw [up2_off (by decide), hoff 698 (by omega)]
  obtain ⟨X, hX⟩ : ∃ X, X = up2 (xup (up2 S1 0 6 1) 701 (tk ((up2 S1 0 6 1) 698) ((up2 S1 0 6 1) 701))) 697 4 1 := ⟨_, rfl⟩
  have Xoff : ∀ b, b ≠ 701 → b ≠ 697 → b ≠ 0 → X b = S1 b := fun b p1 p2 p3 => by
    rw [hX, up2_off p2, xup_ne p1, up2_off p3]
  have X0 : X 0 6 = 1 := by
    rw [hX, up2_off (by decide), xup_ne (by decide), up2_self]
  have X701 : X 701 = tk (S 698) ((up2 S1 0 6 1) 701) := by
    rw [hX, up2_off (by decide), xup_self, x698]
  have X4 : X 697 4 = 1 := by rw [hX, up2_self]
  have X11 : X 697 11 = S 697 11 := by
    rw [hX, up2_nf (by decide), xup_ne (by decide), up2_off (by decide), hoff 697 (by omega)]
  refine ⟨_, _, X, some w, rfl, ?_, ?_⟩
  · rw [ht, obs, ← hX, obs, v924, obs, Xoff 698 (by decide) (by decide) (by decide), hoff 698 (by omega), m1.1, e4]
  · refine ⟨⟨c1.congr g1.1.1 fun b q => ?_, ⟨X0, q2.congr g1.1.1 fun b q => Xoff b ?_ ?_ ?_⟩, c3.congr ?_ ?_, c4.congr fun b p1 p2 => ?_⟩, ⟨?_, ⟨X4, ?_⟩, m3.congr X11 ?_, m4.congr ?_ ?_ ?_ fun b p1 p2 => ?_⟩, g1, fun k hk => ?_, g3, g4, g5⟩
    · have p1 := q.1
      have p2 := q.2
      rw [Xoff b (by omega) (by omega) (by omega), hoff b (by omega)]
    · have := q.2
      omega
    · have := q.2
      omega
    · have := q.1
      omega
    · rw [Xoff _ (by decide) (by decide) (by decide), hoff _ (by omega)]
    · rw [Xoff _ (by decide) (by decide) (by decide), hoff _ (by omega)]
    · rw [Xoff _ (by omega) (by omega) (by omega), hoff _ (by omega)]
    · rw [Xoff _ (by decide) (by decide) (by decide), hoff _ (by omega)]
      exact m1
    · rw [X701]
      exact RM_tk m1 g1.1
    · rw [Xoff _ (by decide) (by decide) (by decide), hoff _ (by omega)]
    · rw [Xoff _ (by decide) (by decide) (by decide), hoff _ (by omega)]
    · rw [Xoff _ (by decide) (by decide) (by decide), hoff _ (by omega)]
    · rw [Xoff _ (by decide) (by decide) (by decide), hoff _ (by omega)]
    · rw [Xoff _ (by omega) (by omega) (by omega), hoff _ (by omega)]
    · cases hk
      exact g1
end
