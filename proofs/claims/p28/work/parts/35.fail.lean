/-! 35: the class: failures -/
theorem w_over_0 {S : Mem} {W : Nat} {w : Wst} (hR : RW S W w) (hI : Inv w) (h0 : 0 < wN w) : fw_isOverBudgetAbove W (Int32.ofNat 0) S = some (0, S) := by
  have h12 := hI.1
  unfold fw_isOverBudgetAbove
  rw [w_isActor_ok hR h12 h0, obs, if_neg (by decide), ix_n (by decide) (by decide), obs, (hR.2.2.1 0 h0).1 0 (by decide), par_root hI h0, w_isActor_no hR (Or.inl (by decide)), obs, if_pos rfl]
theorem w_over_ok {S : Mem} {W t : Nat} {w : Wst} (hW : IsW W) (hR : RW S W w) (h : IT w) (hl : sLive w t = true) (h0 : 0 < t) (h9 : (aNot (wA w (par w t))).length ≤ 9) : ∃ S1, fw_isOverBudgetAbove W (Int32.ofNat t) S = some (if sOver w (par w t) = true then 1 else 0, S1) ∧ RW S1 W (sNote w (par w t)) ∧ OW W S S1 := by
  have h12 := h.1.1
  have ht := (sLive_lt hl).1
  have hpt := (sLive_lt (par_live h.2 hl h0)).1
  have hpar := (par_ok h.1 ht h0).2
  generalize par w t = p at *
  have hA := hR.2.2.1 t ht
  have hP := hR.2.2.1 p hpt
  obtain ⟨l1, l2, l3, l4, l5, l6, l7⟩ := lnA hW (show p < 12 by omega)
  have e6 : S W 6 = wI w 6 := hR.2.1 6 (by decide) (by decide)
  obtain ⟨k, hk, ek⟩ := (h.1.2.1 p hpt).2.2.2.1
  obtain ⟨S1, k1, k2, k3⟩ := n_removeBelow_ok (wI w 6 - aI (wA w p) 4) hP.2.2.2.2.2 (by rw [l7]; omega) (by rw [l7]; decide)
  have hfl : ((aNot (wA w p)).filter fun q => !decide (q < wI w 6 - aI (wA w p) 4)).length ≤ 9 := Nat.le_trans (List.length_filter_le _ _) h9
  obtain ⟨S2, m1, m2, m3⟩ := n_add_ok (wI w 6) k2 (by rw [l7]; omega) (by rw [l7]; decide)
  have e6b : S1 W 6 = wI w 6 := by
    rw [k3 W fun q => by rcases q with q | q <;> omega]
    exact e6
  have ho := k3.trans m3
  have hx := hP.notes m2 ho
  have hs : sOver w p = decide (k < (((aNot (wA w p)).filter fun q => !decide (q < wI w 6 - aI (wA w p) 4)) ++ [wI w 6]).length) := by
    unfold sOver
    rw [note_self, ek]
    unfold nu
    rw [n_clamp (by omega)]
    rfl
  have hlen : (((aNot (wA w p)).filter fun q => !decide (q < wI w 6 - aI (wA w p) 4)) ++ [wI w 6]).length ≤ 10 := by
    rw [List.length_append]
    show _ + 1 ≤ 10
    omega
  have e3 : S2 (W + 12 + 13 * p) 3 = Int32.ofNat k := by
    rw [hx.1 3 (by decide)]
    exact ek
  refine ⟨S2, ?_, hR.act hx (ho.mono (cN_inA (by decide))), OW.cell ho fun b hb => inA_W (by omega) b (cN_inA (by decide) b hb)⟩
  unfold fw_isOverBudgetAbove
  rw [w_isActor_ok hR h12 ht, obs, if_neg (by decide), ix_n (by omega) (by decide), obs, hA.1 0 (by decide), hpar, w_isActor_ok hR h12 hpt, obs, if_neg (by decide), obs, hA.1 0 (by decide), hpar, ix_n (by omega) (by decide), obs, e6, hP.1 4 (by decide), k1, obs, e6b, m1, bd_some, m2.1, e3, hs]
  by_cases g : (((aNot (wA w p)).filter fun q => !decide (q < wI w 6 - aI (wA w p) 4)) ++ [wI w 6]).length ≤ k
  · rw [if_pos ((n_le (by omega) (by omega)).mpr g), if_neg (by simp only [decide_eq_true_eq]; omega)]
  · rw [if_neg (fun q => g ((n_le (by omega) (by omega)).mp q)), if_pos (by simp only [decide_eq_true_eq]; omega)]
/-- what comes behind the way up -/
def failEnd (W : Nat) (t : Nat) (S : Mem) : Option Mem := if Int32.ofNat t = 0 then (bd (fw_halt W 0 S) fun _ S2 => some S2) else (fw_fail_84 LF W (Int32.ofNat t) 0 S)
theorem w_climb_ok {W : Nat} (hW : IsW W) : ∀ (m n lev t : Nat) (w : Wst) (l : List Msg) (S : Mem), t < m → t + lev ≤ 11 → t + 1 < n → sLive w t = true → IT w → BudX w t → l.length + t ≤ 12 → (∀ q ∈ l, okN 12 q.1) → RW S W (wSC w l) → ∃ S1, fw_fail_28 n W (Int32.ofNat t) (Int32.ofNat lev) S = failEnd W (sClimb m w l t).2.2 S1 ∧ RW S1 W (wSC (sClimb m w l t).1 (sClimb m w l t).2.1) ∧ OW W S S1
  | 0, _, _, _, _, _, _, h, _, _, _, _, _, _, _, _ => absurd h (Nat.not_lt_zero _)
  | _ + 1, 0, _, _, _, _, _, _, _, h, _, _, _, _, _, _ => absurd h (Nat.not_lt_zero _)
  | m + 1, n + 1, lev, t, w, l, S, h, hlev, hn, hl, hT, hB, hc, hq, hR => by
    have ht := (sLive_lt hl).1
    have h12 := hT.1.1
    have hT2 := cau_it hT (by omega) hq
    have hs : sClimb (m + 1) w l t = if t = 0 then (w, l, t) else if sOver w (par w t) = true then sClimb m (sNote w (par w t)) (l ++ [(Int32.ofNat (par w t), 9)]) (par w t) else (sNote w (par w t), l, t) := rfl
    have hlv : ¬ (12 : Int32) ≤ Int32.ofNat lev := fun q => by
      rw [n12, n_le (by decide) (by omega)] at q
      omega
    show ∃ S1, fw_fail_28b (fw_fail_28 n) W (Int32.ofNat t) (Int32.ofNat lev) S = _ ∧ _
    rw [hs]
    unfold fw_fail_28b
    rw [if_neg hlv]
    by_cases e : t = 0
    · subst e
      rw [if_pos rfl, w_over_0 hR hT2.1 ht, bd_some, if_pos rfl]
      exact ⟨S, rfl, hR, OW.refl⟩
    · have hp := par_live hT.2 hl (by omega)
      have hp2 := par_ok hT.1 ht (by omega)
      have h9 := par_free hT hB hl (by omega)
      have hN := note_it hT hp h9
      obtain ⟨S1, k1, k2, k3⟩ := w_over_ok hW hR hT2 hl (by omega) h9
      rw [if_neg e]
      rw [k1, bd_some]
      by_cases g : sOver w (par w t) = true
      · have g2 : sOver (wSC w l) (par (wSC w l) t) = true := g
        have e0 : S1 (W + 12 + 13 * t) 0 = Int32.ofNat (par w t) := by
          rw [(k2.2.2.1 t ht).1 0 (by decide), note_I]
          exact hp2.2
        obtain ⟨l1, l2, l3, l4, l5⟩ := lnW hW
        obtain ⟨S2, m1, m2, m3⟩ := p_add_ok (Int32.ofNat (par w t), 9) k2.2.2.2.2.2 (show (wC (sNote (wSC w l) (par (wSC w l) t))).length < ln (W + 9 + 1) by rw [l4]; show l.length < 12; omega) (by rw [l5, l4]) (by rw [l4]; decide)
        obtain ⟨S3, j1, j2, j3⟩ := w_climb_ok hW m n (lev + 1) (par w t) (sNote w (par w t)) (l ++ [(Int32.ofNat (par w t), 9)]) S2 (by omega) (by omega) (by omega) (by rw [note_live]; exact hp) hN (note_over hB) (by
          rw [List.length_append]
          show l.length + 1 + _ ≤ 12
          omega) (fun q hq2 => by
          rcases List.mem_append.mp hq2 with q1 | q1
          · exact hq q q1
          · rw [List.mem_singleton.mp q1]
            exact okN_of (by omega)) (k2.cau m2 m3)
        rw [if_pos g2, if_neg (by decide), ix_n (by omega) (by decide), obs, e0]
        rw [show fp_add (W + 9) (Int32.ofNat (par w t)) 9 S1 = _ from m1, bd_some, n_succ, if_pos g]
        exact ⟨S3, j1, j2, k3.trans ((OW.cell m3 (cP_W (by decide) (by decide))).trans j3)⟩
      · have g2 : ¬ sOver (wSC w l) (par (wSC w l) t) = true := g
        rw [if_neg g2, if_pos rfl, if_neg g]
        exact ⟨S1, rfl, k2, k3⟩
theorem w_with_ok {S : Mem} {W t c : Nat} {w : Wst} (hR : RW S W w) (hI : Inv w) (ht : t < wN w) (h0 : 0 < t) (hc : c < wN w) : fw_isRestartedWith W (Int32.ofNat c) (Int32.ofNat t) S = some (if sWith w t c = true then 1 else 0) := by
  have h12 := hI.1
  obtain ⟨p1, hpar⟩ := par_ok hI ht h0
  have hs : sWith w t c = (sLC w c (par w t) && (decide (c = t) || decide (aI (wA w (par w t)) 2 = 1) || (decide (aI (wA w (par w t)) 2 = 2) && decide (t < c)))) := rfl
  rw [hs]
  generalize par w t = p at *
  have hpt : p < wN w := by omega
  have hA := hR.2.2.1 t ht
  have hP := hR.2.2.1 p hpt
  unfold fw_isRestartedWith
  rw [w_isActor_ok hR h12 ht, obs, if_neg (by decide), ix_n (by omega) (by decide), obs, hA.1 0 (by decide), hpar, w_isActor_ok hR h12 hpt, obs, if_neg (by decide), obs, hA.1 0 (by decide), hpar, w_isLC_ok hR h12 hc (hI.b hc), obs]
  by_cases e : sLC w c p = true
  · rw [if_pos e, if_neg (by decide), obs, hA.1 0 (by decide), hpar, ix_n (by omega) (by decide), obs, hP.1 2 (by decide), e]
    by_cases g : c = t
    · rw [if_pos ((n_inj (by omega) (by omega)).mpr g), if_pos (by simp [g])]
    · rw [if_neg (fun q => g ((n_inj (by omega) (by omega)).mp q))]
      by_cases g2 : aI (wA w p) 2 = 1
      · rw [if_pos g2, if_pos (by simp [g2])]
      · rw [if_neg g2]
        by_cases g3 : aI (wA w p) 2 = 2
        · rw [if_pos g3]
          by_cases g4 : c ≤ t
          · rw [if_pos ((n_le (by omega) (by omega)).mpr g4), if_neg (by simp [g, g2, g3]; omega)]
          · rw [if_neg (fun q => g4 ((n_le (by omega) (by omega)).mp q)), if_pos (by simp [g3]; omega)]
        · rw [if_neg g3, if_neg (by simp [g, g2, g3])]
  · rw [if_neg e, if_pos rfl, if_neg (by simp [e])]
theorem w_rs_tail {S : Mem} {W a : Nat} {v : Wst} (hW : IsW W) (hR : RW S W v) (hT : IT v) (hl : sLive v a = true) : ∃ S1, ((ix (Int32.ofNat a) 12).bind fun i1 => (some (up2 S (W + 12 + 13 * i1) 5 0)).bind fun S1 => (ix (Int32.ofNat a) 12).bind fun i2 => (fa_keepOwnOnly (W + 12 + 13 * i2) S1).bind fun S2 => (fc_removeOf (W + 2) (Int32.ofNat a) S2).bind fun S3 => (ix (Int32.ofNat a) 12).bind fun i3 => (fw_unstash W (W + 12 + 13 * i3) S3).bind fun S4 => some S4) = some S1 ∧ RW S1 W (sBack (sForget (wSA v a (aSI (wA v a) 5 0)) a) a) ∧ OW W S S1 := by
  have ha := (sLive_lt hl).1
  have h12 := hT.1.1
  obtain ⟨r1, o1⟩ := w_count_up (v := 0) (by omega) hR (hR.2.2.1 a ha)
  have i1 := zero_it hT hl
  have l1 : sLive (wSA v a (aSI (wA v a) 5 0)) a = true := by rw [wSA_live (x := aSI (wA v a) 5 0) rfl]; exact hl
  obtain ⟨S2, S3, k1, k2, k3, k4⟩ := w_forget_ok hW r1 h12 ha hT.1.2.2.1.1
  have i2 := forget_it i1 l1
  obtain ⟨S4, m1, m2, m3⟩ := w_unstash_ok hW k3 h12 ha (i2.1.mail ha) (i2.1.stash ha)
  rw [ix_n (by omega) (by decide), obs, obs, obs, k1, obs, k2, obs, obs, m1, obs]
  exact ⟨S4, rfl, m2, o1.trans (k4.trans m3)⟩
theorem kids_low {f : Wst → Nat → Wst} {a : Nat} {w : Wst} : ∀ c, c ≤ a + 1 → sKids f a c w = w
  | 0, _ => rfl
  | c + 1, h => by
    show sKids f a c (if a < c ∧ sLC w c a = true then f w c else w) = w
    rw [if_neg (fun q => by omega)]
    exact kids_low c (by omega)
theorem kids_top {f : Wst → Nat → Wst} {a : Nat} {w : Wst} : ∀ m, sKids f a (wN w + m) w = sKids f a (wN w) w
  | 0 => rfl
  | m + 1 => by
    show sKids f a (wN w + m) (if a < wN w + m ∧ sLC w (wN w + m) a = true then f w (wN w + m) else w) = _
    rw [if_neg (fun q => by
      have := (sLive_lt (sLC_of q.2).1).1
      omega)]
    exact kids_top m
theorem n_pred (c : Nat) : Int32.ofNat c + (-1) = Int32.ofNat c - 1 := (Int32.sub_eq_add_neg _ _).symm
theorem n_sub1 (c : Nat) : Int32.ofNat (c + 1) - 1 = Int32.ofNat c := by rw [← n_succ, Int32.add_sub_cancel]
theorem w_isLC_big {S : Mem} {W c : Nat} {w : Wst} {v : Int32} (h : RW S W w) (h12 : wN w ≤ 12) (hc : ¬ c < wN w) (hc2 : c < 2 ^ 31) : fw_isLiveChild W (Int32.ofNat c) v S = some 0 := by
  unfold fw_isLiveChild
  rw [h.1, if_neg (n_neg hc2), if_pos ((n_le (by omega) hc2).mpr (by omega))]
theorem w_restart_loop {W a : Nat} (hW : IsW W) : ∀ (c n : Nat) (w : Wst) (S : Mem), c ≤ 12 → c < n → IT w → sLive w a = true → RW S W w → ∃ S1, fw_restart_24 n W (Int32.ofNat a) (Int32.ofNat c - 1) S = some S1 ∧ RW S1 W (sBack (sForget (wSA (sKids (sStop 12) a c w) a (aSI (wA (sKids (sStop 12) a c w) a) 5 0)) a) a) ∧ OW W S S1
  | _, 0, _, _, _, h, _, _, _ => absurd h (Nat.not_lt_zero _)
  | 0, n + 1, w, S, _, _, hT, hl, hR => by
    have h12 := hT.1.1
    have ha := (sLive_lt hl).1
    show ∃ S1, fw_restart_24b (fw_restart_24 n) W (Int32.ofNat a) (Int32.ofNat 0 - 1) S = some S1 ∧ _
    unfold fw_restart_24b
    rw [if_pos]
    · exact w_rs_tail hW hR hT hl
    · rw [Int32.le_iff_toInt_le, n_int (by omega)]
      have : (Int32.ofNat 0 - 1 : Int32).toInt = -1 := by decide
      omega
  | c + 1, n + 1, w, S, hc, hn, hT, hl, hR => by
    have h12 := hT.1.1
    have ha := (sLive_lt hl).1
    show ∃ S1, fw_restart_24b (fw_restart_24 n) W (Int32.ofNat a) (Int32.ofNat (c + 1) - 1) S = some S1 ∧ _
    unfold fw_restart_24b
    rw [n_sub1]
    by_cases g : c ≤ a
    · rw [if_pos ((n_le (by omega) (by omega)).mpr g), kids_low (c + 1) (by omega)]
      exact w_rs_tail hW hR hT hl
    · rw [if_neg (fun q => g ((n_le (by omega) (by omega)).mp q)), n_pred]
      have hk : sKids (sStop 12) a (c + 1) w = sKids (sStop 12) a c (if a < c ∧ sLC w c a = true then sStop 12 w c else w) := rfl
      rw [hk]
      by_cases e : sLC w c a = true
      · have hcl := (sLC_of e).1
        have hcn := (sLive_lt hcl).1
        obtain ⟨q1, q2, q3, q4, q5⟩ := stop_ok 12 0 (by omega) w c (Nat.zero_le _) hcn hT.1 hT.2 hcl
        obtain ⟨S1, k1, k2, k3⟩ := w_halt_ok hW hR hT.1 hT.2 hcl
        obtain ⟨S2, m1, m2, m3⟩ := w_restart_loop hW c n (sStop 12 w c) S1 (by omega) (by omega) ⟨q1, q2⟩ ((q4 a (by omega)).trans hl) k2
        rw [w_isLC_ok hR h12 hcn (hT.1.b hcn), obs, if_pos e, if_neg (by decide), k1, bd_some, if_pos ⟨by omega, e⟩]
        exact ⟨S2, m1, m2, k3.trans m3⟩
      · have hz : fw_isLiveChild W (Int32.ofNat c) (Int32.ofNat a) S = some 0 := by
          by_cases hcn : c < wN w
          · rw [w_isLC_ok hR h12 hcn (hT.1.b hcn), if_neg e]
          · exact w_isLC_big hR h12 hcn (by omega)
        rw [hz, obs, if_pos rfl, if_neg (fun q => e q.2)]
        exact w_restart_loop hW c n w S (by omega) (by omega) hT hl hR
theorem w_restart_ok {S : Mem} {W a : Nat} {w : Wst} (hW : IsW W) (hR : RW S W w) (hT : IT w) (hl : sLive w a = true) : ∃ S1, fw_restart W (Int32.ofNat a) S = some S1 ∧ RW S1 W (sRestart w a) ∧ Only (inW W) S S1 ∧ S1 W 11 = S W 11 ∧ S1 W 12 = (S W 12 ||| (1 <<< (Int32.ofNat a &&& 31))) := by
  have h12 := hT.1.1
  have ha := (sLive_lt hl).1
  obtain ⟨S1, k1, k2, k3, k4⟩ := w_restart_loop hW 12 LF w (up2 S W 12 ((S W 12) ||| (1 <<< (Int32.ofNat a &&& 31)))) (Nat.le_refl _) (by show 12 < 3000; decide) hT hl (hR.flag (by decide))
  have ht := kids_top (f := sStop 12) (a := a) (w := w) (12 - wN w)
  rw [show wN w + (12 - wN w) = 12 by omega] at ht
  rw [ht] at k2
  refine ⟨S1, ?_, k2, ((Only.refl.up ⟨Nat.le_refl _, by omega⟩).trans k3), ?_, ?_⟩
  · unfold fw_restart
    rw [w_isActor_ok hR h12 ha, obs, if_neg (by decide), obs]
    exact k1
  · rw [k4 11 (by decide), up2_nf (by decide)]
  · rw [k4 12 (by decide), up2_self]
theorem w_rests_ok {W t : Nat} (hW : IsW W) (h0 : 0 < t) : ∀ (k n c : Nat) (w : Wst) (S : Mem), c + k = wN w → k < n → IT w → t < wN w → RW S W w → ∃ S1, fw_fail_84 n W (Int32.ofNat t) (Int32.ofNat c) S = some S1 ∧ RW S1 W (sRests t k c w (S W 12)).1 ∧ Only (inW W) S S1 ∧ S1 W 11 = S W 11 ∧ S1 W 12 = (sRests t k c w (S W 12)).2
  | _, 0, _, _, _, _, h, _, _, _ => absurd h (Nat.not_lt_zero _)
  | 0, n + 1, c, w, S, hc, _, hT, ht, hR => by
    have h12 := hT.1.1
    show ∃ S1, fw_fail_84b (fw_fail_84 n) W (Int32.ofNat t) (Int32.ofNat c) S = some S1 ∧ _
    unfold fw_fail_84b
    rw [hR.1, if_pos ((n_le (by omega) (by omega)).mpr (by omega))]
    exact ⟨S, rfl, hR, Only.refl, rfl, rfl⟩
  | k + 1, n + 1, c, w, S, hc, hn, hT, ht, hR => by
    have h12 := hT.1.1
    have hs : sRests t (k + 1) c w (S W 12) = if sWith w t c = true then sRests t k (c + 1) (sRestart w c) (S W 12 ||| (1 <<< (Int32.ofNat c &&& 31))) else sRests t k (c + 1) w (S W 12) := rfl
    show ∃ S1, fw_fail_84b (fw_fail_84 n) W (Int32.ofNat t) (Int32.ofNat c) S = some S1 ∧ _
    unfold fw_fail_84b
    rw [hs, hR.1, if_neg (fun q => by rw [n_le (by omega) (by omega)] at q; omega), w_with_ok hR hT.1 ht h0 (by omega), obs, n_succ]
    by_cases e : sWith w t c = true
    · have hcl := (sLC_of (with_lc e)).1
      obtain ⟨S1, k1, k2, k3, k4, k5⟩ := w_restart_ok hW hR hT hcl
      obtain ⟨r1, -⟩ := restart_it hT hcl
      have hsn := rs_n w c
      obtain ⟨S2, m1, m2, m3, m4, m5⟩ := w_rests_ok hW h0 k n (c + 1) (sRestart w c) S1 (by omega) (by omega) r1 (by omega) k2
      rw [k5] at m2 m5
      rw [if_pos e, if_neg (by decide), k1, obs, if_pos e]
      exact ⟨S2, m1, m2, k3.trans m3, m4.trans k4, m5⟩
    · rw [if_neg e, if_pos rfl, if_neg e]
      exact w_rests_ok hW h0 k n (c + 1) w S (by omega) (by omega) hT ht hR
theorem w_fail_ok {S : Mem} {W a : Nat} {w : Wst} {why : Int32} (hW : IsW W) (hR : RW S W w) (h : Good w) (hl : sLive w a = true) : ∃ S1, fw_fail W (Int32.ofNat a) why S = some S1 ∧ RW S1 W (sFail w a why (S W 12)).1 ∧ Only (inW W) S S1 ∧ S1 W 11 = 1 ∧ S1 W 12 = (sFail w a why (S W 12)).2 := by
  have h12 := h.1.1
  have ha := (sLive_lt hl).1
  obtain ⟨l1, l2, l3, l4, l5⟩ := lnW hW
  have r1 : RW (up2 S W 11 1) W w := hR.flag (by decide)
  have r2 : RP (up2 (up2 S W 11 1) (W + 9) 2 0) (W + 9) [] := RP.len0 up2_self
  obtain ⟨S3, m1, m2, m3⟩ := p_add_ok (Int32.ofNat a, why) r2 (by rw [l4]; decide) (by rw [l5, l4]) (by rw [l4]; decide)
  have o3a : Only (cP (W + 9)) (up2 S W 11 1) S3 := (Only.refl.up (P := cP (W + 9)) (Or.inl rfl)).trans m3
  have r3 : RW S3 W (wSC w [(Int32.ofNat a, why)]) := r1.cau m2 o3a
  have hq : ∀ m ∈ [((Int32.ofNat a, why) : Msg)], okN 12 m.1 := fun m hm => by
    rw [List.mem_singleton.mp hm]
    exact okN_of (by omega)
  obtain ⟨g1, g2, g3, g4, g5, g6⟩ := climb_ok 12 a w [(Int32.ofNat a, why)] (by omega) hl ⟨h.1, h.2.1⟩ (h.2.2.x a) (by show 1 + a ≤ 12; omega) hq
  obtain ⟨S4, k1, k2, k3, k4⟩ := w_climb_ok hW 12 LF 0 a w [(Int32.ofNat a, why)] S3 (by omega) (by omega) (by show a + 1 < 3000; omega) hl ⟨h.1, h.2.1⟩ (h.2.2.x a) (by show 1 + a ≤ 12; omega) hq r3
  have o1 : Only (inW W) S S3 := (Only.refl.up ⟨Nat.le_refl _, by omega⟩).trans (o3a.mono fun b hb => (cP_W (by decide) (by decide) b hb).1)
  have eW : S3 W = (up2 S W 11 1) W := o3a W fun q => by rcases q with q | q | q <;> omega
  have e11 : S4 W 11 = 1 := by rw [k4 11 (by decide), eW, up2_self]
  have e12 : S4 W 12 = S W 12 := by rw [k4 12 (by decide), eW, up2_nf (by decide)]
  have hf : fw_fail W (Int32.ofNat a) why S = failEnd W (sClimb 12 w [(Int32.ofNat a, why)] a).2.2 S4 := by
    unfold fw_fail
    rw [obs, obs, m1, bd_some]
    exact k1
  rw [hf]
  unfold sFail
  generalize sClimb 12 w [(Int32.ofNat a, why)] a = r at *
  have hc := cau_it g1 g5 g6
  have hlt := (sLive_lt g3).1
  have hrn : wN r.1 ≤ 12 := by omega
  show ∃ S1, failEnd W r.2.2 S4 = some S1 ∧ RW S1 W (if r.2.2 = 0 then (sStop 12 (wSC r.1 r.2.1) 0, S W 12) else sRests r.2.2 (wN (wSC r.1 r.2.1)) 0 (wSC r.1 r.2.1) (S W 12)).1 ∧ Only (inW W) S S1 ∧ S1 W 11 = 1 ∧ S1 W 12 = (if r.2.2 = 0 then (sStop 12 (wSC r.1 r.2.1) 0, S W 12) else sRests r.2.2 (wN (wSC r.1 r.2.1)) 0 (wSC r.1 r.2.1) (S W 12)).2
  unfold failEnd
  by_cases e : r.2.2 = 0
  · rw [if_pos e, if_pos (by rw [e]; rfl)]
    rw [e] at g3
    obtain ⟨S5, j1, j2, j3, j4⟩ := w_halt_ok hW k2 hc.1 hc.2 g3
    rw [show fw_halt W 0 S4 = _ from j1, bd_some]
    exact ⟨S5, rfl, j2, o1.trans (k3.trans j3), by rw [j4 11 (by decide)]; exact e11, by rw [j4 12 (by decide)]; exact e12⟩
  · rw [if_neg e, if_neg (show ¬ Int32.ofNat r.2.2 = 0 from fun q => e ((n_inj (a := r.2.2) (b := 0) (by omega) (by decide)).mp q))]
    obtain ⟨S5, j1, j2, j3, j4, j5⟩ := w_rests_ok hW (t := r.2.2) (by omega) (wN (wSC r.1 r.2.1)) LF 0 (wSC r.1 r.2.1) S4 (Nat.zero_add _) (by show wN r.1 < 3000; omega) hc hlt k2
    rw [e12] at j2 j5
    exact ⟨S5, j1, j2, o1.trans (k3.trans j3), j4.trans e11, j5⟩
