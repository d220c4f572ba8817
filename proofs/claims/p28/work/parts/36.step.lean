/-! 36: the class: steps -/
theorem nu_n {k : Nat} (h : k < 2 ^ 31) : nu (Int32.ofNat k) = k := by
  unfold nu
  exact n_clamp h
theorem nextK_ok {w : Wst} {k : Nat} (hI : Inv w) (h1 : 1 ≤ k) (h2 : k ≤ 12) : ∃ j, j < 12 ∧ sNextK w k = Int32.ofNat j := by
  unfold sNextK
  rw [n12]
  rcases hI.2.2.2.2.2 with e | ⟨j, hj, e⟩
  · rw [e]
    obtain ⟨k', rfl⟩ : ∃ k', k = k' + 1 := ⟨k - 1, by omega⟩
    have e2 : (-1 : Int32) + Int32.ofNat (k' + 1) = Int32.ofNat k' := by
      rw [Int32.add_comm, n_pred, n_sub1]
    rw [e2]
    exact irm_n (by rw [n_int (by omega)]; omega) (by decide) (by decide)
  · rw [e, n_add]
    exact irm_n (by rw [n_int (by omega)]; omega) (by decide) (by decide)
theorem w_isLive_any {S : Mem} {W j : Nat} {w : Wst} (hR : RW S W w) (hI : Inv w) (hj : j < 2 ^ 31) : fw_isLive W (Int32.ofNat j) S = some (if sLive w j = true then 1 else 0) := by
  have h12 := hI.1
  by_cases e : j < wN w
  · exact w_isLive_ok hR h12 e (hI.b e)
  · rw [w_isLive_no hR (Or.inr ((n_le (by omega) hj).mpr (by omega))), kill_big e]
    rfl
theorem w_isActor_any {S : Mem} {W j : Nat} {w : Wst} (hR : RW S W w) (hI : Inv w) (hj : j < 2 ^ 31) : fw_isActor W (Int32.ofNat j) S = some (if j < wN w then 1 else 0) := by
  have h12 := hI.1
  by_cases e : j < wN w
  · rw [w_isActor_ok hR h12 e, if_pos e]
  · rw [w_isActor_no hR (Or.inr ((n_le (by omega) hj).mpr (by omega))), if_neg e]
def oN (q : Option Nat) : Int32 := match q with | some a => Int32.ofNat a | none => -1
theorem w_next_loop {S : Mem} {W : Nat} {w : Wst} (hR : RW S W w) (hI : Inv w) : ∀ (m n k : Nat), k + m = 13 → 1 ≤ k → m < n → fw_nextDealer_2 n W (Int32.ofNat k) S = some (oN (sNext w m k))
  | _, 0, _, _, _, h => absurd h (Nat.not_lt_zero _)
  | 0, n + 1, k, h, _, _ => by
    have e : k = 13 := by omega
    subst e
    show fw_nextDealer_2b (fw_nextDealer_2 n) W (Int32.ofNat 13) S = _
    unfold fw_nextDealer_2b
    rw [if_pos (by decide)]
    rfl
  | m + 1, n + 1, k, h, h1, hn => by
    have h12 := hI.1
    obtain ⟨j, hj, ej⟩ := nextK_ok hI h1 (by omega)
    have e5 : S W 5 = wI w 5 := hR.2.1 5 (by decide) (by decide)
    have ej2 : irm (wI w 5 + Int32.ofNat k) 12 = Int32.ofNat j := ej
    have hs : sNext w (m + 1) k = if sLive w (nu (sNextK w k)) = true ∧ 0 < (aMail (wA w (nu (sNextK w k)))).length then some (nu (sNextK w k)) else sNext w m (k + 1) := rfl
    show fw_nextDealer_2b (fw_nextDealer_2 n) W (Int32.ofNat k) S = _
    unfold fw_nextDealer_2b
    rw [hs, ej, nu_n (by omega), if_neg (fun q => by rw [n12, n_lt (by decide) (by omega)] at q; omega), e5, ej2, w_isLive_any hR hI (by omega), obs, n_succ]
    by_cases e : sLive w j = true
    · have hA := hR.2.2.1 j (sLive_lt e).1
      have hm := hI.mail (sLive_lt e).1
      rw [if_pos e, if_neg (by decide), ix_n hj (by decide), obs, hA.2.2.1.1]
      by_cases g : 0 < (aMail (wA w j)).length
      · rw [if_neg (fun q => by rw [show (0 : Int32) = Int32.ofNat 0 from rfl, n_le (by omega) (by decide)] at q; omega), if_pos ⟨e, g⟩]
        rfl
      · rw [if_pos (by rw [show (0 : Int32) = Int32.ofNat 0 from rfl, n_le (by omega) (by decide)]; omega), if_neg (fun q => g q.2)]
        exact w_next_loop hR hI m n (k + 1) (by omega) (by omega) (by omega)
    · rw [if_neg e, if_pos rfl, if_neg (fun q => e q.1)]
      exact w_next_loop hR hI m n (k + 1) (by omega) (by omega) (by omega)
theorem w_dealer_ok {S : Mem} {W : Nat} {w : Wst} (hR : RW S W w) (hI : Inv w) : fw_nextDealer W S = some (oN (sDealer w)) := w_next_loop hR hI 12 LF 1 (by decide) (by decide) (by decide)
theorem next_some {w : Wst} {a : Nat} : ∀ (m k : Nat), sNext w m k = some a → sLive w a = true ∧ 0 < (aMail (wA w a)).length
  | 0, _, h => by cases h
  | m + 1, k, h => by
    have hs : (if sLive w (nu (sNextK w k)) = true ∧ 0 < (aMail (wA w (nu (sNextK w k)))).length then some (nu (sNextK w k)) else sNext w m (k + 1)) = some a := h
    split at hs
    · rename_i g
      rw [← Option.some.inj hs]
      exact g
    · exact next_some m (k + 1) hs
theorem dealer_some {w : Wst} {a : Nat} (h : sDealer w = some a) : sLive w a = true ∧ 0 < (aMail (wA w a)).length := next_some 12 1 h
theorem w_has_ok {S : Mem} {W : Nat} {w : Wst} (hR : RW S W w) (hI : Inv w) : fw_hasStep W S = some (if sHas w = true then 1 else 0) := by
  have ht := hI.2.2.1.1
  unfold fw_hasStep sHas
  rw [hR.2.2.2.1.1]
  by_cases e : 0 < (wT w).length
  · rw [if_pos (by rw [show (0 : Int32) = Int32.ofNat 0 from rfl, n_lt (by decide) (by omega)]; exact e), if_pos (by simp [e])]
  · rw [if_neg (fun q => e (by rw [show (0 : Int32) = Int32.ofNat 0 from rfl, n_lt (by decide) (by omega)] at q; exact q)), w_dealer_ok hR hI, obs]
    cases hd : sDealer w with
    | none => rw [if_pos (show oN none = -1 from rfl), if_neg (by simp [e])]
    | some a =>
      have h12 := hI.1
      have := (sLive_lt (dealer_some hd).1).1
      rw [if_neg (show ¬ oN (some a) = -1 from neg1_ne (by omega)), if_pos (by simp)]
theorem w_how_ok {S : Mem} {W : Nat} {w : Wst} (hR : RW S W w) (hI : Inv w) : fw_howItStands W S = some (sHow w) := by
  have h12 := hI.1
  have hh : ((fw_hasStep W S).bind fun x1 => if x1 = 0 then some (1 : Int32) else some 0) = some (if sHas w = true then 0 else 1) := by
    rw [w_has_ok hR hI, obs]
    split
    · rw [if_neg (by decide)]
    · rw [if_pos rfl]
  unfold fw_howItStands sHow
  rw [hh, hR.1]
  by_cases e : 0 < wN w
  · rw [if_neg (fun q => by rw [show (0 : Int32) = Int32.ofNat 0 from rfl, n_le (by omega) (by decide)] at q; omega), show fw_isLive W 0 S = _ from w_isLive_any hR hI (j := 0) (by decide), obs]
    by_cases g : sLive w 0 = true
    · rw [if_pos g, if_neg (by decide), if_neg (show ¬ (0 < wN w ∧ sLive w 0 = false) by simp [g])]
    · rw [if_neg g, if_pos rfl, if_pos ⟨e, by simpa using g⟩]
  · rw [if_pos (by rw [show (0 : Int32) = Int32.ofNat 0 from rfl, n_le (by omega) (by decide)]; omega), if_neg (show ¬ (0 < wN w ∧ sLive w 0 = false) from fun q => e q.1)]
theorem w_fire_none {S : Mem} {W : Nat} {w : Wst} (hR : RW S W w) (ht : wT w = []) : fw_fireTimer W S = some (0, S) := by
  have e : S (W + 2) 3 = 0 := by
    rw [hR.2.2.2.1.1, ht]
    rfl
  unfold fw_fireTimer
  rw [e, if_pos rfl]
theorem w_fire_ok {S : Mem} {W : Nat} {w : Wst} {t : Tmr} {l : List Tmr} (hW : IsW W) (hR : RW S W w) (h : Good w) (ht : wT w = t :: l) : ∃ S1, fw_fireTimer W S = some (1, S1) ∧ RW S1 W (sSend (wST (wSI w 6 t.2.1) l) (nu t.1) (-1, t.2.2)) ∧ OW W S S1 := by
  have hI := h.1
  have h12 := hI.1
  have ho := (lnW hW).1
  have hRT := hR.2.2.2.1
  have hlen := hI.2.2.1.1
  have hx : (wT w)[0]? = some t := by rw [ht]; rfl
  have e : S (W + 2) 3 = Int32.ofNat (l.length + 1) := by
    rw [hRT.1, ht]
    rfl
  have hll : (wT w).length = l.length + 1 := by rw [ht]; rfl
  have q1 : fc_ownerAt (W + 2) 0 S = some t.1 := c_owner_ok ho hRT hx hlen
  have q2 : fc_numberAt (W + 2) 0 S = some t.2.2 := c_number_ok ho hRT hx hlen
  have q3 : fc_dueAt (W + 2) 0 S = some t.2.1 := c_due_ok ho hRT hx hlen
  have r1 : RW (up2 S W 6 t.2.1) W (wSI w 6 t.2.1) := hR.int (by decide)
  have r2 := r1.2.2.2.1
  rw [show wT (wSI w 6 t.2.1) = t :: l from ht] at r2
  obtain ⟨S2, k1, k2, k3⟩ := c_drop_ok ho r2 (by omega)
  have r3 : RW S2 W (wST (wSI w 6 t.2.1) l) := r1.tim k2 k3
  obtain ⟨j1, j2⟩ := okN_nn (hI.2.2.1.2.2 t (by rw [ht]; exact List.mem_cons_self)).1 (by omega)
  obtain ⟨S3, m1, m2, m3⟩ := w_send_ok (a := nu t.1) (-1, t.2.2) hW r3 h12 j1 (hI.b j1) (hI.mail j1)
  rw [← j2] at m1
  refine ⟨S3, ?_, m2, ((OW.refl.up (k := 6) (by decide)).trans (OW.cell k3 cT_W)).trans m3⟩
  unfold fw_fireTimer
  rw [e, if_neg (fun q => by rw [show (0 : Int32) = Int32.ofNat 0 from rfl, n_inj (by omega) (by decide)] at q; omega), q1, obs, q2, obs, q3, obs, obs, k1, obs, m1, bd_some]
theorem fire_good {w : Wst} {t : Tmr} {l : List Tmr} (h : Good w) (ht : wT w = t :: l) : Good (sSend (wST (wSI w 6 t.2.1) l) (nu t.1) (-1, t.2.2)) := by
  obtain ⟨hI, ⟨t1, t2, t3⟩, hB⟩ := h
  have h1 : Inv (wST (wSI w 6 t.2.1) l) := by
    refine (hI.int8 (k := 6) (v := t.2.1) (by decide)).tim ?_ ?_ fun q hq => ?_
    · have := hI.2.2.1.1
      rw [ht] at this
      exact Nat.le_of_succ_le this
    · have := hI.2.2.1.2.1
      rw [ht] at this
      exact (List.pairwise_cons.mp this).2
    · exact hI.2.2.1.2.2 q (by rw [ht]; exact List.mem_cons_of_mem _ hq)
  have h2 : Good (wST (wSI w 6 t.2.1) l) := ⟨h1, ⟨t1, fun q hq => t2 q (by rw [ht]; exact List.mem_cons_of_mem _ hq), t3⟩, hB⟩
  exact sSend_good h2 ⟨Or.inl rfl, Or.inl (hI.2.2.1.2.2 t (by rw [ht]; exact List.mem_cons_self)).2⟩
/-! why it fails: then nothing is done -/
theorem deal_fail {w : Wst} {a : Nat} {f b : Int32} (h : ¬ (sDeal w a f b).2 = 0) : (sDeal w a f b).1 = w := by
  revert h
  unfold sDeal
  dsimp only
  repeat' split
  all_goals first
    | exact fun _ => rfl
    | exact fun h => absurd rfl h
theorem take_good {w : Wst} {a : Nat} {m : Msg} {l : List Msg} (h : Good w) (hl : sLive w a = true) (hm : aMail (wA w a) = m :: l) : Good (sTake w a m) := by
  have h12 := h.1.1
  have ha := (sLive_lt hl).1
  obtain ⟨p1, p2, p3, p4, p5, p6, p7, p8, p9, p10, p11⟩ := h.1.2.1 a ha
  have hmm : okM (wN w) m := p8.2 m (by rw [hm]; exact List.mem_cons_self)
  have h1 : Good (wSA w a (aSMail (wA w a) (aMail (wA w a)).tail)) := by
    refine h.live hl ⟨p1, p2, p3, p4, p5, p6, p7, ⟨?_, fun q hq => ?_⟩, p9, p10, p11⟩ rfl rfl rfl rfl
    · show (aMail (wA w a)).tail.length ≤ 12
      rw [List.length_tail]
      have := p8.1
      omega
    · have hq2 : q ∈ (aMail (wA w a)).tail := hq
      exact p8.2 q (List.mem_of_mem_tail hq2)
  obtain ⟨⟨g1, g2, g3, g4, g5, g6⟩, gT, gB⟩ := h1
  refine ⟨⟨g1, g2, g3, ⟨?_, fun q hq => ?_⟩, g5, ?_⟩, gT, gB⟩
  · show ((if (wL w).length = 30 then (wL w).tail else wL w) ++ [(Int32.ofNat a, m.2)]).length ≤ 30
    have hL : (wL w).length ≤ 30 := g4.1
    rw [List.length_append]
    show _ + 1 ≤ 30
    split
    · rw [List.length_tail]
      omega
    · omega
  · have hq2 : q ∈ (if (wL w).length = 30 then (wL w).tail else wL w) ++ [(Int32.ofNat a, m.2)] := hq
    rcases List.mem_append.mp hq2 with q1 | q1
    · refine g4.2 q ?_
      show q ∈ wL w
      split at q1
      · exact List.mem_of_mem_tail q1
      · exact q1
    · rw [List.mem_singleton.mp q1]
      exact ⟨okN_of (by omega), hmm.2⟩
  · have e : ∀ v, upd (upd (wI w) 5 (Int32.ofNat a)) 7 v 5 = Int32.ofNat a := fun v => by
      unfold upd
      rw [if_neg (by decide), if_pos rfl]
    exact Or.inr ⟨a, by omega, e (wI w 7 + 1)⟩
theorem take_live (w : Wst) (a : Nat) (m : Msg) (b : Nat) : sLive (sTake w a m) b = sLive w b := wSA_live (w := w) (a := a) (x := aSMail (wA w a) (aMail (wA w a)).tail) rfl b
def dealt (w : Wst) (a : Nat) (m : Msg) : Wst × Int32 := sDeal (sTake w a m) a m.1 m.2
theorem step_some {w : Wst} {q : Int32} {a : Nat} {m : Msg} {l : List Msg} (hd : sDealer w = some a) (hm : aMail (wA w a) = m :: l) : sStep w q = if (dealt w a m).2 = 0 then ((dealt w a m).1, false, q) else ((sFail (dealt w a m).1 a (dealt w a m).2 q).1, true, (sFail (dealt w a m).1 a (dealt w a m).2 q).2) := by
  unfold sStep
  rw [hd]
  dsimp only
  rw [hm]
  rfl
theorem step_nil {w : Wst} {q : Int32} (hd : sDealer w = none) (ht : wT w = []) : sStep w q = (w, false, q) := by
  unfold sStep
  rw [hd]
  dsimp only
  rw [ht]
theorem step_cons {w : Wst} {q : Int32} {t : Tmr} {l : List Tmr} (hd : sDealer w = none) (ht : wT w = t :: l) : sStep w q = (sSend (wST (wSI w 6 t.2.1) l) (nu t.1) (-1, t.2.2), false, q) := by
  unfold sStep
  rw [hd]
  dsimp only
  rw [ht]
theorem sStep_good {w : Wst} {q : Int32} (h : Good w) : Good (sStep w q).1 := by
  cases hd : sDealer w with
  | some a =>
    obtain ⟨hl, hm⟩ := dealer_some hd
    cases hml : aMail (wA w a) with
    | nil => rw [hml] at hm; exact absurd hm (by decide)
    | cons m l =>
      rw [step_some hd hml]
      have hT := take_good h hl hml
      have hlT : sLive (sTake w a m) a = true := by rw [take_live]; exact hl
      have hmm : okM (wN w) m := (h.1.2.1 a (sLive_lt hl).1).2.2.2.2.2.2.2.1.2 m (by rw [hml]; exact List.mem_cons_self)
      by_cases e : (dealt w a m).2 = 0
      · rw [if_pos e]
        exact sDeal_good hT hlT hmm
      · rw [if_neg e, show (dealt w a m).1 = sTake w a m from deal_fail e]
        exact (sFail_good hT hlT).1
  | none =>
    cases ht : wT w with
    | nil =>
      rw [step_nil hd ht]
      exact h
    | cons t l =>
      rw [step_cons hd ht]
      exact fire_good h ht
theorem w_step_ok {S : Mem} {W : Nat} {w : Wst} (hW : IsW W) (hR : RW S W w) (h : Good w) : ∃ S1, fw_step W S = some (if sHas w = true then 1 else 0, S1) ∧ RW S1 W (sStep w (S W 12)).1 ∧ Only (inW W) S S1 ∧ S1 W 11 = (if (sStep w (S W 12)).2.1 = true then 1 else S W 11) ∧ S1 W 12 = (sStep w (S W 12)).2.2 := by
  have hI := h.1
  have h12 := hI.1
  unfold fw_step
  rw [w_dealer_ok hR hI, obs]
  cases hd : sDealer w with
  | some a =>
    obtain ⟨hl, hm⟩ := dealer_some hd
    have ha := (sLive_lt hl).1
    have hhas : sHas w = true := by
      unfold sHas
      rw [hd]
      rfl
    cases hml : aMail (wA w a) with
    | nil => rw [hml] at hm; exact absurd hm (by decide)
    | cons m l =>
      rw [step_some hd hml]
      obtain ⟨l1, l2, l3, l4, l5, l6, l7⟩ := lnA hW (show a < 12 by omega)
      obtain ⟨t1, t2, t3, t4, t5⟩ := lnW hW
      have hA := hR.2.2.1 a ha
      have hT := take_good h hl hml
      have hlT : sLive (sTake w a m) a = true := by rw [take_live]; exact hl
      have hmm : okM (wN w) m := (hI.2.1 a ha).2.2.2.2.2.2.2.1.2 m (by rw [hml]; exact List.mem_cons_self)
      have hmx : (aMail (wA w a))[0]? = some m := by rw [hml]; rfl
      have hm12 := hI.mail ha
      have hl12 : l.length < 12 := by
        rw [hml] at hm12
        exact hm12
      have q1 : fp_firstAt (W + 12 + 13 * a + 3) 0 S = some m.1 := p_first_ok hA.2.2.1 hmx (by rw [l2]; exact hm12) (by rw [l2]; decide)
      have q2 : fp_secondAt (W + 12 + 13 * a + 3) 0 S = some m.2 := p_second_ok hA.2.2.1 hmx (by rw [l3]; exact hm12) (by rw [l3]; decide)
      have hP := hA.2.2.1
      rw [hml] at hP
      obtain ⟨S2, k1, k2, k3⟩ := p_drop_ok hP (by rw [l2]; exact hl12) (by rw [l3, l2]) (by rw [l2]; decide)
      have r2 := hR.act (hA.mail k2 k3) (k3.mono (cP_inA (by decide)))
      have r3 := (r2.int (k := 5) (v := Int32.ofNat a) (by decide))
      have e7 : (up2 S2 W 5 (Int32.ofNat a)) W 7 = wI w 7 := r3.2.1 7 (by decide) (by decide)
      have r4 := (r3.int (k := 7) (v := wI w 7 + 1) (by decide))
      obtain ⟨S5, j1, j2, j3⟩ := p_roll_ok (Int32.ofNat a, m.2) r4.2.2.2.2.1 (by rw [t2]; exact hI.2.2.2.1.1) (by rw [t2]; decide) (by rw [t3, t2]) (by rw [t2]; decide)
      have r5 := r4.log j2 j3
      rw [t2] at r5
      have hw : wSL (wSI (wSI (wSA w a (aSMail (wA w a) l)) 5 (Int32.ofNat a)) 7 (wI w 7 + 1)) ((if (wL w).length = 30 then (wL w).tail else wL w) ++ [(Int32.ofNat a, m.2)]) = sTake w a m := by
        unfold sTake
        rw [hml]
        rfl
      have r6 : RW S5 W (sTake w a m) := by
        rw [← hw]
        exact r5
      have o5 : OW W S S5 := (((OW.cell k3 fun b hb => inA_W (by omega) b (cP_inA (by decide) b hb)).up (k := 5) (by decide)).up (k := 7) (by decide)).trans (OW.cell j3 (cP_W (by decide) (by decide)))
      obtain ⟨S6, d1, d2, d3⟩ := w_deal_ok (w := sTake w a m) (f := m.1) (b := m.2) hW hmm hlT r6 hT.1 hT.2.1
      have o6 := o5.trans d3
      change fw_deal W (Int32.ofNat a) m.1 m.2 S5 = some ((dealt w a m).2, S6) at d1
      change RW S6 W (dealt w a m).1 at d2
      rw [show oN (some a) = Int32.ofNat a from rfl, w_isActor_ok hR h12 ha, obs, if_neg (by decide), ix_n (by omega) (by decide), obs, q1, obs, q2, obs, k1, obs, obs, e7, obs, j1, obs, d1, bd_some, if_pos hhas]
      by_cases e : (dealt w a m).2 = 0
      · rw [if_pos e, if_pos e]
        exact ⟨S6, rfl, d2, o6.1, o6.2 11 (by decide), o6.2 12 (by decide)⟩
      · rw [if_neg e, if_neg e]
        rw [show (dealt w a m).1 = sTake w a m from deal_fail e] at d2 ⊢
        obtain ⟨S7, f1, f2, f3, f4, f5⟩ := w_fail_ok (why := (dealt w a m).2) hW d2 hT hlT
        rw [o6.2 12 (by decide)] at f2 f5
        rw [f1, obs]
        exact ⟨S7, rfl, f2, o6.1.trans f3, f4, f5⟩
  | none =>
    rw [show oN none = -1 from rfl, w_isActor_no hR (Or.inl (by decide)), obs, if_pos rfl]
    cases ht : wT w with
    | nil =>
      have hhas : ¬ sHas w = true := by
        unfold sHas
        rw [hd, ht]
        simp
      rw [step_nil hd ht, w_fire_none hR ht, bd_some, if_neg hhas]
      exact ⟨S, rfl, hR, Only.refl, rfl, rfl⟩
    | cons t l =>
      have hhas : sHas w = true := by
        unfold sHas
        rw [hd, ht]
        simp
      obtain ⟨S1, k1, k2, k3⟩ := w_fire_ok hW hR h ht
      rw [step_cons hd ht, k1, bd_some, if_pos hhas]
      exact ⟨S1, rfl, k2, k3.1, k3.2 11 (by decide), k3.2 12 (by decide)⟩
/-! the bits are beside the world -/
theorem rests_q (t : Nat) : ∀ (k c : Nat) (w : Wst) (q r : Int32), (sRests t k c w q).1 = (sRests t k c w r).1
  | 0, _, _, _, _ => rfl
  | k + 1, c, w, q, r => by
    show (if sWith w t c = true then sRests t k (c + 1) (sRestart w c) (q ||| (1 <<< (Int32.ofNat c &&& 31))) else sRests t k (c + 1) w q).1 = (if sWith w t c = true then sRests t k (c + 1) (sRestart w c) (r ||| (1 <<< (Int32.ofNat c &&& 31))) else sRests t k (c + 1) w r).1
    split
    · exact rests_q t k (c + 1) _ _ _
    · exact rests_q t k (c + 1) _ _ _
theorem fail_q (w : Wst) (a : Nat) (why q r : Int32) : (sFail w a why q).1 = (sFail w a why r).1 := by
  unfold sFail
  dsimp only
  split
  · rfl
  · exact rests_q _ _ _ _ _ _
theorem step_q (w : Wst) (q r : Int32) : (sStep w q).1 = (sStep w r).1 ∧ (sStep w q).2.1 = (sStep w r).2.1 := by
  unfold sStep
  cases sDealer w with
  | some a =>
    dsimp only
    split
    · exact ⟨rfl, rfl⟩
    · exact ⟨fail_q _ _ _ _ _, rfl⟩
  | none =>
    dsimp only
    cases wT w <;> exact ⟨rfl, rfl⟩
/-! runs -/
/-- steps while there are any, at most k: the world, how many -/
def sSteps : Nat → Wst → Wst × Nat
  | 0, w => (w, 0)
  | k + 1, w => if wI w 10 = 0 then ((sSteps k (wSI (sStep w 0).1 10 (sHow (sStep w 0).1))).1, (sSteps k (wSI (sStep w 0).1 10 (sHow (sStep w 0).1))).2 + 1) else (w, 0)
def sRun (w : Wst) (k : Nat) : Wst × Nat := sSteps k (wSI w 10 (sHow w))
theorem steps_good : ∀ (k : Nat) (w : Wst), Good w → Good (sSteps k w).1
  | 0, _, hg => hg
  | k + 1, w, hg => by
    have hs : sSteps (k + 1) w = if wI w 10 = 0 then ((sSteps k (wSI (sStep w 0).1 10 (sHow (sStep w 0).1))).1, (sSteps k (wSI (sStep w 0).1 10 (sHow (sStep w 0).1))).2 + 1) else (w, 0) := rfl
    rw [hs]
    split
    · exact steps_good k _ (Good.int8 (sStep_good hg) (by decide))
    · exact hg
theorem w_steps_loop {W : Nat} (hW : IsW W) : ∀ (k n j : Nat) (w : Wst) (S : Mem), k < n → j + k < 2 ^ 31 → Good w → RW S W w → ∃ S1, fw_makeSteps_10 n W (Int32.ofNat (j + k)) (Int32.ofNat j) S = some (Int32.ofNat (j + (sSteps k w).2), S1) ∧ RW S1 W (sSteps k w).1 ∧ Only (inW W) S S1
  | _, 0, _, _, _, h, _, _, _ => absurd h (Nat.not_lt_zero _)
  | 0, n + 1, j, w, S, _, hj, hg, hR => by
    show ∃ S1, fw_makeSteps_10b (fw_makeSteps_10 n) W (Int32.ofNat (j + 0)) (Int32.ofNat j) S = _ ∧ _
    unfold fw_makeSteps_10b
    rw [if_pos ((n_le (a := j + 0) (b := j) (by omega) (by omega)).mpr (by omega))]
    exact ⟨S, rfl, hR, Only.refl⟩
  | k + 1, n + 1, j, w, S, hn, hj, hg, hR => by
    have hs : sSteps (k + 1) w = if wI w 10 = 0 then ((sSteps k (wSI (sStep w 0).1 10 (sHow (sStep w 0).1))).1, (sSteps k (wSI (sStep w 0).1 10 (sHow (sStep w 0).1))).2 + 1) else (w, 0) := rfl
    show ∃ S1, fw_makeSteps_10b (fw_makeSteps_10 n) W (Int32.ofNat (j + (k + 1))) (Int32.ofNat j) S = _ ∧ _
    unfold fw_makeSteps_10b
    rw [hs, if_neg (fun q => by rw [n_le (by omega) (by omega)] at q; omega), hR.2.1 10 (by decide) (by decide)]
    by_cases e : wI w 10 = 0
    · obtain ⟨S1, k1, k2, k3, k4, k5⟩ := w_step_ok hW hR hg
      rw [(step_q w (S W 12) 0).1] at k2
      have hg1 := sStep_good (q := 0) hg
      have r1 : RW (up2 S1 W 10 (sHow (sStep w 0).1)) W (wSI (sStep w 0).1 10 (sHow (sStep w 0).1)) := k2.int (by decide)
      obtain ⟨S2, m1, m2, m3⟩ := w_steps_loop hW k n (j + 1) _ _ (by omega) (by omega) (Good.int8 hg1 (by decide)) r1
      rw [if_pos e, k1, bd_some, w_how_ok k2 hg1.1, obs, obs, n_succ, if_pos e, show j + (k + 1) = j + 1 + k by omega, m1]
      refine ⟨S2, ?_, m2, (k3.up ⟨Nat.le_refl _, by omega⟩).trans m3⟩
      show some (Int32.ofNat (j + 1 + _), S2) = some (Int32.ofNat (j + (_ + 1)), S2)
      rw [Nat.add_assoc, Nat.add_comm 1]
    · rw [if_neg e, if_neg e]
      exact ⟨S, rfl, hR, Only.refl⟩
theorem w_run_ok {S : Mem} {W k : Nat} {w : Wst} (hW : IsW W) (hR : RW S W w) (hg : Good w) (hk : k < 3000) : ∃ S1, fw_makeSteps W (Int32.ofNat k) S = some (Int32.ofNat (sRun w k).2, S1) ∧ RW S1 W (sRun w k).1 ∧ Only (inW W) S S1 := by
  have r1 : RW (up2 S W 10 (sHow w)) W (wSI w 10 (sHow w)) := hR.int (by decide)
  obtain ⟨S2, m1, m2, m3⟩ := w_steps_loop hW k LF 0 _ _ (by show k < 3000; exact hk) (by omega) (Good.int8 hg (by decide)) r1
  rw [Nat.zero_add, Nat.zero_add] at m1
  refine ⟨S2, ?_, m2, ((Only.refl.up ⟨Nat.le_refl _, by omega⟩).trans m3)⟩
  unfold fw_makeSteps
  rw [w_how_ok hR hg.1, obs, obs]
  exact m1
theorem run_good {w : Wst} {k : Nat} (hg : Good w) : Good (sRun w k).1 := steps_good k _ (Good.int8 hg (by decide))
