/-! 56: calls: order, reach -/
theorem idiv_n {m n : Nat} (hm : m < 2 ^ 31) (hn : 0 < n) (hn2 : n < 2 ^ 31) : Int32.ofNat m / Int32.ofNat n = Int32.ofNat (m / n) := by
  have hx : (Int32.ofNat m).toInt = m := n_int hm
  have hy : (Int32.ofNat n).toInt = n := n_int hn2
  have hle : m / n ≤ m := Nat.div_le_self m n
  apply Int32.toInt_inj.mp
  rw [idiv_int (by omega) (by omega), hx, hy, n_int (by omega)]
  exact (Int.natCast_ediv m n).symm
theorem body_c {b : Int32} (h : okBody b) : ∃ c, c < 1000 ∧ b + 300 = Int32.ofNat c := by
  have h3 : (300 : Int32).toInt = 300 := by decide
  rcases h with h | ⟨k, hk, rfl⟩
  · have h1 := h.1
    have h2 := h.2
    have e : (b + 300).toInt = b.toInt + 300 := by
      rw [Int32.toInt_add, h3]
      apply Int.bmod_eq_of_le_mul_two <;> omega
    refine ⟨(b.toInt + 300).toNat, by omega, ?_⟩
    apply Int32.toInt_inj.mp
    rw [e, n_int (by omega)]
    omega
  · refine ⟨200 + k + 300, by omega, ?_⟩
    rw [show (200 : Int32) = Int32.ofNat 200 from rfl, show (300 : Int32) = Int32.ofNat 300 from rfl, n_add, n_add]
theorem lg_split {a : Nat} {b : Int32} (ha : a < 12) (hb : okBody b) : lgv (Int32.ofNat a, b) / 1000 = Int32.ofNat a ∧ irm (lgv (Int32.ofNat a, b)) 1000 - 300 = b ∧ ¬ lgv (Int32.ofNat a, b) = -2 := by
  obtain ⟨c, hc, ec⟩ := body_c hb
  have e : lgv (Int32.ofNat a, b) = Int32.ofNat (1000 * a + c) := by
    show 1000 * Int32.ofNat a + b + 300 = _
    rw [Int32.add_assoc, ec, show (1000 : Int32) = Int32.ofNat 1000 from rfl, n_mul, n_add]
  rw [e, show (1000 : Int32) = Int32.ofNat 1000 from rfl, idiv_n (by omega) (by decide) (by decide), irm_nat (by omega) (by decide) (by decide), show (1000 * a + c) / 1000 = a by omega, show (1000 * a + c) % 1000 = c by omega, ← ec, Int32.add_sub_cancel]
  refine ⟨rfl, rfl, fun q => ?_⟩
  have h0 : Int32.ofNat (1000 * a + c) < 0 := by rw [q]; decide
  exact n_neg (by omega) h0
theorem succ_ne (x : Int32) : ¬ x + 1 = x := fun h => by
  have e : x + 1 - x = x - x := by rw [h]
  rw [Int32.add_comm, Int32.add_sub_cancel, Int32.sub_self] at e
  exact absurd e (by decide)
theorem step_log {w : Wst} {a : Nat} {m : Msg} {l : List Msg} (hd : sDealer w = some a) (hm : aMail (wA w a) = m :: l) : wL (sStep w 0).1 = (if (wL w).length = 30 then (wL w).tail else wL w) ++ [(Int32.ofNat a, m.2)] ∧ wI (sStep w 0).1 7 = wI w 7 + 1 := by
  have hfx : FX (sTake w a m) (sStep w 0).1 := by
    have h1 : FX (sTake w a m) (dealt w a m).1 := deal_fx _ _ _ _
    rw [step_some hd hm]
    split
    · exact h1
    · exact h1.trans (fail_fx _ _ _ _)
  refine ⟨hfx.1, (hfx.2 7 (by decide)).trans ?_⟩
  show upd (upd (wI w) 5 (Int32.ofNat a)) 7 (wI w 7 + 1) 7 = _
  exact upd_s
theorem step_clock {w : Wst} (hd : sDealer w = none) : wI (sStep w 0).1 7 = wI w 7 := by
  cases ht : wT w with
  | nil => rw [step_nil hd ht]
  | cons t l =>
    rw [step_cons hd ht]
    have h := (sSend_kp (wST (wSI w 6 t.2.1) l) (nu t.1) (-1, t.2.2)).fx.2 7 (by decide)
    exact h
def sOrd (l : List Int32) (N : Nat) : Nat → Nat → Wst → Int32
  | 0, met, _ => if N ≤ met then -2 else Int32.ofNat met
  | j + 1, met, w => if N ≤ met then -2 else if sHas w = true then (match sDealer w with
    | none => sOrd l N j met (sStep w 0).1
    | some a => if l[2 * met]? = some (Int32.ofNat a) ∧ l[2 * met + 1]? = some ((aMail (wA w a)).headD (0, 0)).2 then sOrd l N j (met + 1) (sStep w 0).1 else Int32.ofNat met) else Int32.ofNat met
theorem x_ord_loop {l : List Int32} {N o : Nat} (hN : 2 * N ≤ l.length) (hl : l.length ≤ 60) (ho : ln (o + 1) = 60) (hoff : 673 ≤ o) : ∀ (j n made met : Nat) (w : Wst) (S : Mem), made + j = 200 → j < n → met ≤ N → Good w → RW S 169 w → RN S o l → ∃ S1, fx_firstOtherwise_16 n o (Int32.ofNat N) (Int32.ofNat met) (Int32.ofNat made) S = some (sOrd l N j met w, S1) ∧ Only (inW 169) S S1
  | _, 0, _, _, _, _, _, h, _, _, _, _ => absurd h (Nat.not_lt_zero _)
  | 0, n + 1, made, met, w, S, h, _, hm, _, _, _ => by
    have e : made = 200 := by omega
    subst e
    show ∃ S1, fx_firstOtherwise_16b (fx_firstOtherwise_16 n) o (Int32.ofNat N) (Int32.ofNat met) (Int32.ofNat 200) S = some (if N ≤ met then -2 else Int32.ofNat met, S1) ∧ _
    unfold fx_firstOtherwise_16b
    rw [if_pos (show (200 : Int32) ≤ Int32.ofNat 200 by decide)]
    by_cases g : N ≤ met
    · rw [if_pos ((n_le (by omega) (by omega)).mpr g), if_pos g]
      exact ⟨S, rfl, Only.refl⟩
    · rw [if_neg (fun q => g ((n_le (by omega) (by omega)).mp q)), if_neg g]
      exact ⟨S, rfl, Only.refl⟩
  | j + 1, n + 1, made, met, w, S, h, hn, hm, hg, hR, hRN => by
    have hI := hg.1
    have h12 := hI.1
    have hs : sOrd l N (j + 1) met w = if N ≤ met then -2 else if sHas w = true then (match sDealer w with
      | none => sOrd l N j met (sStep w 0).1
      | some a => if l[2 * met]? = some (Int32.ofNat a) ∧ l[2 * met + 1]? = some ((aMail (wA w a)).headD (0, 0)).2 then sOrd l N j (met + 1) (sStep w 0).1 else Int32.ofNat met) else Int32.ofNat met := rfl
    show ∃ S1, fx_firstOtherwise_16b (fx_firstOtherwise_16 n) o (Int32.ofNat N) (Int32.ofNat met) (Int32.ofNat made) S = _ ∧ _
    unfold fx_firstOtherwise_16b
    rw [hs, if_neg (fun q => by rw [show (200 : Int32) = Int32.ofNat 200 from rfl, n_le (by decide) (by omega)] at q; omega)]
    by_cases g : N ≤ met
    · rw [if_pos ((n_le (by omega) (by omega)).mpr g), if_pos ((n_le (by omega) (by omega)).mpr g), if_pos g]
      exact ⟨S, rfl, Only.refl⟩
    · obtain ⟨S1, q1, q2, q3, -, -⟩ := w_step_ok (Or.inr (Or.inl rfl) : IsW 169) hR hg
      rw [(step_q w (S 169 12) 0).1] at q2
      have hRN1 : RN S1 o l := hRN.congr (q3 _ fun q => by have := q.2; omega) (q3 _ fun q => by have := q.2; omega)
      have hg1 := sStep_good (q := 0) hg
      rw [if_neg (fun q => g ((n_le (by omega) (by omega)).mp q)), if_neg g, q1, bd_some]
      by_cases e : sHas w = true
      · rw [if_pos e, if_neg n10, if_pos e, q2.2.1 7 (by decide) (by decide), hR.2.1 7 (by decide) (by decide)]
        cases hd : sDealer w with
        | none =>
          obtain ⟨S2, p1, p2⟩ := x_ord_loop hN hl ho hoff j n (made + 1) met (sStep w 0).1 S1 (by omega) (by omega) hm hg1 q2 hRN1
          rw [step_clock hd, if_pos rfl, n_succ]
          exact ⟨S2, p1, q3.trans p2⟩
        | some a =>
          obtain ⟨hlv, hmm⟩ := dealer_some hd
          have ha := (sLive_lt hlv).1
          cases hml : aMail (wA w a) with
          | nil => rw [hml] at hmm; exact absurd hmm (by decide)
          | cons m lm =>
            obtain ⟨s1, s2⟩ := step_log hd hml
            have hP : RP S1 175 (wL (sStep w 0).1) := q2.2.2.2.2.1
            have hlen := hg1.1.2.2.2.1.1
            obtain ⟨t1, t2, t3, t4, t5⟩ := lnW (Or.inr (Or.inl rfl) : IsW 169)
            have hl1 : (wL (sStep w 0).1).length = (if (wL w).length = 30 then (wL w).tail else wL w).length + 1 := by rw [s1, List.length_append]; rfl
            have hlast : (wL (sStep w 0).1)[(wL (sStep w 0).1).length - 1]? = some (Int32.ofNat a, m.2) := by
              rw [hl1, Nat.add_sub_cancel, s1, List.getElem?_append_right (Nat.le_refl _), Nat.sub_self]
              rfl
            have hidx : (S1 175 2) - 1 = Int32.ofNat ((wL (sStep w 0).1).length - 1) := by
              rw [hP.1]
              exact n_sub (b := 1) (by omega)
            have c1 : l[2 * met]? = some l[2 * met] := List.getElem?_eq_getElem (by omega)
            have c2 : l[2 * met + 1]? = some l[2 * met + 1] := List.getElem?_eq_getElem (by omega)
            rw [s2, if_neg (succ_ne _), hidx, p_first_ok hP hlast (by show _ ≤ ln (169 + 6 + 1); rw [t2]; omega) (by show ln (169 + 6 + 1) < _; rw [t2]; decide), obs, im2, n_succ, n_at_ok hRN1 c1 (by rw [ho]; exact hl) (by rw [ho]; decide), obs, p_second_ok hP hlast (by show _ ≤ ln (169 + 6 + 2); rw [t3]; omega) (by show ln (169 + 6 + 2) < _; rw [t3]; decide), obs, n_at_ok hRN1 c2 (by rw [ho]; exact hl) (by rw [ho]; decide), obs]
            dsimp only
            rw [hml]
            show ∃ S1, _ = some (if l[2 * met]? = some (Int32.ofNat a) ∧ l[2 * met + 1]? = some m.2 then sOrd l N j (met + 1) (sStep w 0).1 else Int32.ofNat met, S1) ∧ _
            by_cases x1 : Int32.ofNat a = l[2 * met]
            · rw [if_pos x1]
              by_cases x2 : m.2 = l[2 * met + 1]
              · obtain ⟨S2, p1, p2⟩ := x_ord_loop hN hl ho hoff j n (made + 1) (met + 1) (sStep w 0).1 S1 (by omega) (by omega) (by omega) hg1 q2 hRN1
                rw [if_pos x2, if_pos ⟨by rw [c1, x1], by rw [c2, x2]⟩, n_succ, n_succ]
                exact ⟨S2, p1, q3.trans p2⟩
              · rw [if_neg x2, if_neg (fun q => by
                  rw [c2] at q
                  exact x2 (Option.some.inj q.2).symm)]
                exact ⟨S1, rfl, q3⟩
            · rw [if_neg x1, if_neg (fun q => by
                rw [c1] at q
                exact x1 (Option.some.inj q.1).symm)]
              exact ⟨S1, rfl, q3⟩
      · rw [if_neg e, if_pos rfl, if_neg e]
        exact ⟨S1, rfl, q3⟩
theorem m_ord_50 {k5 : Int32 → Int32 → Int32 → Int32 → Mem → Option (Int32 × Mem)} {v1 v2 v3 v4 : Int32} {S : Mem} (h : S 697 7 = -2) : fm_ordered_50 k5 v1 v2 v3 v4 S = some (v4, S) := by
  unfold fm_ordered_50
  rw [h, if_pos rfl]
theorem m_ord_loop {en : Int32} {l : List Int32} {N h : Nat} (hh : h < 6) (hN : 2 * N ≤ l.length) (hl : l.length ≤ 60) : ∀ (j n5 n17 made met : Nat) (w : Wst) (Y : Mem) (f : Nat → Int32), made + j = 200 → j < n17 → N < n5 + met → met < N → Good w → RM en f w → Y 697 7 = -2 → (∀ i, i < l.length → l[i]? = some (Y (708 + h) i)) → ∃ Y1 f1, fm_ordered_17 (fm_ordered_5 n5) n17 (Int32.ofNat h) (Int32.ofNat N) (Int32.ofNat made) (Int32.ofNat met) (gM Y f) = some (sOrd l N j met w, gM Y1 f1) ∧ OE Y Y1
  | _, _, 0, _, _, _, _, _, _, h, _, _, _, _, _, _ => absurd h (Nat.not_lt_zero _)
  | 0, n5, n17 + 1, made, met, w, Y, f, hmd, _, _, hm, _, _, h7, _ => by
    have e : made = 200 := by omega
    subst e
    show ∃ Y1 f1, fm_ordered_17b (fm_ordered_5 n5) (fm_ordered_17 (fm_ordered_5 n5) n17) _ _ (Int32.ofNat 200) _ (gM Y f) = some (if N ≤ met then -2 else Int32.ofNat met, gM Y1 f1) ∧ _
    unfold fm_ordered_17b
    have h7' : (gM Y f) 697 7 = -2 := by rw [gM_off (by decide)]; exact h7
    rw [h7', if_pos rfl, if_pos (show (200 : Int32) ≤ Int32.ofNat 200 by decide), m_ord_50 h7', if_neg (by omega)]
    exact ⟨Y, f, rfl, OE.refl Y⟩
  | j + 1, n5, n17 + 1, made, met, w, Y, f, hmd, hn, hn5, hm, hg, hR, h7, hrow => by
    have hI := hg.1
    have h12 := hI.1
    have hs : sOrd l N (j + 1) met w = if N ≤ met then -2 else if sHas w = true then (match sDealer w with
      | none => sOrd l N j met (sStep w 0).1
      | some a => if l[2 * met]? = some (Int32.ofNat a) ∧ l[2 * met + 1]? = some ((aMail (wA w a)).headD (0, 0)).2 then sOrd l N j (met + 1) (sStep w 0).1 else Int32.ofNat met) else Int32.ofNat met := rfl
    have h7' : (gM Y f) 697 7 = -2 := by rw [gM_off (by decide)]; exact h7
    show ∃ Y1 f1, fm_ordered_17b (fm_ordered_5 n5) (fm_ordered_17 (fm_ordered_5 n5) n17) _ _ (Int32.ofNat made) _ (gM Y f) = _ ∧ _
    unfold fm_ordered_17b
    rw [hs, h7', if_pos rfl, if_neg (fun q => by rw [show (200 : Int32) = Int32.ofNat 200 from rfl, n_le (by decide) (by omega)] at q; omega), m_has_ok hR hI, obs, if_neg (show ¬ N ≤ met by omega), m_ord_50 h7']
    by_cases e : sHas w = true
    · obtain ⟨Y1, f1, q1, q2, q3, q4, q5⟩ := m_step_ok (S := Y) hR hg e
      have hg1 := sStep_good (q := 0) hg
      have hrow1 : ∀ i, i < l.length → l[i]? = some (Y1 (708 + h) i) := fun i hi => by
        rw [q3.1 _ (by omega) (by omega)]
        exact hrow i hi
      rw [if_pos e, if_neg n10, if_pos e, q1, obs, n_succ]
      cases hd : sDealer w with
      | none =>
        have t7 : Y1 697 7 = -2 := by
          rw [q5]
          unfold sTold
          rw [hd]
        obtain ⟨Y2, f2, p1, p2⟩ := m_ord_loop hh hN hl j n5 n17 (made + 1) met (sStep w 0).1 Y1 f1 (by omega) (by omega) hn5 hm hg1 q2 t7 hrow1
        exact ⟨Y2, f2, p1, q3.trans p2⟩
      | some a =>
        obtain ⟨hlv, hmm⟩ := dealer_some hd
        have ha := (sLive_lt hlv).1
        cases hml : aMail (wA w a) with
        | nil => rw [hml] at hmm; exact absurd hmm (by decide)
        | cons m lm =>
          have hb : okBody m.2 := ((hI.2.1 a ha).2.2.2.2.2.2.2.1.2 m (by rw [hml]; exact List.mem_cons_self)).2
          obtain ⟨g1, g2, g3⟩ := lg_split (a := a) (b := m.2) (by omega) hb
          have t7 : Y1 697 7 = lgv (Int32.ofNat a, m.2) := by
            rw [q5]
            unfold sTold
            rw [hd]
            dsimp only
            rw [hml]
            rfl
          have t7' : (gM Y1 f1) 697 7 = lgv (Int32.ofNat a, m.2) := by rw [gM_off (by decide)]; exact t7
          have c1 : l[2 * met]? = some l[2 * met] := List.getElem?_eq_getElem (by omega)
          have c2 : l[2 * met + 1]? = some l[2 * met + 1] := List.getElem?_eq_getElem (by omega)
          have d1 : Y1 (708 + h) (2 * met) = l[2 * met] := by
            have := hrow1 (2 * met) (by omega)
            rw [c1] at this
            exact (Option.some.inj this).symm
          have d2 : Y1 (708 + h) (2 * met + 1) = l[2 * met + 1] := by
            have := hrow1 (2 * met + 1) (by omega)
            rw [c2] at this
            exact (Option.some.inj this).symm
          have hln := (lnH.2.2.2 h hh).1
          obtain ⟨n17, rfl⟩ : ∃ n', n17 = n' + 1 := ⟨n17 - 1, by omega⟩
          dsimp only
          rw [hml]
          show ∃ Y2 f2, fm_ordered_17b (fm_ordered_5 n5) (fm_ordered_17 (fm_ordered_5 n5) n17) _ _ (Int32.ofNat (made + 1)) _ (gM Y1 f1) = some (if l[2 * met]? = some (Int32.ofNat a) ∧ l[2 * met + 1]? = some m.2 then sOrd l N j (met + 1) (sStep w 0).1 else Int32.ofNat met, gM Y2 f2) ∧ _
          unfold fm_ordered_17b
          rw [t7', if_neg g3]
          unfold fm_ordered_50
          rw [t7', if_neg g3, ix_n hh (by decide), obs, im2, ald_n (by rw [hln]; omega) (by rw [hln]; decide), obs, gM_off (by omega), d1, g1]
          by_cases x1 : l[2 * met] = Int32.ofNat a
          · rw [if_pos x1, obs, n_succ, ald_n (by rw [hln]; omega) (by rw [hln]; decide), obs, gM_off (by omega), d2, g2]
            by_cases x2 : l[2 * met + 1] = m.2
            · rw [if_pos x2, if_pos ⟨by rw [c1, x1], by rw [c2, x2]⟩, n_succ]
              obtain ⟨n5, rfl⟩ : ∃ n', n5 = n' + 1 := ⟨n5 - 1, by omega⟩
              show ∃ Y2 f2, fm_ordered_5b (fm_ordered_5 n5) _ _ _ (Int32.ofNat (met + 1)) (gM Y1 f1) = _ ∧ _
              unfold fm_ordered_5b
              by_cases g : N ≤ met + 1
              · have hz : sOrd l N j (met + 1) (sStep w 0).1 = -2 := by
                  cases j with
                  | zero => exact if_pos g
                  | succ j => exact if_pos g
                rw [if_pos ((n_le (by omega) (by omega)).mpr g), hz]
                exact ⟨Y1, f1, rfl, q3⟩
              · obtain ⟨Y2, f2, p1, p2⟩ := m_ord_loop hh hN hl j n5 LF (made + 1) (met + 1) (sStep w 0).1 (up2 Y1 697 7 (-2)) f1 (by omega) (by show j < 3000; omega) (by omega) (by omega) hg1 q2 up2_self (fun i hi => by
                  rw [up2_off (by omega)]
                  exact hrow1 i hi)
                rw [if_neg (fun q => g ((n_le (by omega) (by omega)).mp q)), gM_up2 (by decide), obs]
                exact ⟨Y2, f2, p1, (q3.trans (OE.f697 (by omega))).trans p2⟩
            · rw [if_neg x2, if_neg (fun q => by
                rw [c2] at q
                exact x2 (Option.some.inj q.2))]
              exact ⟨Y1, f1, rfl, q3⟩
          · rw [if_neg x1, if_neg (fun q => by
              rw [c1] at q
              exact x1 (Option.some.inj q.1))]
            exact ⟨Y1, f1, rfl, q3⟩
    · rw [if_neg e, if_pos rfl, if_neg e]
      exact ⟨Y, f, rfl, OE.refl Y⟩
section
variable {S : Mem} {w : Wst} {ik : Option Wst} {bl : List Int32} {hd : Nat → Hd}
theorem e_order (h : REL S w ik bl hd) (v1 v2 : Int32) : ∃ r S1 S2, fx_order v1 v2 S = some (r, S1) ∧ fm_order v1 v2 S1 = some (r, S2) ∧ REL S2 w ik bl hd := by
  have hg := h.2.2.1
  unfold fx_order fm_order
  rcases hand_cases v1 S S with ⟨j, hj, rfl, e1, e2⟩ | ⟨e1, e2⟩
  · obtain ⟨cc1, cc2, cc3⟩ := h.1.2.2.2 j hj
    obtain ⟨mm1, mm2, mm3⟩ := h.2.1.2.2.2 j hj
    obtain ⟨oo1, oo2, oo3⟩ := h.2.2.2.2.2.2 j hj
    rw [e1, obs, if_neg n10, ix_n hj (by decide), obs, cc1]
    by_cases g0 : (hd j).1 = 0
    · rw [if_pos g0]
      refine ⟨_, S, S, rfl, ?_, h⟩
      rw [e2, obs, if_neg n10, c704 hj, obs, mm1, if_neg (by rw [g0]; decide), obs, if_pos g0]
    · rw [if_neg g0]
      by_cases g2 : (hd j).1 = 2
      · have hl := oo3 g2
        have hRN := cc3 g2
        obtain ⟨mr1, mr2⟩ := mm3 g2
        obtain ⟨hl1, hl2⟩ := lnH.2.2.2 j hj
        generalize (hd j).2.2 = l at hl hRN mr1 mr2
        have hsz : S (679 + 3 * j + 1) 1 = Int32.ofNat l.length := hRN.1
        have hdiv : Int32.ofNat l.length / 2 = Int32.ofNat (l.length / 2) := idiv_n (n := 2) (by omega) (by decide) (by decide)
        rw [if_pos g2, hsz, hdiv]
        rcases nn_cases v2 with hv | ⟨N, hN, rfl⟩
        · rw [if_neg (neg0 hv)]
          refine ⟨_, S, S, rfl, ?_, h⟩
          rw [e2, obs, if_neg n10, c704 hj, obs, mm1, if_pos g2, if_neg (neg0 hv)]
        · rw [if_pos (nn0 hN)]
          by_cases g : N ≤ l.length / 2
          · obtain ⟨S1, q1, q2, q3⟩ := think_start h
            have hRN1 : RN S1 (679 + 3 * j + 1) l := hRN.congr (q3 _ fun q => by have := q.2; omega) (q3 _ fun q => by have := q.2; omega)
            obtain ⟨S2, p1, p2⟩ := x_ord_loop (l := l) (N := N) (o := 679 + 3 * j + 1) (by omega) hl hl2 (by omega) 200 LF 0 0 w S1 (by decide) (by decide) (Nat.zero_le _) hg q2 hRN1
            have o2 := q3.trans p2
            obtain ⟨l1, l2⟩ := look_1 h o2
            obtain ⟨hfr, hfr2⟩ := think_only o2
            have hX : RM (wI w 10) ((xup S2 699 (tk (S2 698) (S2 699))) 698) w := by
              rw [xup_ne (by decide)]
              exact l2
            have hm : ∃ Y f, fm_ordered (Int32.ofNat j) (Int32.ofNat N) (xup S2 699 (tk (S2 698) (S2 699))) = some (sOrd l N 200 0 w, gM Y f) ∧ OE (xup S2 699 (tk (S2 698) (S2 699))) Y := by
              by_cases gN : N = 0
              · subst gN
                refine ⟨xup S2 699 (tk (S2 698) (S2 699)), (xup S2 699 (tk (S2 698) (S2 699))) 698, ?_, OE.refl _⟩
                rw [gM_eta]
                show fm_ordered_5b (fm_ordered_5 2999) (Int32.ofNat j) (Int32.ofNat 0) 0 0 _ = _
                unfold fm_ordered_5b
                rw [if_pos (by decide)]
                rfl
              · obtain ⟨Y, f, m1, m2⟩ := m_ord_loop (l := l) (N := N) hj (by omega) hl 200 2999 LF 0 0 w (up2 (xup S2 699 (tk (S2 698) (S2 699))) 697 7 (-2)) ((up2 (xup S2 699 (tk (S2 698) (S2 699))) 697 7 (-2)) 698) (by decide) (by decide) (by omega) (by omega) hg (by rw [up2_off (by decide)]; exact hX) up2_self (fun i hi => by
                  rw [up2_off (by omega), xup_ne (by omega), hfr _ (by omega)]
                  exact mr2 i hi)
                rw [gM_eta] at m1
                refine ⟨Y, f, ?_, (OE.f697 (by omega)).trans m2⟩
                show fm_ordered_5b (fm_ordered_5 2999) (Int32.ofNat j) (Int32.ofNat N) 0 0 _ = _
                unfold fm_ordered_5b
                rw [if_neg (show ¬ Int32.ofNat N ≤ 0 from fun q => by rw [show (0 : Int32) = Int32.ofNat 0 from rfl, n_le hN (by decide)] at q; omega), obs]
                exact m1
            obtain ⟨Y, f, m1, m2⟩ := hm
            have hr : fx_firstOtherwise (679 + 3 * j + 1) (Int32.ofNat N) S = some (sOrd l N 200 0 w, S2) := by
              unfold fx_firstOtherwise
              rw [q1, obs]
              exact p1
            rw [if_pos ((n_le hN (by omega)).mpr g), hr, bd_some]
            refine ⟨_, S2, gM Y (tk (Y 699) f), rfl, ?_, think_rel h hfr hfr2 m2⟩
            rw [hand_m hj, obs, if_neg n10, c704 hj, obs, hfr 704 (by omega), mm1, if_pos g2, if_pos (nn0 hN), c706 hj, obs, hfr 706 (by omega), mr1, hdiv, if_pos ((n_le hN (by omega)).mpr g), save_ok, obs, m1, bd_some, load_ok, obs]
          · rw [if_neg (fun q => g ((n_le hN (by omega)).mp q))]
            refine ⟨_, S, S, rfl, ?_, h⟩
            rw [e2, obs, if_neg n10, c704 hj, obs, mm1, if_pos g2, if_pos (nn0 hN), c706 hj, obs, mr1, hdiv, if_neg (fun q => g ((n_le hN (by omega)).mp q))]
      · rw [if_neg g2]
        refine ⟨_, S, S, rfl, ?_, h⟩
        rw [e2, obs, if_neg n10, c704 hj, obs, mm1, if_neg g2, obs, if_neg g0]
  · rw [e1, obs, if_pos rfl]
    refine ⟨_, S, S, rfl, ?_, h⟩
    rw [e2, obs, if_pos rfl]
end
