/-! 71: the class's calls, as the law makes them -/
def RX (S : Mem) (w : Wst) (ik : Option Wst) : Prop := RW S 1 w ∧ CK S ik ∧ (∀ h, h < 6 → S (679 + 3 * h) 1 = 0) ∧ Good w ∧ ∀ k, ik = some k → Good k
theorem RX.world {S S1 : Mem} {w w1 : Wst} {ik : Option Wst} (h : RX S w ik) (h1 : RW S1 1 w1) (ho : Only (inW 1) S S1) (hg : Good w1) : RX S1 w1 ik := by
  obtain ⟨a1, a2, a3, a4, a5⟩ := h
  refine ⟨h1, a2.congr a5 (ho 0 fun q => by have := q.1; omega) fun b q => ho b fun p => by have := q.1; have := p.2; omega, fun j hj => ?_, hg, a5⟩
  rw [ho _ fun q => by have := q.2; omega]
  exact a3 j hj
theorem RX.think {S S1 : Mem} {w : Wst} {ik : Option Wst} (h : RX S w ik) (ho : Only (inW 169) S S1) : RX S1 w ik := by
  obtain ⟨a1, a2, a3, a4, a5⟩ := h
  refine ⟨a1.congr a4.1.1 fun b q => ho b fun p => by have := q.2; have := p.1; omega, a2.congr a5 (ho 0 fun q => by have := q.1; omega) fun b q => ho b fun p => by have := q.1; have := p.2; omega, fun j hj => ?_, a4, a5⟩
  rw [ho _ fun q => by have := q.2; omega]
  exact a3 j hj
section
variable {S : Mem} {w : Wst} {ik : Option Wst}
theorem xa_cases (h : RX S w ik) (v : Int32) : (∃ a, a < wN w ∧ a < 12 ∧ v = Int32.ofNat a ∧ fw_isActor 1 v S = some 1) ∨ fw_isActor 1 v S = some 0 := by
  have hI := h.2.2.2.1.1
  have h12 := hI.1
  rcases nn_cases v with hv | ⟨i, hi, rfl⟩
  · exact Or.inr (w_isActor_no h.1 (Or.inl hv))
  · have e1 := w_isActor_any h.1 hI hi
    by_cases e : i < wN w
    · rw [if_pos e] at e1
      exact Or.inl ⟨i, e, by omega, rfl, e1⟩
    · rw [if_neg e] at e1
      exact Or.inr e1
theorem xl_ok (h : RX S w ik) {a : Nat} (ha : a < wN w) : fw_isLive 1 (Int32.ofNat a) S = some (if sLive w a = true then 1 else 0) := w_isLive_ok h.1 h.2.2.2.1.1.1 ha (h.2.2.2.1.1.b ha)
/-! calls that change -/
theorem xc_actor (h : RX S w ik) (v1 v2 v3 : Int32) : ∃ r S1 w1, fx_actor v1 v2 v3 S = some (r, S1) ∧ RX S1 w1 ik ∧ ∀ T, FA T w → FA T w1 := by
  unfold fx_actor
  by_cases h3 : 0 ≤ v3
  · obtain ⟨S1, q1, q2, q3⟩ := w_born_ok v1 v2 (v3 / 1000) (irm (v3 / 100) 10) (irm v3 100) h.1 h.2.2.2.1
    rw [if_pos h3, q1, bd_some]
    exact ⟨_, S1, _, rfl, h.world q2 q3 (came_good h.2.2.2.1), fun T hT => fair_born hT⟩
  · rw [if_neg h3]
    exact ⟨_, S, w, rfl, h, fun T hT => hT⟩
theorem xn_cases (v : Int32) (S1 : Mem) : (okV v ∧ fx_isNumber v S1 = some 1) ∨ fx_isNumber v S1 = some 0 := by
  have h99 : (99 : Int32).toInt = 99 := by decide
  have h99m : (-99 : Int32).toInt = -99 := by decide
  unfold fx_isNumber
  by_cases h1 : v < -99
  · rw [if_pos h1]
    exact Or.inr rfl
  · rw [if_neg h1]
    by_cases h2 : 99 < v
    · rw [if_pos h2]
      exact Or.inr rfl
    · rw [if_neg h2]
      refine Or.inl ⟨?_, rfl⟩
      rw [Int32.lt_iff_toInt_lt] at h1 h2
      unfold okV
      omega
theorem xs_ok (h : RX S w ik) {a : Nat} {m : Msg} (ha : a < wN w) (hm : okM (wN w) m) : ∃ r S1, fw_send 1 (Int32.ofNat a) m.1 m.2 S = some (r, S1) ∧ RX S1 (sSend w a m) ik := by
  have hI := h.2.2.2.1.1
  obtain ⟨S1, g1, g2, g3⟩ := w_send_ok m (Or.inl rfl : IsW 1) h.1 hI.1 ha (hI.b ha) (hI.mail ha)
  exact ⟨_, S1, g1, h.world g2 g3.1 (sSend_good h.2.2.2.1 hm)⟩
theorem xc_tell (h : RX S w ik) (v1 v2 v3 : Int32) : ∃ r S1 w1, fx_tell v1 v2 v3 S = some (r, S1) ∧ RX S1 w1 ik ∧ ∀ T, FA T w → FA T w1 := by
  have no : ∀ r : Int32, ∃ r2 S1 w1, some (r, S) = some (r2, S1) ∧ RX S1 w1 ik ∧ ∀ T, FA T w → FA T w1 := fun r => ⟨r, S, w, rfl, h, fun _ hT => hT⟩
  unfold fx_tell
  rcases xa_cases h v1 with ⟨a, ha, ha12, rfl, e1⟩ | e1
  · have key : ∀ v2 : Int32, okM (wN w) (v2, v3) → ∃ r S1 w1, (bd (fw_send 1 (Int32.ofNat a) v2 v3 S) fun x3 S1 => if x3 = 0 then (some ((-5 : Int32), S1)) else ((ix (Int32.ofNat a) 12).bind fun i1 => some (S1 (1 + 12 + 13 * i1 + 3) 2, S1))) = some (r, S1) ∧ RX S1 w1 ik ∧ ∀ T, FA T w → FA T w1 := fun v2 hm => by
      obtain ⟨r, S1, q1, q2⟩ := xs_ok h (m := (v2, v3)) ha hm
      rw [q1, bd_some, ix_n ha12 (by decide), obs]
      by_cases e : r = 0
      · rw [if_pos e]
        exact ⟨_, S1, _, rfl, q2, fun T hT => hT.kp (sSend_kp _ _ _)⟩
      · rw [if_neg e]
        exact ⟨_, S1, _, rfl, q2, fun T hT => hT.kp (sSend_kp _ _ _)⟩
    rw [e1, obs, if_neg n10]
    by_cases g : v2 = -1
    · rw [if_pos g]
      rcases xn_cases v3 S with ⟨hv, n1⟩ | n1
      · rw [n1, obs, if_neg n10]
        exact key v2 ⟨Or.inl g, Or.inl hv⟩
      · rw [n1, obs, if_pos rfl]
        exact no _
    · rw [if_neg g]
      rcases xa_cases h v2 with ⟨b, hb, hb12, hbe, b1⟩ | b1
      · rw [b1, obs, if_neg n10]
        rcases xn_cases v3 S with ⟨hv, n1⟩ | n1
        · rw [n1, obs, if_neg n10]
          exact key v2 ⟨Or.inr ⟨b, hb, hbe⟩, Or.inl hv⟩
        · rw [n1, obs, if_pos rfl]
          exact no _
      · rw [b1, obs, if_pos rfl]
        exact no _
  · rw [e1, obs, if_pos rfl]
    exact no _
theorem xc_drawn (h : RX S w ik) (v : Int32) : ∃ r S1 w1, fx_drawn v S = some (r, S1) ∧ RX S1 w1 ik ∧ ∀ T, FA T w → FA T w1 := by
  have no : ∀ r : Int32, ∃ r2 S1 w1, some (r, S) = some (r2, S1) ∧ RX S1 w1 ik ∧ ∀ T, FA T w → FA T w1 := fun r => ⟨r, S, w, rfl, h, fun _ hT => hT⟩
  have hg := h.2.2.2.1
  have h12 := hg.1.1
  obtain ⟨G, hG⟩ : ∃ G : Int32 → Int32, ∀ s, G s = s * 1103515245 + 12345 := ⟨_, fun _ => rfl⟩
  unfold fx_drawn
  by_cases h1 : v < 1
  · rw [if_pos h1]
    exact no _
  · rw [if_neg h1]
    by_cases h2 : v ≤ 40
    · obtain ⟨k, hk, rfl⟩ : ∃ k, k ≤ 40 ∧ v = Int32.ofNat k := by
        rcases nn_cases v with hv | ⟨k, hk, rfl⟩
        · exact absurd hv (one_pos h1).1
        · rw [show (40 : Int32) = Int32.ofNat 40 from rfl, n_le hk (by decide)] at h2
          exact ⟨k, h2, rfl⟩
      rw [if_pos h2, h.1.1]
      by_cases h0 : 0 < wN w
      · have hn0 : ¬ Int32.ofNat (wN w) = 0 := fun q => by
          rw [show (0 : Int32) = Int32.ofNat 0 from rfl, n_inj (by omega) (by decide)] at q
          omega
        obtain ⟨S1, q1, q2, q3⟩ := x_draw_loop G hG (S 1 8) k LF 0 w S (by omega) (by show k < 3000; omega) h0 hg h.1
        rw [Nat.zero_add] at q1
        rw [if_neg hn0, show fx_drawn_36 LF (Int32.ofNat k) (S 1 8) 0 S = _ from q1]
        exact ⟨_, S1, _, rfl, h.world q2 q3 (draw_good G k w hg).1, fun T hT => fair_draw G k w hT⟩
      · have e0 : Int32.ofNat (wN w) = 0 := by
          rw [show wN w = 0 by omega]
          rfl
        rw [if_pos e0]
        exact no _
    · rw [if_neg h2]
      exact no _
theorem xc_stop (h : RX S w ik) (v : Int32) : ∃ r S1 w1, fx_stop v S = some (r, S1) ∧ RX S1 w1 ik ∧ ∀ T, FA T w → FA T w1 := by
  have hg := h.2.2.2.1
  unfold fx_stop
  rcases xa_cases h v with ⟨a, ha, ha12, rfl, e1⟩ | e1
  · rw [e1, obs, if_neg n10, xl_ok h ha, obs]
    by_cases e : sLive w a = true
    · obtain ⟨S1, q1, q2, q3⟩ := w_halt_ok (Or.inl rfl : IsW 1) h.1 hg.1 hg.2.1 e
      rw [if_pos e, if_neg n10, q1, bd_some]
      exact ⟨_, S1, _, rfl, h.world q2 q3.1 (stop_good hg e), fun T hT => fair_halt hg e hT⟩
    · rw [if_neg e, if_pos rfl]
      exact ⟨_, S, w, rfl, h, fun _ hT => hT⟩
  · rw [e1, obs, if_pos rfl]
    exact ⟨_, S, w, rfl, h, fun _ hT => hT⟩
theorem xst_ok {k : Nat} (h1 : 1 ≤ k) (h2 : k ≤ 200) (S1 : Mem) : fx_isSteps (Int32.ofNat k) S1 = some 1 := by
  unfold fx_isSteps
  rw [if_neg (show ¬ Int32.ofNat k < 1 from fun q => by rw [show (1 : Int32) = Int32.ofNat 1 from rfl, n_lt (by omega) (by decide)] at q; omega), if_neg (show ¬ (200 : Int32) < Int32.ofNat k from fun q => by rw [show (200 : Int32) = Int32.ofNat 200 from rfl, n_lt (by decide) (by omega)] at q; omega)]
theorem xc_run (h : RX S w ik) {k : Nat} (h1 : 1 ≤ k) (h2 : k ≤ 200) : ∃ S1, fx_run (Int32.ofNat k) S = some (Int32.ofNat (sRun w k).2, S1) ∧ RX S1 (sRun w k).1 ik := by
  have hg := h.2.2.2.1
  obtain ⟨S1, q1, q2, q3⟩ := w_run_ok (k := k) (Or.inl rfl : IsW 1) h.1 hg (by omega)
  unfold fx_run
  rw [xst_ok h1 h2, obs, if_neg n10, q1, bd_some]
  exact ⟨S1, rfl, h.world q2 q3 (run_good hg)⟩
theorem xc_seed (h : RX S w ik) (v : Int32) : ∃ r S1 w1, fx_seed v S = some (r, S1) ∧ RX S1 w1 ik ∧ ∀ T, FA T w → FA T w1 := by
  unfold fx_seed
  rw [obs]
  exact ⟨_, _, wSI w 9 v, rfl, h.world (h.1.int (by decide)) (Only.refl.up ⟨by omega, by omega⟩) (h.2.2.2.1.int8 (by decide)), fun T hT => hT.int (by decide)⟩
theorem xc_image (h : RX S w ik) : ∃ S1, fx_image S = some (Int32.ofNat (wN w), S1) ∧ RX S1 w (some w) := by
  obtain ⟨a1, a2, a3, a4, a5⟩ := h
  obtain ⟨S1, q1, q2, q3⟩ := w_copy_ok (W := 337) (V := 1) (Or.inr (Or.inr (Or.inl rfl))) (Or.inl rfl) (by decide) a1 a4.1
  have off : ∀ b, (b < 337 ∨ 505 ≤ b) → S1 b = S b := fun b hb => q3.1 b fun q => by have := q.1; have := q.2; omega
  unfold fx_image
  rw [q1, obs, obs, up2_off (by decide), q2.1]
  refine ⟨_, rfl, a1.congr a4.1.1 fun b q => ?_, ⟨up2_self, q2.congr a4.1.1 fun b q => up2_off (by have := q.1; omega)⟩, fun j hj => ?_, a4, fun k hk => ?_⟩
  · have n1 := q.1
    have n2 := q.2
    rw [up2_off (by omega), off b (by omega)]
  · rw [up2_off (by omega), off _ (by omega)]
    exact a3 j hj
  · rw [← Option.some.inj hk]
    exact a4
theorem xb_loop {k : Wst} : ∀ (m n i : Nat) (S : Mem), i + m = 6 → m < n → (∀ h, h < 6 → S (679 + 3 * h) 1 = 0) → S 1 4 = Int32.ofNat (wN k) → fx_back_23 n (Int32.ofNat i) S = some (Int32.ofNat (wN k), S)
  | _, 0, _, _, _, h, _, _ => absurd h (Nat.not_lt_zero _)
  | 0, n + 1, i, S, h, _, hz, h4 => by
    have e : i = 6 := by omega
    subst e
    show fx_back_23b (fx_back_23 n) (Int32.ofNat 6) S = _
    unfold fx_back_23b
    rw [if_pos (by decide), h4]
  | m + 1, n + 1, i, S, h, hn, hz, h4 => by
    show fx_back_23b (fx_back_23 n) (Int32.ofNat i) S = _
    unfold fx_back_23b
    rw [if_neg (fun q => by rw [show (6 : Int32) = Int32.ofNat 6 from rfl, n_le (by decide) (by omega)] at q; omega), ix_n (by omega) (by decide), obs, hz i (by omega), if_neg (show ¬ (0 : Int32) = 1 by decide), n_succ]
    exact xb_loop m n (i + 1) S (by omega) (by omega) hz h4
theorem xc_back (h : RX S w ik) : ∃ r S1, fx_back S = some (r, S1) ∧ ((ik = none ∧ RX S1 w ik) ∨ ∃ k, ik = some k ∧ r = Int32.ofNat (wN k) ∧ RX S1 k ik) := by
  obtain ⟨a1, a2, a3, a4, a5⟩ := h
  cases ik with
  | none =>
    have e1 : S 0 6 = 0 := a2
    unfold fx_back
    rw [e1, if_pos rfl]
    exact ⟨_, S, rfl, Or.inl ⟨rfl, a1, a2, a3, a4, a5⟩⟩
  | some k =>
    obtain ⟨e1, r1⟩ := a2
    have hk := a5 k rfl
    obtain ⟨S1, q1, q2, q3⟩ := w_copy_ok (W := 1) (V := 337) (Or.inl rfl) (Or.inr (Or.inr (Or.inl rfl))) (by decide) r1 hk.1
    have off : ∀ b, (b < 1 ∨ 169 ≤ b) → S1 b = S b := fun b hb => q3.1 b fun q => by have := q.1; have := q.2; omega
    have hz : ∀ h, h < 6 → S1 (679 + 3 * h) 1 = 0 := fun j hj => by
      rw [off _ (by omega)]
      exact a3 j hj
    have hb := xb_loop (k := k) 6 LF 0 S1 (by decide) (by decide) hz q2.1
    unfold fx_back
    rw [e1, if_neg n10, q1, obs]
    refine ⟨_, S1, hb, Or.inr ⟨k, rfl, rfl, q2, ⟨by rw [off 0 (by omega)]; exact e1, r1.congr hk.1.1 fun b q => off b (by have := q.1; omega)⟩, hz, hk, a5⟩⟩
/-! looks -/
theorem xc_counted_no (h : RX S w ik) : fx_counted (Int32.ofNat (wN w)) S = some (-2000000000) := by
  have h12 := h.2.2.2.1.1.1
  unfold fx_counted
  rw [w_isActor_any h.1 h.2.2.2.1.1 (by omega), if_neg (Nat.lt_irrefl _), obs, if_pos rfl]
theorem xc_ended (h : RX S w ik) : fx_ended S = some (wI w 10) := by
  unfold fx_ended
  rw [h.1.2.1 10 (by decide) (by decide)]
def tmOf (w : Wst) (a : Nat) : Nat := ((wT w).filter fun q => q.1 == Int32.ofNat a).length
def ntOf (w : Wst) (a : Nat) : Nat := ((aNot (wA w a)).filter fun q => !decide (q < wI w 6 - aI (wA w a) 4)).length
theorem xc_of (h : RX S w ik) {a : Nat} (ha : a < wN w) : fx_of (Int32.ofNat a) 0 S = some (if aI (wA w a) 0 = -1 then -2 else aI (wA w a) 0) ∧ fx_of (Int32.ofNat a) 3 S = some (aI (wA w a) 3) ∧ fx_of (Int32.ofNat a) 5 S = some (if sLive w a = true then 1 else 0) ∧ fx_of (Int32.ofNat a) 7 S = some (Int32.ofNat (aStk (wA w a)).length) ∧ fx_of (Int32.ofNat a) 8 S = some (Int32.ofNat (aMail (wA w a)).length) ∧ fx_of (Int32.ofNat a) 9 S = some (Int32.ofNat (aStash (wA w a)).length) ∧ fx_of (Int32.ofNat a) 10 S = some (Int32.ofNat (aWat (wA w a)).length) ∧ fx_of (Int32.ofNat a) 11 S = some (Int32.ofNat (tmOf w a)) ∧ fx_of (Int32.ofNat a) 12 S = some (Int32.ofNat (ntOf w a)) := by
  have hI := h.2.2.2.1.1
  have h12 := hI.1
  have ha12 : a < 12 := by omega
  have hA := h.1.2.2.1 a ha
  have hx := hI.fit ha
  obtain ⟨l1, l2, l3, l4, l5, l6, l7⟩ := lnA (Or.inl rfl : IsW 1) ha12
  have x11 : fc_countOf 3 (Int32.ofNat a) S = some (Int32.ofNat (tmOf w a)) := c_count_ok (Int32.ofNat a) (lnW (Or.inl rfl : IsW 1)).1 h.1.2.2.2.1 hI.2.2.1.1
  have x12 : fn_countFrom (1 + 12 + 13 * a + 11) (wI w 6 - aI (wA w a) 4) S = some (Int32.ofNat (ntOf w a)) := n_count_ok _ hA.2.2.2.2.2 (by rw [l7]; exact hx.2.2.2.2) (by rw [l7]; decide)
  have e1 := w_isActor_ok h.1 h12 ha
  have hx : ∀ v : Int32, fx_of (Int32.ofNat a) v S = (if v = 0 then (if aI (wA w a) 0 = -1 then some (-2) else some (aI (wA w a) 0)) else if v = 1 then some (aI (wA w a) 1) else if v = 2 then some (aI (wA w a) 2) else if v = 3 then some (aI (wA w a) 3) else if v = 4 then some (aI (wA w a) 4) else if v = 5 then (if aI (wA w a) 6 = 0 then some 0 else some 1) else if v = 6 then ((fn_at (1 + 12 + 13 * a + 1) ((S (1 + 12 + 13 * a + 1) 1) - 1) S).bind fun x2 => some x2) else if v = 7 then some (Int32.ofNat (aStk (wA w a)).length) else if v = 8 then some (Int32.ofNat (aMail (wA w a)).length) else if v = 9 then some (Int32.ofNat (aStash (wA w a)).length) else if v = 10 then some (Int32.ofNat (aWat (wA w a)).length) else if v = 11 then some (Int32.ofNat (tmOf w a)) else if v = 12 then some (Int32.ofNat (ntOf w a)) else if v = 13 then ((fw_childBits 1 (Int32.ofNat a) S).bind fun x5 => some x5) else some (-1)) := fun v => by
    unfold fx_of
    rw [e1, obs, if_neg n10, ix_n ha12 (by decide), obs, x11, obs, h.1.2.1 6 (by decide) (by decide), hA.1 4 (by decide), x12, obs, hA.1 0 (by decide), hA.1 1 (by decide), hA.1 2 (by decide), hA.1 3 (by decide), hA.1 6 (by decide), hA.2.2.1.1, hA.2.2.2.1.1, hA.2.2.2.2.1.1, hA.2.1.1]
  have hl : (if aI (wA w a) 6 = 0 then some (0 : Int32) else some 1) = some (if sLive w a = true then 1 else 0) := by
    rcases hI.b ha with q | q
    · rw [if_pos q, if_neg (fun g => by rw [(sLive_lt g).2] at q; exact absurd q (by decide))]
    · rw [if_neg (by rw [q]; decide), if_pos (sLive_of ha q)]
  have hp : (if aI (wA w a) 0 = -1 then some (-2 : Int32) else some (aI (wA w a) 0)) = some (if aI (wA w a) 0 = -1 then -2 else aI (wA w a) 0) := by
    split <;> rfl
  refine ⟨(hx 0).trans hp, hx 3, (hx 5).trans hl, hx 7, hx 8, hx 9, hx 10, hx 11, hx 12⟩
theorem xc_watcher (h : RX S w ik) {a i : Nat} {q : Int32} (ha : a < wN w) (hq : (aWat (wA w a))[i]? = some q) : fx_watcher (Int32.ofNat a) (Int32.ofNat i) S = some q := by
  have hI := h.2.2.2.1.1
  have h12 := hI.1
  have hA := h.1.2.2.1 a ha
  obtain ⟨l1, l2, l3, l4, l5, l6, l7⟩ := lnA (Or.inl rfl : IsW 1) (show a < 12 by omega)
  have hlen := (hI.fit ha).2.2.2.1
  have hi := (List.getElem?_eq_some_iff.mp hq).1
  unfold fx_watcher fx_itemOf
  rw [w_isActor_ok h.1 h12 ha, obs, if_neg n10, ix_n (by omega) (by decide), obs, if_pos (nn0 (by omega)), hA.2.2.2.2.1.1, if_neg (fun g => by rw [n_le (by omega) (by omega)] at g; omega), n_at_ok hA.2.2.2.2.1 hq (by rw [l6]; exact hlen) (by rw [l6]; decide), obs, obs]
theorem xc_timer (h : RX S w ik) {i : Nat} {t : Tmr} (ht : (wT w)[i]? = some t) : fx_timer (Int32.ofNat i) 1 S = some t.2.1 := by
  have hI := h.2.2.2.1.1
  have hlen := hI.2.2.1.1
  have hi := (List.getElem?_eq_some_iff.mp ht).1
  have hRT : RT S 3 (wT w) := h.1.2.2.2.1
  have q3 : fc_dueAt 3 (Int32.ofNat i) S = some t.2.1 := c_due_ok (lnW (Or.inl rfl : IsW 1)).1 hRT ht hlen
  unfold fx_timer
  rw [if_neg (n_neg (by omega)), if_neg (by decide), if_pos (by decide), hRT.1, if_pos ((n_lt (by omega) (by omega)).mpr hi), if_neg (by decide), if_pos rfl, q3, obs]
set_option maxRecDepth 100000 in
theorem bc_step : ∀ c, c < 12 → ∀ m, m < 2 ^ c → (Int32.ofNat m ||| (1 <<< (Int32.ofNat c &&& 31))) = Int32.ofNat (m + 2 ^ c) ∧ fj_bitCount (Int32.ofNat (m + 2 ^ c)) M0 = (fj_bitCount (Int32.ofNat m) M0).map (· + 1) := by decide +kernel
theorem bc_cnt (p : Nat → Bool) : ∀ (k c m t : Nat), m < 2 ^ c → c + k ≤ 12 → fj_bitCount (Int32.ofNat m) M0 = some (Int32.ofNat t) → ∃ m', sBits p k c (Int32.ofNat m) = Int32.ofNat m' ∧ m' < 2 ^ (c + k) ∧ fj_bitCount (Int32.ofNat m') M0 = some (Int32.ofNat (t + cnt p k c))
  | 0, c, m, t, hm, _, ht => ⟨m, rfl, hm, ht⟩
  | k + 1, c, m, t, hm, hc, ht => by
    show ∃ m', sBits p k (c + 1) (if p c = true then Int32.ofNat m ||| (1 <<< (Int32.ofNat c &&& 31)) else Int32.ofNat m ||| 0) = Int32.ofNat m' ∧ m' < 2 ^ (c + (k + 1)) ∧ fj_bitCount (Int32.ofNat m') M0 = some (Int32.ofNat (t + ((if p c = true then 1 else 0) + cnt p k (c + 1))))
    have h2 : 2 ^ (c + 1) = 2 ^ c + 2 ^ c := by rw [Nat.pow_succ]; omega
    by_cases e : p c = true
    · obtain ⟨b1, b2⟩ := bc_step c (by omega) m hm
      obtain ⟨m', q1, q2, q3⟩ := bc_cnt p k (c + 1) (m + 2 ^ c) (t + 1) (by omega) (by omega) (by rw [b2, ht, ← n_succ]; rfl)
      rw [if_pos e, if_pos e, b1]
      exact ⟨m', q1, by rw [show c + (k + 1) = c + 1 + k by omega]; exact q2, by rw [← Nat.add_assoc]; exact q3⟩
    · obtain ⟨m', q1, q2, q3⟩ := bc_cnt p k (c + 1) m t (by omega) (by omega) ht
      rw [if_neg e, if_neg e, Int32.or_zero, Nat.zero_add]
      exact ⟨m', q1, by rw [show c + (k + 1) = c + 1 + k by omega]; exact q2, q3⟩
theorem bc_live {w : Wst} (h12 : wN w ≤ 12) (S1 : Mem) : fj_bitCount (sBits (sLive w) (wN w) 0 0) S1 = some (Int32.ofNat (cnt (sLive w) (wN w) 0)) := by
  obtain ⟨m, h1, h2, h3⟩ := bc_cnt (sLive w) (wN w) 0 0 0 (by decide) (by omega) (by decide +kernel)
  rw [Nat.zero_add] at h3
  rw [count_M, show (0 : Int32) = Int32.ofNat 0 from rfl, h1, h3]
theorem xc_count (h : RX S w ik) : fx_count 0 S = some (Int32.ofNat (wN w)) ∧ fx_count 1 S = some (Int32.ofNat (cnt (sLive w) (wN w) 0)) ∧ fx_count 2 S = some (sMail w (wN w) 0 0) ∧ fx_count 3 S = some (Int32.ofNat (wT w).length) ∧ fx_count 4 S = some (wI w 8) ∧ fx_count 5 S = some (wI w 7) ∧ fx_count 6 S = some (wI w 6) ∧ fx_count 8 S = some (Int32.ofNat (wL w).length) := by
  have hI := h.2.2.2.1.1
  have h12 := hI.1
  have hx : fw_liveBits 1 S = some (sBits (sLive w) (wN w) 0 0) := w_liveBits_ok h.1 hI
  have hz : fw_mailed 1 S = some (sMail w (wN w) 0 0) := w_mailed_loop h.1 hI (wN w) LF 0 0 (Nat.zero_add _) (by show _ < 3000; omega)
  have r3 : S 3 3 = Int32.ofNat (wT w).length := h.1.2.2.2.1.1
  have r7 : S 7 2 = Int32.ofNat (wL w).length := h.1.2.2.2.2.1.1
  have key : ∀ v : Int32, fx_count v S = (if v = 0 then (some (Int32.ofNat (wN w))) else (if v = 1 then (some (Int32.ofNat (cnt (sLive w) (wN w) 0))) else (if v = 2 then (some (sMail w (wN w) 0 0)) else (if v = 3 then (some (Int32.ofNat (wT w).length)) else (if v = 4 then (some (wI w 8)) else (if v = 5 then (some (wI w 7)) else (if v = 6 then (some (wI w 6)) else (if v = 7 then (some (S 10 2)) else (if v = 8 then (some (Int32.ofNat (wL w).length)) else (if v = 9 then (some (S 674 1)) else (some ((-1)))))))))))))  := fun v => by
    unfold fx_count
    rw [hx, obs, bc_live h12, obs, hz, obs, h.1.1, r3, r7, h.1.2.1 8 (by decide) (by decide), h.1.2.1 7 (by decide) (by decide), h.1.2.1 6 (by decide) (by decide)]
  exact ⟨key 0, key 1, key 2, key 3, key 4, key 5, key 6, key 8⟩
theorem xc_dry (h : RX S w ik) : (∃ S1, fx_dry 50 0 S = some (Int32.ofNat (sRun w 50).2, S1) ∧ RX S1 w ik) ∧ (∃ S1, fx_dry 50 1 S = some (wI (sRun w 50).1 10, S1) ∧ RX S1 w ik) ∧ (∃ S1, fx_dry 50 2 S = some (sBits (sLive (sRun w 50).1) (wN (sRun w 50).1) 0 0, S1) ∧ RX S1 w ik) ∧ ∃ S1, fx_dry 50 3 S = some (wI (sRun w 50).1 8, S1) ∧ RX S1 w ik := by
  have hg := h.2.2.2.1
  obtain ⟨S1, q1, q2, q3⟩ := w_copy_ok (W := 169) (V := 1) (Or.inr (Or.inl rfl)) (Or.inl rfl) (by decide) h.1 hg.1
  obtain ⟨S2, p1, p2, p3⟩ := w_run_ok (k := 50) (Or.inr (Or.inl rfl) : IsW 169) q2 hg (by decide)
  have hO : RX S2 w ik := h.think (q3.1.trans p3)
  have hgr := run_good (k := 50) hg
  have hst : fx_isSteps 50 S = some 1 := xst_ok (k := 50) (by decide) (by decide) S
  have key : ∀ v : Int32, fx_dry_34 50 v 1 S = (if v = 0 then some (Int32.ofNat (sRun w 50).2, S2) else if v = 1 then some (wI (sRun w 50).1 10, S2) else if v = 2 then some (sBits (sLive (sRun w 50).1) (wN (sRun w 50).1) 0 0, S2) else if v = 3 then some (wI (sRun w 50).1 8, S2) else if v = 4 then (some (S2 169 7, S2)) else (if v = 5 then (some (S2 169 6, S2)) else ((fw_isActor 169 (v - 10) S2).bind fun x4 => if x4 = 0 then (some ((-2000000000), S2)) else ((ix (v - 10) 12).bind fun i1 => some (S2 (169 + 12 + 13 * i1) 5, S2))))) := fun v => by
    unfold fx_dry_34
    rw [hst, obs, if_neg n10, if_neg n10, q1, obs, show fw_makeSteps 169 50 S1 = _ from p1, bd_some, w_liveBits_ok p2 hgr.1, obs, p2.2.1 10 (by decide) (by decide), p2.2.1 8 (by decide) (by decide)]
  have dry : ∀ v : Int32, ¬ v < 0 → v ≤ 5 → fx_dry 50 v S = fx_dry_34 50 v 1 S := fun v h1 h2 => by
    unfold fx_dry
    rw [if_neg h1, if_pos h2]
  exact ⟨⟨S2, (dry 0 (by decide) (by decide)).trans (key 0), hO⟩, ⟨S2, (dry 1 (by decide) (by decide)).trans (key 1), hO⟩, ⟨S2, (dry 2 (by decide) (by decide)).trans (key 2), hO⟩, ⟨S2, (dry 3 (by decide) (by decide)).trans (key 3), hO⟩⟩
theorem xc_quiet (h : RX S w ik) : ∃ S1, fx_quiet S = some (sQui 200 0 w, S1) ∧ RX S1 w ik := by
  have hg := h.2.2.2.1
  obtain ⟨S1, q1, q2, q3⟩ := w_copy_ok (W := 169) (V := 1) (Or.inr (Or.inl rfl)) (Or.inl rfl) (by decide) h.1 hg.1
  obtain ⟨S2, p1, p2⟩ := x_quiet_loop 200 LF 0 w S1 (by decide) (by decide) hg q2
  unfold fx_quiet
  rw [q1, obs]
  exact ⟨S2, p1, h.think (q3.1.trans p2)⟩
end
