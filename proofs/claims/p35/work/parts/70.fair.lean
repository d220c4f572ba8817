/-! 70: what is stopped has nothing, watchers are live, times within bounds -/
def FW (w : Wst) : Prop := (∀ b, b < wN w → ¬ sLive w b = true → aStash (wA w b) = [] ∧ aWat (wA w b) = [] ∧ (aStk (wA w b)).length = 1) ∧ ∀ b, b < wN w → ∀ q ∈ aWat (wA w b), sLive w (nu q) = true
def FT (T : Nat) (w : Wst) : Prop := ∃ t, t ≤ T ∧ wI w 6 = Int32.ofNat t ∧ ∀ x ∈ wT w, ∃ d, t ≤ d ∧ d ≤ T ∧ x.2.1 = Int32.ofNat d
def FA (T : Nat) (w : Wst) : Prop := FW w ∧ FT T w
theorem FT.mono {T U : Nat} {w : Wst} (h : FT T w) (hu : T ≤ U) : FT U w := by
  obtain ⟨t, h1, h2, h3⟩ := h
  refine ⟨t, by omega, h2, fun x hx => ?_⟩
  obtain ⟨d, d1, d2, d3⟩ := h3 x hx
  exact ⟨d, d1, by omega, d3⟩
theorem FA.mono {T U : Nat} {w : Wst} (h : FA T w) (hu : T ≤ U) : FA U w := ⟨h.1, h.2.mono hu⟩
theorem FT.of {T : Nat} {w w1 : Wst} (h : FT T w) (h6 : wI w1 6 = wI w 6) (ht : ∀ x ∈ wT w1, x ∈ wT w) : FT T w1 := by
  obtain ⟨t, h1, h2, h3⟩ := h
  exact ⟨t, h1, h6.trans h2, fun x hx => h3 x (ht x hx)⟩
/-- rows that shrink, who is live as it was -/
theorem FW.of {w w1 : Wst} (h : FW w) (hn : wN w1 = wN w) (hl : ∀ b, sLive w1 b = sLive w b) (ha : ∀ b, b < wN w → ¬ sLive w b = true → aStash (wA w1 b) = aStash (wA w b) ∧ (∀ q ∈ aWat (wA w1 b), q ∈ aWat (wA w b)) ∧ aStk (wA w1 b) = aStk (wA w b)) (hw : ∀ b, b < wN w → ∀ q ∈ aWat (wA w1 b), sLive w (nu q) = true) : FW w1 := by
  obtain ⟨h1, h2⟩ := h
  refine ⟨fun b hb hnl => ?_, fun b hb q hq => ?_⟩
  · rw [hn] at hb
    rw [hl] at hnl
    obtain ⟨a1, a2, a3⟩ := ha b hb hnl
    obtain ⟨c1, c2, c3⟩ := h1 b hb hnl
    refine ⟨a1.trans c1, ?_, by rw [a3]; exact c3⟩
    rw [c2] at a2
    exact List.eq_nil_iff_forall_not_mem.mpr fun q hq => absurd (a2 q hq) List.not_mem_nil
  · rw [hn] at hb
    rw [hl]
    exact hw b hb q hq
theorem FW.kp {w w1 : Wst} (h : FW w) (k : Kp w w1) : FW w1 := h.of k.1 k.live (fun b _ _ => ⟨(k.2.1 b).2.2.1, fun q hq => by rw [(k.2.1 b).2.2.2.1] at hq; exact hq, (k.2.1 b).2.1⟩) fun b hb q hq => h.2 b hb q (by rw [(k.2.1 b).2.2.2.1] at hq; exact hq)
theorem FA.kp {T : Nat} {w w1 : Wst} (h : FA T w) (k : Kp w w1) : FA T w1 := ⟨h.1.kp k, h.2.of (k.2.2.2.2.2 6 (by decide)) fun x hx => by rw [k.2.2.1] at hx; exact hx⟩
/-- one that is live changes -/
theorem FW.act {w : Wst} {a : Nat} {x : Act} (h : FW w) (hl : sLive w a = true) (h6 : aI x 6 = aI (wA w a) 6) (hw : ∀ q ∈ aWat x, sLive w (nu q) = true) : FW (wSA w a x) := by
  refine h.of rfl (wSA_live h6) (fun b _ hnl => ?_) fun b hb q hq => ?_
  · have e : b ≠ a := fun e => hnl (by rw [e]; exact hl)
    rw [wSA_off e]
    exact ⟨rfl, fun q hq => hq, rfl⟩
  · by_cases e : b = a
    · rw [e, wSA_self] at hq
      exact hw q hq
    · rw [wSA_off e] at hq
      exact h.2 b hb q hq
theorem FA.act {T : Nat} {w : Wst} {a : Nat} {x : Act} (h : FA T w) (hl : sLive w a = true) (h6 : aI x 6 = aI (wA w a) 6) (hw : aWat x = aWat (wA w a)) : FA T (wSA w a x) := ⟨h.1.act hl h6 fun q hq => h.1.2 a (sLive_lt hl).1 q (by rw [← hw]; exact hq), h.2.of rfl fun _ hx => hx⟩
theorem FA.int {T k : Nat} {w : Wst} {v : Int32} (h : FA T w) (hk : k ≠ 6) : FA T (wSI w k v) := ⟨h.1.of rfl (fun _ => rfl) (fun _ _ _ => ⟨rfl, fun _ hq => hq, rfl⟩) fun b hb q hq => h.1.2 b hb q hq, h.2.of (by
  show upd (wI w) k v 6 = _
  unfold upd
  rw [if_neg (Ne.symm hk)]) fun _ hx => hx⟩
theorem FA.log {T : Nat} {w : Wst} {l : List Msg} (h : FA T w) : FA T (wSL w l) := ⟨h.1.of rfl (fun _ => rfl) (fun _ _ _ => ⟨rfl, fun _ hq => hq, rfl⟩) fun b hb q hq => h.1.2 b hb q hq, h.2.of rfl fun _ hx => hx⟩
theorem FA.cau {T : Nat} {w : Wst} {l : List Msg} (h : FA T w) : FA T (wSC w l) := ⟨h.1.of rfl (fun _ => rfl) (fun _ _ _ => ⟨rfl, fun _ hq => hq, rfl⟩) fun b hb q hq => h.1.2 b hb q hq, h.2.of rfl fun _ hx => hx⟩
theorem fair_back {T : Nat} {w : Wst} {a : Nat} (h : FA T w) (hl : sLive w a = true) : FA T (sBack w a) := (h.act (x := aSStash (aSMail (wA w a) ((aStash (wA w a)).take (min (aStash (wA w a)).length (12 - (aMail (wA w a)).length)) ++ aMail (wA w a))) []) hl rfl rfl).int (by decide)
theorem fair_forget {T : Nat} {w : Wst} {a : Nat} (h : FA T w) (hl : sLive w a = true) : FA T (sForget w a) := by
  have h1 := h.act (x := aKeep (wA w a)) hl rfl rfl
  refine ⟨h1.1.of rfl (fun _ => rfl) (fun _ _ _ => ⟨rfl, fun _ hq => hq, rfl⟩) fun b hb q hq => h1.1.2 b hb q hq, h1.2.of rfl fun x hx => ?_⟩
  exact (List.mem_filter.mp hx).1
/-! one stops -/
theorem s1_own (w : Wst) (a : Nat) (ha : a < wN w) : aStash (wA (sStop1 w a) a) = [] ∧ aWat (wA (sStop1 w a) a) = [] ∧ (aStk (wA (sStop1 w a) a)).length = 1 := by
  have hk := (s1_pre w a).2.1 a
  have e1 : wA (sStop1 w a) a = aSWat (wA (sTell (sUnwatch (sForget (wSA w a (aSStash (aSMail (aSI (wA w a) 6 0) []) [])) a) a) a (aWat (s1_act w a a))) a) [] := xup_s
  have e2 : s1_act w a a = aSWat (aKeep (aSStash (aSMail (aSI (wA w a) 6 0) []) [])) ((aWat (wA w a)).filter fun q => !(q == Int32.ofNat a)) := by
    unfold s1_act sUnwatch sForget wSA wST wSF
    show (if a < wN w then _ else _) = _
    rw [if_pos ha]
    show aSWat (xup (xup (wA w) a _) a (aKeep (xup (wA w) a _ a)) a) ((aWat (xup (xup (wA w) a _) a (aKeep (xup (wA w) a _ a)) a)).filter _) = _
    rw [xup_s, xup_s]
    rfl
  have hs : aStash (s1_act w a a) = [] := by rw [e2]; rfl
  have ht : (aStk (s1_act w a a)).length = 1 := by rw [e2]; rfl
  rw [e1]
  refine ⟨?_, rfl, ?_⟩
  · exact hk.2.2.1.trans hs
  · exact (congrArg List.length hk.2.1).trans ht
theorem s1_oth (w : Wst) (a b : Nat) (hb : b < wN w) (e : b ≠ a) : aStash (wA (sStop1 w a) b) = aStash (wA w b) ∧ aWat (wA (sStop1 w a) b) = ((aWat (wA w b)).filter fun q => !(q == Int32.ofNat a)) ∧ aStk (wA (sStop1 w a) b) = aStk (wA w b) := by
  have hk := (s1_pre w a).2.1 b
  have e2 : s1_act w a b = aSWat (wA w b) ((aWat (wA w b)).filter fun q => !(q == Int32.ofNat a)) := by
    unfold s1_act sUnwatch sForget wSA wST wSF
    show (if b < wN w then _ else _) = _
    rw [if_pos hb]
    show aSWat (xup (xup (wA w) a _) a (aKeep (xup (wA w) a _ a)) b) ((aWat (xup (xup (wA w) a _) a (aKeep (xup (wA w) a _ a)) b)).filter _) = _
    rw [xup_n e, xup_n e]
  have h1 : aStash (s1_act w a b) = aStash (wA w b) := by rw [e2]; rfl
  have h2 : aWat (s1_act w a b) = ((aWat (wA w b)).filter fun q => !(q == Int32.ofNat a)) := by rw [e2]; rfl
  have h3 : aStk (s1_act w a b) = aStk (wA w b) := by rw [e2]; rfl
  rw [s1_wA w a b e]
  exact ⟨hk.2.2.1.trans h1, hk.2.2.2.1.trans h2, hk.2.1.trans h3⟩
theorem s1_6 (w : Wst) (a : Nat) : wI (sStop1 w a) 6 = wI w 6 := (s1_pre w a).2.2.2.2.2 6 (by decide)
theorem fair_s1 {T : Nat} {w : Wst} {a : Nat} (hI : Inv w) (h : FA T w) (ha : a < wN w) : FA T (sStop1 w a) := by
  have h12 := hI.1
  obtain ⟨⟨h1, h2⟩, h3⟩ := h
  refine ⟨⟨fun b hb hnl => ?_, fun b hb q hq => ?_⟩, h3.of (s1_6 w a) fun x hx => ?_⟩
  · rw [s1_n] at hb
    by_cases e : b = a
    · rw [e]
      exact s1_own w a ha
    · obtain ⟨a1, a2, a3⟩ := s1_oth w a b hb e
      rw [s1_live] at hnl
      have hnl2 : ¬ sLive w b = true := fun g => hnl (by rw [g]; simp [e])
      obtain ⟨c1, c2, c3⟩ := h1 b hb hnl2
      rw [a1, a2, a3, c1, c2]
      exact ⟨rfl, rfl, c3⟩
  · rw [s1_n] at hb
    by_cases e : b = a
    · rw [e, (s1_own w a ha).2.1] at hq
      exact absurd hq List.not_mem_nil
    · rw [(s1_oth w a b hb e).2.1, List.mem_filter] at hq
      obtain ⟨o1, o2⟩ := okN_nn ((hI.wat hb).2 q hq.1) (by omega)
      have hne : nu q ≠ a := fun e2 => by
        have := hq.2
        rw [o2, e2] at this
        simp at this
      rw [s1_live, h2 b hb q hq.1]
      simp [hne]
  · rw [s1_tim] at hx
    exact (List.mem_filter.mp hx).1
theorem fair_kids {T a : Nat} {f : Wst → Nat → Wst} (hf : StopOK f (a + 1)) (hF : ∀ (w : Wst) (c : Nat), a < c → c < wN w → Inv w → Tree w → sLive w c = true → FA T w → FA T (f w c)) : ∀ (c : Nat) (w : Wst), c ≤ wN w → Inv w → Tree w → FA T w → FA T (sKids f a c w)
  | 0, _, _, _, _, h => h
  | c + 1, w, hc, hI, hT, h => by
    show FA T (sKids f a c (if a < c ∧ sLC w c a = true then f w c else w))
    by_cases e : a < c ∧ sLC w c a = true
    · rw [if_pos e]
      obtain ⟨p1, p2, p3, -, -⟩ := hf w c (by omega) (by omega) hI hT (sLC_of e.2).1
      exact fair_kids hf hF c (f w c) (by rw [p3.1]; omega) p1 p2 (hF w c e.1 (by omega) hI hT (sLC_of e.2).1 h)
    · rw [if_neg e]
      exact fair_kids hf hF c w (by omega) hI hT h
theorem fair_stop {T : Nat} : ∀ (n lo : Nat), 12 ≤ n + lo → ∀ (w : Wst) (a : Nat), lo ≤ a → a < wN w → Inv w → Tree w → sLive w a = true → FA T w → FA T (sStop n w a)
  | 0, lo, h, w, a, h1, h2, hI, _, _, _ => by
    have := hI.1
    omega
  | n + 1, lo, h, w, a, h1, h2, hI, hT, hl, hF => by
    have hk := kids_ok (stop_ok n (a + 1) (by omega)) (wN w) w (Nat.le_refl _) hI hT
    have hk2 := fair_kids (T := T) (stop_ok n (a + 1) (by omega)) (fun w c g1 g2 g3 g4 g5 g6 => fair_stop n (a + 1) (by omega) w c (by omega) g2 g3 g4 g5 g6) (wN w) w (Nat.le_refl _) hI hT hF
    show FA T (sStop1 (sKids (sStop n) a (wN w) w) a)
    exact fair_s1 hk.1 hk2 (by rw [hk.2.2.1.1]; exact h2)
theorem fair_halt {T : Nat} {w : Wst} {a : Nat} (hg : Good w) (hl : sLive w a = true) (h : FA T w) : FA T (sStop 12 w a) := fair_stop 12 0 (by omega) w a (Nat.zero_le _) (sLive_lt hl).1 hg.1 hg.2.1 hl h
theorem fair_restart {T : Nat} {w : Wst} {a : Nat} (hT : IT w) (hl : sLive w a = true) (h : FA T w) : FA T (sRestart w a) := by
  have ha := (sLive_lt hl).1
  obtain ⟨k1, k2, -⟩ := rs_kids hT hl
  have h1 : FA T (rsW w a) := fair_kids (stop_ok 12 (a + 1) (by omega)) (fun w c g1 g2 g3 g4 g5 g6 => fair_stop 12 (a + 1) (by omega) w c (by omega) g2 g3 g4 g5 g6) (wN w) w (Nat.le_refl _) hT.1 hT.2 h
  have h2 : FA T (wSA (rsW w a) a (aSI (wA (rsW w a) a) 5 0)) := h1.act k2 rfl rfl
  have l2 : sLive (wSA (rsW w a) a (aSI (wA (rsW w a) a) 5 0)) a = true := (wSA_live (w := rsW w a) (a := a) (x := aSI (wA (rsW w a) a) 5 0) rfl a).trans k2
  have h3 := fair_forget h2 l2
  rw [rs_eq]
  exact fair_back h3 (by rw [forget_live]; exact l2)
theorem fair_rests {T t : Nat} : ∀ (k c : Nat) (w : Wst) (q : Int32), IT w → FA T w → FA T (sRests t k c w q).1
  | 0, _, _, _, _, h => h
  | k + 1, c, w, q, hT, h => by
    have hs : sRests t (k + 1) c w q = if sWith w t c = true then sRests t k (c + 1) (sRestart w c) (q ||| (1 <<< (Int32.ofNat c &&& 31))) else sRests t k (c + 1) w q := rfl
    rw [hs]
    by_cases e : sWith w t c = true
    · rw [if_pos e]
      have hcl := (sLC_of (with_lc e)).1
      exact fair_rests k (c + 1) _ _ (restart_it hT hcl).1 (fair_restart hT hcl h)
    · rw [if_neg e]
      exact fair_rests k (c + 1) w q hT h
theorem fair_note {T : Nat} {w : Wst} {p : Nat} (h : FA T w) : FA T (sNote w p) := by
  have hx : ∀ b, aStash (wA (sNote w p) b) = aStash (wA w b) ∧ aWat (wA (sNote w p) b) = aWat (wA w b) ∧ aStk (wA (sNote w p) b) = aStk (wA w b) := fun b => by
    by_cases e : b = p
    · rw [e, note_self]
      exact ⟨rfl, rfl, rfl⟩
    · rw [note_off e]
      exact ⟨rfl, rfl, rfl⟩
  exact ⟨h.1.of rfl (note_live w p) (fun b _ _ => ⟨(hx b).1, fun q hq => by rw [(hx b).2.1] at hq; exact hq, (hx b).2.2⟩) fun b hb q hq => h.1.2 b hb q (by rw [(hx b).2.1] at hq; exact hq), h.2.of rfl fun _ hx => hx⟩
theorem fair_climb {T : Nat} : ∀ (m : Nat) (w : Wst) (l : List Msg) (t : Nat), FA T w → FA T (sClimb m w l t).1
  | 0, _, _, _, h => h
  | m + 1, w, l, t, h => by
    have hs : sClimb (m + 1) w l t = if t = 0 then (w, l, t) else if sOver w (par w t) = true then sClimb m (sNote w (par w t)) (l ++ [(Int32.ofNat (par w t), 9)]) (par w t) else (sNote w (par w t), l, t) := rfl
    rw [hs]
    split
    · exact h
    split
    · exact fair_climb m _ _ _ (fair_note h)
    · exact fair_note h
theorem fair_fail {T : Nat} {w : Wst} {a : Nat} {why q : Int32} (h : Good w) (hl : sLive w a = true) (hF : FA T w) : FA T (sFail w a why q).1 := by
  have h12 := h.1.1
  have ha := (sLive_lt hl).1
  obtain ⟨g1, g2, g3, g4, g5, g6⟩ := climb_ok 12 a w [(Int32.ofNat a, why)] (by omega) hl ⟨h.1, h.2.1⟩ (h.2.2.x a) (by show 1 + a ≤ 12; omega) (fun m hm => by
    rw [List.mem_singleton.mp hm]
    exact okN_of (by omega))
  have hC := fair_climb 12 w [(Int32.ofNat a, why)] a hF
  unfold sFail
  generalize sClimb 12 w [(Int32.ofNat a, why)] a = r at *
  have hc := cau_it g1 g5 g6
  have hC2 : FA T (wSC r.1 r.2.1) := hC.cau
  show FA T (if r.2.2 = 0 then (sStop 12 (wSC r.1 r.2.1) 0, q) else sRests r.2.2 (wN (wSC r.1 r.2.1)) 0 (wSC r.1 r.2.1) q).1
  by_cases e : r.2.2 = 0
  · rw [if_pos e]
    rw [e] at g3
    exact fair_stop 12 0 (by omega) _ 0 (Nat.le_refl _) (sLive_lt g3).1 hc.1 hc.2 g3 hC2
  · rw [if_neg e]
    exact fair_rests _ _ _ _ hc hC2
/-! a message dealt with -/
theorem fair_watch {T : Nat} {w : Wst} {a : Nat} {n : Int32} (hl : sLive w a = true) (h12 : wN w ≤ 12) (h : FA T w) : FA T (sWatch w a n) := by
  unfold sWatch
  dsimp only
  split
  · exact h
  split
  · rename_i hlt
    split
    · exact h
    · have ha := (sLive_lt hl).1
      refine ⟨h.1.act hlt rfl fun q hq => ?_, h.2.of rfl fun _ hx => hx⟩
      have hq2 : q ∈ aWat (wA w (sNamed w n)) ++ [Int32.ofNat a] := hq
      rcases List.mem_append.mp hq2 with g | g
      · exact h.1.2 _ (sLive_lt hlt).1 q g
      · rw [List.mem_singleton.mp g, nu_n (by omega)]
        exact hl
  · exact h.kp (sSend_kp _ _ _)
theorem tIns_of {t q : Tmr} {l : List Tmr} (h : q ∈ tIns t l) : q = t ∨ q ∈ l := tIns_mem h
theorem fair_delay {T : Nat} {w : Wst} {a : Nat} {n : Int32} (hT : T < 2 ^ 30) (hn : okV n) (h : FA T w) : FA (T + 8) (sDelay w a n) := by
  unfold sDelay
  split
  · rename_i g
    obtain ⟨t, t1, t2, t3⟩ := h.2
    refine ⟨h.1.of rfl (fun _ => rfl) (fun _ _ _ => ⟨rfl, fun _ hq => hq, rfl⟩) fun b hb q hq => h.1.2 b hb q hq, t, by omega, t2, fun x hx => ?_⟩
    rcases tIns_of hx with e | e
    · have h0 : 0 ≤ n.toInt := by
        have := g.1
        rw [Int32.lt_iff_toInt_lt, z_int] at this
        omega
      obtain ⟨k, hk, ek⟩ := irm_n (v := n) (n := 8) h0 (by decide) (by decide)
      have ek2 : irm n 8 = Int32.ofNat k := ek
      refine ⟨t + 1 + k, by omega, by omega, ?_⟩
      rw [e]
      show wI w 6 + 1 + irm n 8 = _
      rw [t2, ek2, n_succ, n_add]
    · obtain ⟨d, d1, d2, d3⟩ := t3 x e
      exact ⟨d, d1, by omega, d3⟩
  · exact h.mono (by omega)
theorem fair_num {T : Nat} {w : Wst} {a : Nat} {f n d : Int32} (hT : T < 2 ^ 30) (hg : Good w) (hl : sLive w a = true) (hn : okV n) (h : FA T w) : FA (T + 8) (sNum w a f n d).1 := by
  have h8 : T ≤ T + 8 := by omega
  have h12 := hg.1.1
  unfold sNum
  dsimp only
  split
  · refine FA.mono ?_ h8
    exact FA.act h hl rfl rfl
  split
  · exact (h.kp (sPass_kp _ _ _ _ _ _)).mono h8
  split
  · dsimp only
    split
    · exact (h.kp (sSend_kp _ _ _)).mono h8
    · exact h.mono h8
  split
  · split
    · exact (fair_back h hl).mono h8
    · split
      · exact h.mono h8
      · refine FA.mono ?_ h8
        exact FA.act h hl rfl rfl
  split
  · split
    · refine FA.mono ?_ h8
      exact FA.act h hl rfl rfl
    · split
      · exact h.mono h8
      · refine FA.mono ?_ h8
        exact FA.act h hl rfl rfl
  split
  · split
    · exact h.mono h8
    · refine FA.mono ?_ h8
      exact FA.act h hl rfl rfl
  split
  · exact fair_delay hT hn h
  split
  · exact (h.kp (sPass_kp _ _ _ _ _ _)).mono h8
  split
  · exact (fair_watch hl h12 h).mono h8
  · exact (fair_halt hg hl h).mono h8
theorem fair_deal {T : Nat} {w : Wst} {a : Nat} {f b : Int32} (hT : T < 2 ^ 30) (hg : Good w) (hl : sLive w a = true) (hm : okBody b) (h : FA T w) : FA (T + 8) (sDeal w a f b).1 := by
  rcases hm with hv | ⟨k, hk, rfl⟩
  · rw [sDeal_num hv]
    exact fair_num hT hg hl hv h
  · have h8 : T ≤ T + 8 := by omega
    have hge : (200 : Int32) ≤ 200 + Int32.ofNat k := by
      rw [show (200 : Int32) = Int32.ofNat 200 from rfl, n_add, n_le (by decide) (by omega)]
      omega
    unfold sDeal
    dsimp only
    rw [if_pos hge]
    split
    · exact h.mono h8
    · refine FA.mono ?_ h8
      exact FA.act h hl rfl rfl
theorem fair_take {T : Nat} {w : Wst} {a : Nat} {m : Msg} (hl : sLive w a = true) (h : FA T w) : FA T (sTake w a m) := by
  have h1 := h.act (x := aSMail (wA w a) (aMail (wA w a)).tail) hl rfl rfl
  exact ((h1.int (k := 5) (v := Int32.ofNat a) (by decide)).int (k := 7) (v := wI w 7 + 1) (by decide)).log
theorem fair_step {T : Nat} {w : Wst} (hT : T < 2 ^ 30) (hg : Good w) (h : FA T w) : FA (T + 8) (sStep w 0).1 := by
  have hI := hg.1
  cases hd : sDealer w with
  | some a =>
    obtain ⟨hl, hm⟩ := dealer_some hd
    cases hml : aMail (wA w a) with
    | nil => rw [hml] at hm; exact absurd hm (by decide)
    | cons m l =>
      have ha := (sLive_lt hl).1
      have hb : okBody m.2 := ((hI.2.1 a ha).2.2.2.2.2.2.2.1.2 m (by rw [hml]; exact List.mem_cons_self)).2
      have hgT := take_good hg hl hml
      have hlT : sLive (sTake w a m) a = true := by rw [take_live]; exact hl
      have hF : FA (T + 8) (dealt w a m).1 := fair_deal hT hgT hlT hb (fair_take hl h)
      rw [step_some hd hml]
      by_cases e : (dealt w a m).2 = 0
      · rw [if_pos e]
        exact hF
      · rw [if_neg e]
        have e2 : (dealt w a m).1 = sTake w a m := deal_fail e
        rw [e2]
        exact (fair_fail hgT hlT (fair_take hl h)).mono (by omega)
  | none =>
    cases ht : wT w with
    | nil =>
      rw [step_nil hd ht]
      exact h.mono (by omega)
    | cons t l =>
      rw [step_cons hd ht]
      obtain ⟨x, x1, x2, x3⟩ := h.2
      obtain ⟨d, d1, d2, d3⟩ := x3 t (by rw [ht]; exact List.mem_cons_self)
      have hs : tSorted (t :: l) := by rw [← ht]; exact hI.2.2.1.2.1
      have hs2 := (List.pairwise_cons.mp hs).1
      have hF : FA (T + 8) (wST (wSI w 6 t.2.1) l) := by
        refine ⟨h.1.of rfl (fun _ => rfl) (fun _ _ _ => ⟨rfl, fun _ hq => hq, rfl⟩) fun b hb q hq => h.1.2 b hb q hq, d, by omega, ?_, fun y hy => ?_⟩
        · show upd (wI w) 6 t.2.1 6 = _
          unfold upd
          rw [if_pos rfl, d3]
        · obtain ⟨e, e1, e2, e3⟩ := x3 y (by rw [ht]; exact List.mem_cons_of_mem _ hy)
          have hle := hs2 y hy
          rw [d3, e3, n_le (by omega) (by omega)] at hle
          exact ⟨e, hle, by omega, e3⟩
      exact hF.kp (sSend_kp _ _ _)
theorem fair_steps : ∀ (k T : Nat) (w : Wst), T + 8 * k < 2 ^ 30 → Good w → FA T w → FA (T + 8 * k) (sSteps k w).1
  | 0, _, _, _, _, h => h
  | k + 1, T, w, hT, hg, h => by
    have hs : sSteps (k + 1) w = if wI w 10 = 0 then ((sSteps k (wSI (sStep w 0).1 10 (sHow (sStep w 0).1))).1, (sSteps k (wSI (sStep w 0).1 10 (sHow (sStep w 0).1))).2 + 1) else (w, 0) := rfl
    rw [hs]
    split
    · have h1 := (fair_step (by omega) hg h).int (k := 10) (v := sHow (sStep w 0).1) (by decide)
      have h2 := fair_steps k (T + 8) _ (by omega) (Good.int8 (sStep_good hg) (by decide)) h1
      rw [show T + 8 * (k + 1) = T + 8 + 8 * k by omega]
      exact h2
    · exact h.mono (by omega)
theorem fair_run {k T : Nat} {w : Wst} (hT : T + 8 * k < 2 ^ 30) (hg : Good w) (h : FA T w) : FA (T + 8 * k) (sRun w k).1 := fair_steps k T _ hT (Good.int8 hg (by decide)) (h.int (by decide))
theorem fair_draw {T : Nat} (G : Int32 → Int32) : ∀ (k : Nat) (w : Wst), FA T w → FA T (sDraw G k w)
  | 0, _, h => h
  | k + 1, w, h => fair_draw G k _ ((h.int (k := 9) (v := G (wI w 9)) (by decide)).kp (sSend_kp _ _ _))
theorem fair_born {T : Nat} {w : Wst} {v1 v2 v3 v4 v5 : Int32} (h : FA T w) : FA T (sCame w v1 v2 v3 v4 v5) := by
  unfold sCame
  split
  · obtain ⟨⟨h1, h2⟩, h3⟩ := h
    have back : ∀ b, b < wN w → sLive (sBorn w (aBorn v1 v2 v3 v4 v5)) b = true → sLive w b = true := fun b hb hl => by
      have := (sLive_lt hl).2
      rw [born_old hb] at this
      exact sLive_of hb this
    refine ⟨⟨fun b hb hnl => ?_, fun b hb q hq => ?_⟩, h3.of rfl fun _ hx => hx⟩
    · by_cases e : b = wN w
      · exfalso
        refine hnl (sLive_of hb ?_)
        rw [e, born_new]
        rfl
      · have hb2 : b < wN w := by
          have : b < wN w + 1 := hb
          omega
        rw [born_old hb2]
        exact h1 b hb2 fun g => hnl (born_live g)
    · by_cases e : b = wN w
      · rw [e, born_new] at hq
        exact absurd hq List.not_mem_nil
      · have hb2 : b < wN w := by
          have : b < wN w + 1 := hb
          omega
        rw [born_old hb2] at hq
        exact born_live (h2 b hb2 q hq)
  · exact h
