/-! 34: restarts, budgets behind a failure -/
theorem IT.int8 {w : Wst} {k : Nat} {v : Int32} (h : IT w) (hk : k ≠ 5) : IT (wSI w k v) := ⟨h.1.int8 hk, h.2⟩
theorem back_it {w : Wst} {a : Nat} (h : IT w) (hl : sLive w a = true) : IT (sBack w a) := by
  have ha := (sLive_lt hl).1
  obtain ⟨p1, p2, p3, p4, p5, p6, p7, p8, p9, p10, p11⟩ := h.1.2.1 a ha
  unfold sBack
  refine IT.int8 (h.live hl ?_ rfl rfl) (by decide)
  refine ⟨p1, p2, p3, p4, p5, p6, p7, ⟨?_, fun m hm => ?_⟩, ⟨by show ([] : List Msg).length ≤ 6; decide, fun m hm => by cases hm⟩, p10, p11⟩
  · show ((aStash (wA w a)).take (min (aStash (wA w a)).length (12 - (aMail (wA w a)).length)) ++ aMail (wA w a)).length ≤ 12
    rw [List.length_append, List.length_take]
    have := p8.1
    omega
  · have hm2 : m ∈ (aStash (wA w a)).take (min (aStash (wA w a)).length (12 - (aMail (wA w a)).length)) ++ aMail (wA w a) := hm
    rcases List.mem_append.mp hm2 with q | q
    · exact (p9.2 m (List.mem_of_mem_take q)).1
    · exact p8.2 m q
theorem forget_it {w : Wst} {a : Nat} (h : IT w) (hl : sLive w a = true) : IT (sForget w a) := by
  have ha := (sLive_lt hl).1
  obtain ⟨hI, t1, t2, t3⟩ := h.live hl (okA_keep (h.1.2.1 a ha)) rfl rfl
  exact ⟨sForget_inv h.1 ha, t1, fun t ht => t2 t ((List.mem_filter.mp ht).1), t3⟩
theorem zero_it {w : Wst} {a : Nat} (h : IT w) (hl : sLive w a = true) : IT (wSA w a (aSI (wA w a) 5 0)) := by
  obtain ⟨p1, p2, p3, p4, p5, p6, p7⟩ := h.1.2.1 a (sLive_lt hl).1
  exact h.live hl ⟨p1, p2, p3, p4, p5, p6, p7⟩ rfl rfl
/-- ahead of a restart: none live below it -/
def rsW (w : Wst) (a : Nat) : Wst := sKids (sStop 12) a (wN w) w
theorem rs_eq (w : Wst) (a : Nat) : sRestart w a = sBack (sForget (wSA (rsW w a) a (aSI (wA (rsW w a) a) 5 0)) a) a := rfl
theorem back_off {w : Wst} {a b : Nat} (h : b ≠ a) : wA (sBack w a) b = wA w b := xup_n h
theorem back_self (w : Wst) (a : Nat) : wA (sBack w a) a = aSStash (aSMail (wA w a) ((aStash (wA w a)).take (min (aStash (wA w a)).length (12 - (aMail (wA w a)).length)) ++ aMail (wA w a))) [] := xup_s
theorem forget_off {w : Wst} {a b : Nat} (h : b ≠ a) : wA (sForget w a) b = wA w b := xup_n h
theorem forget_self (w : Wst) (a : Nat) : wA (sForget w a) a = aKeep (wA w a) := xup_s
theorem forget_live (w : Wst) (a b : Nat) : sLive (sForget w a) b = sLive w b := by
  have h : aI (wA (sForget w a) b) = aI (wA w b) := by
    by_cases e : b = a
    · rw [e, forget_self]
      rfl
    · rw [forget_off e]
  unfold sLive
  rw [h]
  rfl
theorem rs_off {w : Wst} {a b : Nat} (h : b ≠ a) : wA (sRestart w a) b = wA (rsW w a) b := by
  rw [rs_eq, back_off h, forget_off h, wSA_off h]
theorem rs_I (w : Wst) (a b : Nat) {k : Nat} (hk : k ≠ 5) : aI (wA (sRestart w a) b) k = aI (wA (rsW w a) b) k := by
  by_cases e : b = a
  · rw [e, rs_eq, back_self]
    show aI (wA (sForget _ a) a) k = _
    rw [forget_self]
    show aI (wA (wSA _ a _) a) k = _
    rw [wSA_self]
    exact if_neg hk
  · rw [rs_off e]
theorem rs_not (w : Wst) (a : Nat) : aNot (wA (sRestart w a) a) = [] := by
  rw [rs_eq, back_self]
  show aNot (wA (sForget _ a) a) = _
  rw [forget_self]
  rfl
theorem rs_n (w : Wst) (a : Nat) : wN (sRestart w a) = wN w := (kids_shr 12 a (wN w) w).1
theorem rs_live (w : Wst) (a b : Nat) : sLive (sRestart w a) b = sLive (rsW w a) b := by
  unfold sLive
  rw [rs_I w a b (by decide)]
  rfl
theorem rs_shr (w : Wst) (a : Nat) : Shr w (sRestart w a) := by
  have hk := kids_shr 12 a (wN w) w
  refine ⟨rs_n w a, fun b k h5 h6 => by rw [rs_I w a b h5]; exact hk.2.1 b k h5 h6, fun b hb => by rw [rs_live] at hb; exact hk.2.2.1 b hb, fun b => ?_⟩
  by_cases e : b = a
  · rw [e]
    exact Or.inr (rs_not w a)
  · rw [rs_off e]
    exact hk.2.2.2 b
theorem rs_kids {w : Wst} {a : Nat} (h : IT w) (hl : sLive w a = true) : IT (rsW w a) ∧ sLive (rsW w a) a = true ∧ ∀ c, c < wN w → sLC (rsW w a) c a = false := by
  obtain ⟨q1, q2, q3, q4, q5⟩ := kids_ok (stop_ok 12 (a + 1) (by omega)) (wN w) w (Nat.le_refl _) h.1 h.2
  have hn := q3.1
  refine ⟨⟨q1, q2⟩, (q4 a (Nat.le_refl _)).trans hl, fun c hc => no_kid (by have := h.1.1; have := (sLive_lt hl).1; omega) q1 (fun d g1 g2 => q5 d g1 ?_) c ?_⟩
  · rw [hn] at g2
    exact g2
  · rw [hn]
    exact hc
theorem restart_it {w : Wst} {a : Nat} (h : IT w) (hl : sLive w a = true) : IT (sRestart w a) ∧ sLive (sRestart w a) a = true ∧ ∀ c, c < wN (sRestart w a) → sLC (sRestart w a) c a = false := by
  obtain ⟨q1, q2, q3⟩ := rs_kids h hl
  have h1 := zero_it q1 q2
  have l1 : sLive (wSA (rsW w a) a (aSI (wA (rsW w a) a) 5 0)) a = true := by
    rw [wSA_live (x := aSI (wA (rsW w a) a) 5 0) rfl]
    exact q2
  have h2 := forget_it h1 l1
  have l2 : sLive (sForget (wSA (rsW w a) a (aSI (wA (rsW w a) a) 5 0)) a) a = true := by
    rw [forget_live]
    exact l1
  refine ⟨back_it h2 l2, by rw [rs_live]; exact q2, fun c hc => ?_⟩
  rw [rs_n] at hc
  have := q3 c hc
  unfold sLC at this ⊢
  rw [rs_live, rs_I w a c (by decide)]
  exact this
theorem Shr.budx {w w1 : Wst} {t : Nat} (h : Shr w w1) (hB : BudX w t) : BudX w1 t := fun b hb => by
  have hb2 : b < wN w := by rw [← h.1]; exact hb
  rcases hB b hb2 with q | q
  · exact Or.inl ((Anc.congr fun c => h.2.1 c 0 (by decide) (by decide)).mpr q)
  · refine Or.inr ?_
    rw [h.2.1 b 3 (by decide) (by decide)]
    rcases h.2.2.2 b with e | e
    · rw [e]
      exact q
    · rw [e]
      exact Nat.zero_le _
theorem dead_not {w : Wst} {b : Nat} (h : IT w) (hb : b < wN w) (hl : ¬ sLive w b = true) : aNot (wA w b) = [] := by
  rcases h.1.b hb with e | e
  · exact (h.2.2.2 b hb e).2
  · exact absurd (sLive_of hb e) hl
theorem with_self {w : Wst} {t : Nat} (hI : Inv w) (hl : sLive w t = true) (h0 : 0 < t) : sWith w t t = true := by
  have h := (par_ok hI (sLive_lt hl).1 h0).2
  unfold sWith sLC
  show (sLive w t && decide (aI (wA w t) 0 = Int32.ofNat (par w t)) && _) = true
  rw [hl, h]
  simp
theorem with_lc {w : Wst} {t c : Nat} (h : sWith w t c = true) : sLC w c (par w t) = true := by
  unfold sWith at h
  simp only [Bool.and_eq_true] at h
  exact h.1
theorem lc_par {w : Wst} {c p : Nat} (hI : Inv w) (hp : p < 12) (h : sLC w c p = true) : 0 < c ∧ par w c = p ∧ p < c := by
  have h12 := hI.1
  obtain ⟨h1, h2⟩ := sLC_of h
  have hc := (sLive_lt h1).1
  have h0 : 0 < c := by
    by_cases e : 0 < c
    · exact e
    · have e2 : c = 0 := by omega
      subst e2
      rw [par_root hI hc] at h2
      exact absurd h2.symm (neg1_ne (by omega))
  have h3 := par_ok hI hc h0
  rw [h2, n_inj (by omega) (by omega)] at h3
  exact ⟨h0, h3.2.symm, by omega⟩
theorem rests_ok {t : Nat} (h0 : 0 < t) : ∀ (k c : Nat) (w : Wst) (q : Int32), c + k = wN w → IT w → BudX w t → t < wN w → (c ≤ t → sLive w t = true) → (t < c → Bud w) → IT (sRests t k c w q).1 ∧ Bud (sRests t k c w q).1 ∧ wN (sRests t k c w q).1 = wN w
  | 0, c, w, q, hc, hT, hB, ht, _, hb => ⟨hT, hb (by omega), rfl⟩
  | k + 1, c, w, q, hc, hT, hB, ht, hl, hb => by
    have h12 := hT.1.1
    have hs : sRests t (k + 1) c w q = if sWith w t c = true then sRests t k (c + 1) (sRestart w c) (q ||| (1 <<< (Int32.ofNat c &&& 31))) else sRests t k (c + 1) w q := rfl
    rw [hs]
    by_cases e : sWith w t c = true
    · rw [if_pos e]
      have hlc := with_lc e
      have hpl := par_le hT.1 ht
      obtain ⟨c0, c1, c2⟩ := lc_par hT.1 (by omega) hlc
      have hcl := (sLC_of hlc).1
      obtain ⟨r1, r2, r3⟩ := restart_it hT hcl
      have hS := rs_shr w c
      have hBx := hS.budx hB
      obtain ⟨g1, g2, g3⟩ := rests_ok h0 k (c + 1) (sRestart w c) (q ||| (1 <<< (Int32.ofNat c &&& 31))) (by rw [hS.1]; omega) r1 hBx (by rw [hS.1]; exact ht) (fun hct => by
        rw [rs_live]
        refine (kids_kill2 (w := w) (by omega) (by omega) (wN w) w (Nat.le_refl _) rfl (fun _ => rfl) fun hA => ?_).trans (hl (by omega))
        rcases hA.cases hT.1 ht with g | g <;> omega) (fun hct => by
        by_cases g : t < c
        · exact hS.bud (hb g)
        · have e2 : c = t := by omega
          subst e2
          intro b hb2
          rcases hBx b hb2 with g1 | g1
          · by_cases g2 : b = c
            · rw [g2, rs_not]
              exact Nat.zero_le _
            · rw [dead_not r1 hb2 fun g3 => g2 (g1.alone r1.1 r1.2 r3 g3)]
              exact Nat.zero_le _
          · exact g1)
      exact ⟨g1, g2, g3.trans hS.1⟩
    · rw [if_neg e]
      refine rests_ok h0 k (c + 1) w q (by omega) hT hB ht (fun hct => hl (by omega)) fun hct => ?_
      by_cases g : t < c
      · exact hb g
      · have e2 : c = t := by omega
        subst e2
        exact absurd (with_self hT.1 (hl (Nat.le_refl _)) h0) e
theorem cau_it {w : Wst} {l : List Msg} (h : IT w) (hl : l.length ≤ 12) (hq : ∀ m ∈ l, okN 12 m.1) : IT (wSC w l) := by
  obtain ⟨⟨h1, h2, h3, h4, h5, h6⟩, h7⟩ := h
  exact ⟨⟨h1, h2, h3, h4, ⟨hl, hq⟩, h6⟩, h7⟩
theorem sFail_good {w : Wst} {a : Nat} {why q : Int32} (h : Good w) (hl : sLive w a = true) : Good (sFail w a why q).1 ∧ wN (sFail w a why q).1 = wN w := by
  have h12 := h.1.1
  have ha := (sLive_lt hl).1
  obtain ⟨g1, g2, g3, g4, g5, g6⟩ := climb_ok 12 a w [(Int32.ofNat a, why)] (by omega) hl ⟨h.1, h.2.1⟩ (h.2.2.x a) (by show 1 + a ≤ 12; omega) (fun m hm => by
    rw [List.mem_singleton.mp hm]
    exact okN_of (by omega))
  unfold sFail
  generalize sClimb 12 w [(Int32.ofNat a, why)] a = r at *
  have hc := cau_it g1 g5 g6
  show Good (if r.2.2 = 0 then (sStop 12 (wSC r.1 r.2.1) 0, q) else sRests r.2.2 (wN (wSC r.1 r.2.1)) 0 (wSC r.1 r.2.1) q).1 ∧ wN (if r.2.2 = 0 then (sStop 12 (wSC r.1 r.2.1) 0, q) else sRests r.2.2 (wN (wSC r.1 r.2.1)) 0 (wSC r.1 r.2.1) q).1 = wN w
  by_cases e : r.2.2 = 0
  · rw [if_pos e]
    rw [e] at g3
    have hlt := (sLive_lt g3).1
    obtain ⟨q1, q2, q3, -, q5⟩ := stop_ok 12 0 (by omega) (wSC r.1 r.2.1) 0 (Nat.le_refl _) hlt hc.1 hc.2 g3
    refine ⟨⟨q1, q2, fun b hb => ?_⟩, q3.1.trans g4⟩
    rw [dead_not ⟨q1, q2⟩ hb fun g => by
      rw [root_live q1 q2 g] at q5
      cases q5]
    exact Nat.zero_le _
  · rw [if_neg e]
    have hlt := (sLive_lt g3).1
    obtain ⟨q1, q2, q3⟩ := rests_ok (t := r.2.2) (by omega) (wN (wSC r.1 r.2.1)) 0 (wSC r.1 r.2.1) q (Nat.zero_add _) hc (fun b hb => Or.imp (Anc.congr (w := r.1) (w1 := wSC r.1 r.2.1) fun _ => rfl).mpr (fun q => q) (g2 b hb)) hlt (fun _ => g3) (fun g => absurd g (Nat.not_lt_zero _))
    exact ⟨⟨q1.1, q1.2, q2⟩, q3.trans g4⟩
