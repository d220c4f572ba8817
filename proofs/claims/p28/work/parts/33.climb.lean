/-! 33: failures go up -/
def par (w : Wst) (b : Nat) : Nat := nu (aI (wA w b) 0)
def upp (w : Wst) : Nat → Nat → Nat
  | 0, b => b
  | k + 1, b => par w (upp w k b)
/-- t is b or above it -/
def Anc (w : Wst) (t b : Nat) : Prop := ∃ k, upp w k b = t
theorem Anc.self (w : Wst) (t : Nat) : Anc w t t := ⟨0, rfl⟩
theorem Anc.up {w : Wst} {t b : Nat} (h : Anc w t b) : Anc w (par w t) b := by
  obtain ⟨k, rfl⟩ := h
  exact ⟨k + 1, rfl⟩
theorem par_ok {w : Wst} {t : Nat} (hI : Inv w) (ht : t < wN w) (h0 : 0 < t) : par w t < t ∧ aI (wA w t) 0 = Int32.ofNat (par w t) := by
  have h12 := hI.1
  rcases (hI.2.1 t ht).1 with q | q
  · omega
  · exact okN_nn q (by omega)
theorem par_root {w : Wst} (hI : Inv w) (h0 : 0 < wN w) : aI (wA w 0) 0 = -1 := by
  rcases (hI.2.1 0 h0).1 with q | q
  · exact q.2
  · obtain ⟨k, hk, _⟩ := q
    omega
theorem par_le {w : Wst} {t : Nat} (hI : Inv w) (ht : t < wN w) : par w t ≤ t := by
  by_cases h0 : 0 < t
  · exact Nat.le_of_lt (par_ok hI ht h0).1
  · have e : t = 0 := by omega
    subst e
    unfold par
    rw [par_root hI ht]
    decide
theorem upp_le {w : Wst} {b : Nat} (hI : Inv w) (hb : b < wN w) : ∀ k, upp w k b ≤ b
  | 0 => Nat.le_refl _
  | k + 1 => by
    have h := upp_le hI hb k
    have := par_le hI (t := upp w k b) (by omega)
    show par w (upp w k b) ≤ b
    omega
theorem Anc.le {w : Wst} {t b : Nat} (hI : Inv w) (hb : b < wN w) (h : Anc w t b) : t ≤ b := by
  obtain ⟨k, rfl⟩ := h
  exact upp_le hI hb k
theorem Anc.cases {w : Wst} {c t : Nat} (hI : Inv w) (ht : t < wN w) (h : Anc w c t) : c = t ∨ c ≤ par w t := by
  obtain ⟨k, hk⟩ := h
  induction k generalizing c with
  | zero => exact Or.inl hk.symm
  | succ k ih =>
    have hk2 : par w (upp w k t) = c := hk
    rcases ih rfl with e | e
    · rw [e] at hk2
      exact Or.inr (by omega)
    · have := upp_le hI ht k
      have := par_le hI (t := upp w k t) (by omega)
      exact Or.inr (by omega)
theorem upp_congr {w w1 : Wst} (h : ∀ b, aI (wA w1 b) 0 = aI (wA w b) 0) (b : Nat) : ∀ k, upp w1 k b = upp w k b
  | 0 => rfl
  | k + 1 => by
    show par w1 (upp w1 k b) = par w (upp w k b)
    rw [upp_congr h b k]
    unfold par
    rw [h]
theorem Anc.congr {w w1 : Wst} (h : ∀ b, aI (wA w1 b) 0 = aI (wA w b) 0) {t b : Nat} : Anc w1 t b ↔ Anc w t b := by
  unfold Anc
  constructor
  · rintro ⟨k, hk⟩
    exact ⟨k, by rw [← upp_congr h b k]; exact hk⟩
  · rintro ⟨k, hk⟩
    exact ⟨k, by rw [upp_congr h b k]; exact hk⟩
theorem par_congr {w w1 : Wst} (h : ∀ b, aI (wA w1 b) 0 = aI (wA w b) 0) (b : Nat) : par w1 b = par w b := by
  unfold par
  rw [h]
/-- all live up to the root -/
theorem upp_live {w : Wst} {b : Nat} (hI : Inv w) (hT : Tree w) (h : sLive w b = true) : ∀ k, sLive w (upp w k b) = true
  | 0 => h
  | k + 1 => by
    have h1 := upp_live hI hT h k
    have h2 := sLive_lt h1
    show sLive w (par w (upp w k b)) = true
    by_cases h0 : 0 < upp w k b
    · exact hT.1 _ h2.1 h2.2 h0
    · have := par_le hI h2.1
      have e : par w (upp w k b) = upp w k b := by omega
      rw [e]
      exact h1
/-- without live children none below it is live -/
theorem Anc.alone {w : Wst} {t b : Nat} (hI : Inv w) (hT : Tree w) (hk : ∀ c, c < wN w → sLC w c t = false) (h : Anc w t b) (hb : sLive w b = true) : b = t := by
  obtain ⟨k, hk2⟩ := h
  induction k with
  | zero => exact hk2
  | succ k ih =>
    have h1 := upp_live hI hT hb k
    have h2 := sLive_lt h1
    have h3 : par w (upp w k b) = t := hk2
    by_cases h0 : 0 < upp w k b
    · have h4 := (par_ok hI h2.1 h0).2
      rw [h3] at h4
      have := hk _ h2.1
      unfold sLC at this
      rw [h1, h4] at this
      simp at this
    · have := par_le hI h2.1
      exact ih (by omega)
theorem root_live {w : Wst} {b : Nat} (hI : Inv w) (hT : Tree w) (hb : sLive w b = true) : sLive w 0 = true := by
  have h : ∀ k, upp w k b ≤ b - k := fun k => by
    induction k with
    | zero => exact Nat.le_refl _
    | succ k ih =>
      have h1 := sLive_lt (upp_live hI hT hb k)
      show par w (upp w k b) ≤ _
      by_cases h0 : 0 < upp w k b
      · have := (par_ok hI h1.1 h0).1
        omega
      · have := par_le hI h1.1
        omega
  have h1 := upp_live hI hT hb b
  have h2 := h b
  have e : upp w b b = 0 := by omega
  rw [e] at h1
  exact h1
/-! who doesn't stand below it stays -/
theorem s1_par (w : Wst) (a b : Nat) : aI (wA (sStop1 w a) b) 0 = aI (wA w b) 0 := (s1_less w a).2.1 b 0 (by decide)
theorem stop_par (n : Nat) (w : Wst) (a b : Nat) : aI (wA (sStop n w a) b) 0 = aI (wA w b) 0 := (stop_shr n w a).2.1 b 0 (by decide) (by decide)
theorem kids_par (n a c : Nat) (w : Wst) (b : Nat) : aI (wA (sKids (sStop n) a c w) b) 0 = aI (wA w b) 0 := (kids_shr n a c w).2.1 b 0 (by decide) (by decide)
theorem kill_big {w : Wst} {b : Nat} (h : ¬ b < wN w) : sLive w b = false := by
  unfold sLive
  simp [h]
theorem stop_kill : ∀ (n : Nat) (w : Wst) (a b : Nat), a < 2 ^ 31 → wN w < 2 ^ 31 → ¬ Anc w a b → sLive (sStop n w a) b = sLive w b
  | 0, _, _, _, _, _, _ => rfl
  | n + 1, w, a, b, ha, hn, h => by
    show sLive (sStop1 (sKids (sStop n) a (wN w) w) a) b = _
    have hb : b ≠ a := fun e => h (by rw [e]; exact Anc.self w a)
    rw [s1_live]
    have : ∀ (c : Nat) (w1 : Wst), c ≤ wN w → wN w1 = wN w → (∀ d, aI (wA w1 d) 0 = aI (wA w d) 0) → sLive (sKids (sStop n) a c w1) b = sLive w1 b := by
      intro c
      induction c with
      | zero => intro _ _ _ _; rfl
      | succ c ih =>
        intro w1 hc hn1 hp
        show sLive (sKids (sStop n) a c (if a < c ∧ sLC w1 c a = true then sStop n w1 c else w1)) b = _
        by_cases e : a < c ∧ sLC w1 c a = true
        · rw [if_pos e]
          have hpar : par w1 c = a := by
            unfold par nu
            rw [(sLC_of e.2).2, n_clamp ha]
          rw [ih (sStop n w1 c) (by omega) ((stop_shr n w1 c).1.trans hn1) (fun d => (stop_par n w1 c d).trans (hp d))]
          refine stop_kill n w1 c b (by omega) (by rw [hn1]; exact hn) fun q => h ((Anc.congr hp).mp ?_)
          rw [← hpar]
          exact q.up
        · rw [if_neg e]
          exact ih w1 (by omega) hn1 hp
    rw [this (wN w) w (Nat.le_refl _) rfl (fun _ => rfl)]
    simp [hb]
theorem kids_kill2 {n a b : Nat} {w : Wst} (ha : a < 2 ^ 31) (hn : wN w < 2 ^ 31) : ∀ (c : Nat) (w1 : Wst), c ≤ wN w → wN w1 = wN w → (∀ d, aI (wA w1 d) 0 = aI (wA w d) 0) → ¬ Anc w a b → sLive (sKids (sStop n) a c w1) b = sLive w1 b
  | 0, _, _, _, _, _ => rfl
  | c + 1, w1, hc, hn1, hp, h => by
    show sLive (sKids (sStop n) a c (if a < c ∧ sLC w1 c a = true then sStop n w1 c else w1)) b = _
    by_cases e : a < c ∧ sLC w1 c a = true
    · rw [if_pos e]
      have hpar : par w1 c = a := by
        unfold par nu
        rw [(sLC_of e.2).2, n_clamp ha]
      rw [kids_kill2 ha hn c (sStop n w1 c) (by omega) ((stop_shr n w1 c).1.trans hn1) (fun d => (stop_par n w1 c d).trans (hp d)) h]
      refine stop_kill n w1 c b (by omega) (by rw [hn1]; exact hn) fun q => h ((Anc.congr hp).mp ?_)
      rw [← hpar]
      exact q.up
    · rw [if_neg e]
      exact kids_kill2 ha hn c w1 (by omega) hn1 hp h
/-! shape and tree, without budgets -/
def IT (w : Wst) : Prop := Inv w ∧ Tree w
theorem IT.live {w : Wst} {a : Nat} {x : Act} (h : IT w) (hl : sLive w a = true) (hx : okA (wN w) a x) (h0 : aI x 0 = aI (wA w a) 0) (h6 : aI x 6 = aI (wA w a) 6) : IT (wSA w a x) := by
  obtain ⟨hI, t1, t2, t3⟩ := h
  have hl2 : ∀ b, sLive (wSA w a x) b = sLive w b := fun b => by
    unfold sLive
    show (decide (b < wN w) && decide (aI (xup (wA w) a x b) 6 = 1)) = _
    by_cases e : b = a
    · rw [e, xup_s, h6]
    · rw [xup_n e]
  refine ⟨hI.act hx, fun b hb g h00 => ?_, fun t g => ?_, fun b hb g => ?_⟩
  · rw [hl2]
    have e0 : aI (wA (wSA w a x) b) 0 = aI (wA w b) 0 := by
      show aI (xup (wA w) a x b) 0 = _
      by_cases e : b = a
      · rw [e, xup_s, h0]
      · rw [xup_n e]
    have e6 : aI (wA (wSA w a x) b) 6 = aI (wA w b) 6 := by
      show aI (xup (wA w) a x b) 6 = _
      by_cases e : b = a
      · rw [e, xup_s, h6]
      · rw [xup_n e]
    rw [e0]
    rw [e6] at g
    exact t1 b hb g h00
  · rw [hl2]
    exact t2 t g
  · have g2 : aI (xup (wA w) a x b) 6 = 0 := g
    show aMail (xup (wA w) a x b) = [] ∧ aNot (xup (wA w) a x b) = []
    by_cases e : b = a
    · rw [e, xup_s, h6] at g2
      exact absurd g2 (live_6 hl)
    · rw [xup_n e] at g2 ⊢
      exact t3 b hb g2
theorem wSA_live {w : Wst} {a : Nat} {x : Act} (h6 : aI x 6 = aI (wA w a) 6) (b : Nat) : sLive (wSA w a x) b = sLive w b := by
  unfold sLive
  show (decide (b < wN w) && decide (aI (xup (wA w) a x b) 6 = 1)) = _
  by_cases e : b = a
  · rw [e, xup_s, h6]
  · rw [xup_n e]
theorem wSA_self {w : Wst} {a : Nat} {x : Act} : wA (wSA w a x) a = x := xup_s
theorem wSA_off {w : Wst} {a b : Nat} {x : Act} (h : b ≠ a) : wA (wSA w a x) b = wA w b := xup_n h
/-! the parent notes it -/
theorem note_self (w : Wst) (p : Nat) : wA (sNote w p) p = aSNot (wA w p) (((aNot (wA w p)).filter fun t => !decide (t < wI w 6 - aI (wA w p) 4)) ++ [wI w 6]) := xup_s
theorem note_off {w : Wst} {p b : Nat} (h : b ≠ p) : wA (sNote w p) b = wA w b := xup_n h
theorem note_I (w : Wst) (p b : Nat) : aI (wA (sNote w p) b) = aI (wA w b) := by
  by_cases e : b = p
  · rw [e, note_self]
    rfl
  · rw [note_off e]
theorem note_live (w : Wst) (p b : Nat) : sLive (sNote w p) b = sLive w b := by
  unfold sLive
  rw [note_I]
  rfl
theorem note_len (w : Wst) (p : Nat) : (aNot (wA (sNote w p) p)).length ≤ (aNot (wA w p)).length + 1 := by
  rw [note_self]
  show (_ ++ [_]).length ≤ _
  rw [List.length_append]
  have := List.length_filter_le (fun t => !decide (t < wI w 6 - aI (wA w p) 4)) (aNot (wA w p))
  show _ + 1 ≤ _
  omega
theorem note_it {w : Wst} {p : Nat} (h : IT w) (hl : sLive w p = true) (h9 : (aNot (wA w p)).length ≤ 9) : IT (sNote w p) := by
  obtain ⟨p1, p2, p3, p4, p5, p6, p7, p8, p9, p10, p11⟩ := h.1.2.1 p (sLive_lt hl).1
  refine h.live hl ⟨p1, p2, p3, p4, p5, p6, p7, p8, p9, p10, ?_⟩ rfl rfl
  have := note_len w p
  rw [note_self] at this
  omega
/-- budgets hold but of t and those between -/
def BudX (w : Wst) (t : Nat) : Prop := ∀ b, b < wN w → Anc w t b ∨ (aNot (wA w b)).length ≤ nu (aI (wA w b) 3)
theorem Bud.x {w : Wst} (h : Bud w) (t : Nat) : BudX w t := fun b hb => Or.inr (h b hb)
theorem note_over {w : Wst} {t : Nat} (h : BudX w t) : BudX (sNote w (par w t)) (par w t) := fun b hb => by
  by_cases e : b = par w t
  · exact Or.inl (by rw [e]; exact Anc.self _ _)
  · rw [note_off e]
    rcases h b hb with q | q
    · exact Or.inl ((Anc.congr fun c => by rw [note_I]).mpr q.up)
    · exact Or.inr q
theorem note_fine {w : Wst} {t p : Nat} (h : BudX w t) (ho : sOver w p = false) : BudX (sNote w p) t := fun b hb => by
  by_cases e : b = p
  · refine Or.inr ?_
    unfold sOver at ho
    rw [e, note_I]
    simpa using ho
  · rw [note_off e]
    rcases h b hb with q | q
    · exact Or.inl ((Anc.congr fun c => by rw [note_I]).mpr q)
    · exact Or.inr q
theorem bud9 {w : Wst} {b : Nat} (hI : Inv w) (hb : b < wN w) : nu (aI (wA w b) 3) ≤ 9 := by
  obtain ⟨k, hk, e⟩ := (hI.2.1 b hb).2.2.2.1
  rw [e]
  unfold nu
  rw [n_clamp (by omega)]
  omega
theorem par_live {w : Wst} {t : Nat} (hT : Tree w) (hl : sLive w t = true) (h0 : 0 < t) : sLive w (par w t) = true := hT.1 t (sLive_lt hl).1 (sLive_lt hl).2 h0
theorem par_free {w : Wst} {t : Nat} (h : IT w) (hB : BudX w t) (hl : sLive w t = true) (h0 : 0 < t) : (aNot (wA w (par w t))).length ≤ 9 := by
  have hp := par_live h.2 hl h0
  rcases hB _ (sLive_lt hp).1 with q | q
  · have := q.le h.1 (sLive_lt hp).1
    have := (par_ok h.1 (sLive_lt hl).1 h0).1
    omega
  · exact Nat.le_trans q (bud9 h.1 (sLive_lt hp).1)
theorem climb_ok : ∀ (m t : Nat) (w : Wst) (l : List Msg), t < m → sLive w t = true → IT w → BudX w t → l.length + t ≤ 12 → (∀ q ∈ l, okN 12 q.1) → IT (sClimb m w l t).1 ∧ BudX (sClimb m w l t).1 (sClimb m w l t).2.2 ∧ sLive (sClimb m w l t).1 (sClimb m w l t).2.2 = true ∧ wN (sClimb m w l t).1 = wN w ∧ (sClimb m w l t).2.1.length ≤ 12 ∧ (∀ q ∈ (sClimb m w l t).2.1, okN 12 q.1)
  | 0, _, _, _, h, _, _, _, _, _ => absurd h (Nat.not_lt_zero _)
  | m + 1, t, w, l, h, hl, hT, hB, hc, hq => by
    have ht := (sLive_lt hl).1
    have h12 := hT.1.1
    have hs : sClimb (m + 1) w l t = if t = 0 then (w, l, t) else if sOver w (par w t) = true then sClimb m (sNote w (par w t)) (l ++ [(Int32.ofNat (par w t), 9)]) (par w t) else (sNote w (par w t), l, t) := rfl
    rw [hs]
    by_cases e : t = 0
    · rw [if_pos e]
      exact ⟨hT, hB, hl, rfl, by show l.length ≤ 12; omega, hq⟩
    · rw [if_neg e]
      have hp := par_live hT.2 hl (by omega)
      have hp2 := (par_ok hT.1 ht (by omega)).1
      have hN := note_it hT hp (par_free hT hB hl (by omega))
      by_cases g : sOver w (par w t) = true
      · rw [if_pos g]
        obtain ⟨q1, q2, q3, q4, q5, q6⟩ := climb_ok m (par w t) (sNote w (par w t)) (l ++ [(Int32.ofNat (par w t), 9)]) (by omega) (by rw [note_live]; exact hp) hN (note_over hB) (by
          rw [List.length_append]
          show l.length + 1 + _ ≤ 12
          omega) (fun q hq2 => by
          rcases List.mem_append.mp hq2 with q1 | q1
          · exact hq q q1
          · rw [List.mem_singleton.mp q1]
            exact okN_of (by omega))
        exact ⟨q1, q2, q3, q4, q5, q6⟩
      · rw [if_neg g]
        exact ⟨hN, note_fine hB (by simpa using g), by show sLive (sNote w (par w t)) t = true; rw [note_live]; exact hl, rfl, by show l.length ≤ 12; omega, hq⟩
