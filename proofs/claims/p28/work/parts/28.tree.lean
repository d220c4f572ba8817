/-! 28: one stops: what becomes of the others -/
theorem s1_pre (w : Wst) (a : Nat) : Kp (sUnwatch (sForget (wSA w a (aSStash (aSMail (aSI (wA w a) 6 0) []) [])) a) a) (sTell (sUnwatch (sForget (wSA w a (aSStash (aSMail (aSI (wA w a) 6 0) []) [])) a) a) a (aWat (wA (sUnwatch (sForget (wSA w a (aSStash (aSMail (aSI (wA w a) 6 0) []) [])) a) a) a))) := sTell_kp a _ _
/-- the actor b ahead of the deaths told -/
def s1_act (w : Wst) (a b : Nat) : Act := wA (sUnwatch (sForget (wSA w a (aSStash (aSMail (aSI (wA w a) 6 0) []) [])) a) a) b
theorem s1_actI (w : Wst) (a b : Nat) : aI (s1_act w a b) = if b = a then upd (aI (wA w a)) 6 0 else aI (wA w b) := by
  unfold s1_act sUnwatch sForget wSA wST wSF
  show aI (if b < wN w then _ else _) = _
  have e : aI (xup (xup (wA w) a (aSStash (aSMail (aSI (wA w a) 6 0) []) [])) a (aKeep (xup (wA w) a (aSStash (aSMail (aSI (wA w a) 6 0) []) []) a)) b) = if b = a then upd (aI (wA w a)) 6 0 else aI (wA w b) := by
    by_cases e : b = a
    · rw [if_pos e, e, xup_s, xup_s]
      rfl
    · rw [if_neg e, xup_n e, xup_n e]
  split
  · exact e
  · exact e
theorem s1_wA (w : Wst) (a b : Nat) (h : b ≠ a) : wA (sStop1 w a) b = wA (sTell (sUnwatch (sForget (wSA w a (aSStash (aSMail (aSI (wA w a) 6 0) []) [])) a) a) a (aWat (s1_act w a a))) b := xup_n h
theorem s1_aI (w : Wst) (a b : Nat) : aI (wA (sStop1 w a) b) = if b = a then upd (aI (wA w a)) 6 0 else aI (wA w b) := by
  rw [← s1_actI]
  have hk := (s1_pre w a).2.1 b
  by_cases e : b = a
  · subst e
    have : wA (sStop1 w b) b = aSWat (wA (sTell (sUnwatch (sForget (wSA w b (aSStash (aSMail (aSI (wA w b) 6 0) []) [])) b) b) b (aWat (s1_act w b b))) b) [] := xup_s
    rw [this]
    exact hk.1
  · rw [s1_wA w a b e]
    exact hk.1
theorem s1_n (w : Wst) (a : Nat) : wN (sStop1 w a) = wN w := (s1_pre w a).1
theorem s1_live (w : Wst) (a b : Nat) : sLive (sStop1 w a) b = (sLive w b && !(b == a)) := by
  unfold sLive
  rw [s1_n, s1_aI]
  by_cases e : b = a
  · subst e
    rw [if_pos rfl]
    have : upd (aI (wA w b)) 6 0 6 = 0 := if_pos rfl
    rw [this]
    simp
  · rw [if_neg e]
    simp [e]
theorem s1_tim (w : Wst) (a : Nat) : wT (sStop1 w a) = (wT w).filter fun t => !(t.1 == Int32.ofNat a) := (s1_pre w a).2.2.1
theorem s1_not (w : Wst) (a b : Nat) : aNot (wA (sStop1 w a) b) = if b = a then [] else aNot (wA w b) := by
  have hk := (s1_pre w a).2.1 b
  have key : aNot (s1_act w a b) = if b = a then [] else aNot (wA w b) := by
    unfold s1_act sUnwatch sForget wSA wST wSF
    show aNot (if b < wN w then _ else _) = _
    have e : aNot (xup (xup (wA w) a (aSStash (aSMail (aSI (wA w a) 6 0) []) [])) a (aKeep (xup (wA w) a (aSStash (aSMail (aSI (wA w a) 6 0) []) []) a)) b) = if b = a then [] else aNot (wA w b) := by
      by_cases e : b = a
      · rw [if_pos e, e, xup_s]
        rfl
      · rw [if_neg e, xup_n e, xup_n e]
    split
    · exact e
    · exact e
  rw [← key]
  by_cases e : b = a
  · subst e
    have : wA (sStop1 w b) b = aSWat (wA (sTell (sUnwatch (sForget (wSA w b (aSStash (aSMail (aSI (wA w b) 6 0) []) [])) b) b) b (aWat (s1_act w b b))) b) [] := xup_s
    rw [this]
    exact hk.2.2.2.2
  · rw [s1_wA w a b e]
    exact hk.2.2.2.2
/-- the mailbox of one that isn't live -/
theorem s1_mail (w : Wst) (a b : Nat) (h : b = a ∨ sLive w b = false) : aMail (wA (sStop1 w a) b) = if b = a then [] else aMail (wA w b) := by
  have hl : sLive (sUnwatch (sForget (wSA w a (aSStash (aSMail (aSI (wA w a) 6 0) []) [])) a) a) b = false := by
    unfold sLive
    have := s1_actI w a b
    unfold s1_act at this
    rw [this]
    rcases h with e | e
    · rw [if_pos e]
      have : upd (aI (wA w a)) 6 0 6 = 0 := if_pos rfl
      rw [this]
      simp
    · unfold sLive at e
      by_cases g : b = a
      · rw [if_pos g]
        have : upd (aI (wA w a)) 6 0 6 = 0 := if_pos rfl
        rw [this]
        simp
      · rw [if_neg g]
        exact e
  have ht := sTell_mail a (aWat (s1_act w a a)) _ hl
  have key : aMail (s1_act w a b) = if b = a then [] else aMail (wA w b) := by
    unfold s1_act sUnwatch sForget wSA wST wSF
    show aMail (if b < wN w then _ else _) = _
    have e : aMail (xup (xup (wA w) a (aSStash (aSMail (aSI (wA w a) 6 0) []) [])) a (aKeep (xup (wA w) a (aSStash (aSMail (aSI (wA w a) 6 0) []) []) a)) b) = if b = a then [] else aMail (wA w b) := by
      by_cases e : b = a
      · rw [if_pos e, e, xup_s, xup_s]
        rfl
      · rw [if_neg e, xup_n e, xup_n e]
    split
    · exact e
    · exact e
  rw [← key]
  by_cases e : b = a
  · subst e
    have : wA (sStop1 w b) b = aSWat (wA (sTell (sUnwatch (sForget (wSA w b (aSStash (aSMail (aSI (wA w b) 6 0) []) [])) b) b) b (aWat (s1_act w b b))) b) [] := xup_s
    rw [this]
    exact ht
  · rw [s1_wA w a b e]
    exact ht
theorem s1_tree {w : Wst} {a : Nat} (hI : Inv w) (hT : Tree w) (ha : a < wN w) (hk : ∀ c, c < wN w → sLC w c a = false) : Tree (sStop1 w a) := by
  have h12 := hI.1
  obtain ⟨t1, t2, t3⟩ := hT
  refine ⟨fun b hb g h0 => ?_, fun t g => ?_, fun b hb g => ?_⟩
  · rw [s1_n] at hb
    rw [s1_aI] at g
    by_cases e : b = a
    · rw [if_pos e] at g
      have : upd (aI (wA w a)) 6 0 6 = 0 := if_pos rfl
      rw [this] at g
      exact absurd g (by decide)
    · rw [if_neg e] at g
      rw [s1_aI, if_neg e, s1_live, t1 b hb g h0]
      have hp := (hI.2.1 b hb).1
      rcases hp with hp | hp
      · omega
      · obtain ⟨q1, q2⟩ := okN_nn hp (by omega)
        have hne : nu (aI (wA w b) 0) ≠ a := fun e2 => by
          have := hk b hb
          unfold sLC at this
          rw [sLive_of hb g, q2, e2] at this
          simp at this
        simp [hne]
  · rw [s1_tim, List.mem_filter] at g
    rw [s1_live, t2 t g.1]
    have hok := (hI.2.2.1.2.2 t g.1).1
    obtain ⟨q1, q2⟩ := okN_nn hok (by omega)
    have hne : nu t.1 ≠ a := fun e => by
      have := g.2
      rw [q2, e] at this
      simp at this
    simp [hne]
  · rw [s1_n] at hb
    rw [s1_aI] at g
    by_cases e : b = a
    · rw [s1_mail w a b (Or.inl e), s1_not, if_pos e, if_pos e]
      exact ⟨rfl, rfl⟩
    · rw [if_neg e] at g
      have hl : sLive w b = false := by
        unfold sLive
        simp [g]
      rw [s1_mail w a b (Or.inr hl), s1_not, if_neg e, if_neg e]
      exact t3 b hb g
/-! all below it -/
/-- less live, the rest as told -/
def Less (w w1 : Wst) : Prop := wN w1 = wN w ∧ (∀ b k, k ≠ 6 → aI (wA w1 b) k = aI (wA w b) k) ∧ ∀ b, sLive w1 b = true → sLive w b = true
theorem Less.refl {w : Wst} : Less w w := ⟨rfl, fun _ _ _ => rfl, fun _ h => h⟩
theorem Less.trans {w w1 w2 : Wst} (h : Less w w1) (k : Less w1 w2) : Less w w2 := ⟨k.1.trans h.1, fun b j hj => (k.2.1 b j hj).trans (h.2.1 b j hj), fun b hb => h.2.2 b (k.2.2 b hb)⟩
theorem s1_less (w : Wst) (a : Nat) : Less w (sStop1 w a) := by
  refine ⟨s1_n w a, fun b k hk => ?_, fun b hb => ?_⟩
  · rw [s1_aI]
    split
    · rename_i e
      rw [e]
      exact if_neg hk
    · rfl
  · rw [s1_live] at hb
    simp at hb
    exact hb.1
theorem Less.lc {w w1 : Wst} (h : Less w w1) {c a : Nat} (hl : sLC w c a = false) : sLC w1 c a = false := by
  unfold sLC at hl ⊢
  rw [h.2.1 c 0 (by decide)]
  cases e : sLive w1 c with
  | false => rfl
  | true =>
    rw [h.2.2 c e] at hl
    exact hl
/-- what a stop of a owes -/
def StopOK (f : Wst → Nat → Wst) (lo : Nat) : Prop := ∀ (w : Wst) (a : Nat), lo ≤ a → a < wN w → Inv w → Tree w → sLive w a = true → Inv (f w a) ∧ Tree (f w a) ∧ Less w (f w a) ∧ (∀ b, b < a → sLive (f w a) b = sLive w b) ∧ sLive (f w a) a = false
theorem kids_ok {f : Wst → Nat → Wst} {a : Nat} (hf : StopOK f (a + 1)) : ∀ (c : Nat) (w : Wst), c ≤ wN w → Inv w → Tree w → Inv (sKids f a c w) ∧ Tree (sKids f a c w) ∧ Less w (sKids f a c w) ∧ (∀ b, b ≤ a → sLive (sKids f a c w) b = sLive w b) ∧ ∀ d, a < d → d < c → sLC (sKids f a c w) d a = false
  | 0, w, _, hI, hT => ⟨hI, hT, Less.refl, fun _ _ => rfl, fun d _ h => absurd h (Nat.not_lt_zero _)⟩
  | c + 1, w, hc, hI, hT => by
    show Inv (sKids f a c (if a < c ∧ sLC w c a = true then f w c else w)) ∧ Tree (sKids f a c (if a < c ∧ sLC w c a = true then f w c else w)) ∧ Less w (sKids f a c (if a < c ∧ sLC w c a = true then f w c else w)) ∧ (∀ b, b ≤ a → sLive (sKids f a c (if a < c ∧ sLC w c a = true then f w c else w)) b = sLive w b) ∧ ∀ d, a < d → d < c + 1 → sLC (sKids f a c (if a < c ∧ sLC w c a = true then f w c else w)) d a = false
    by_cases e : a < c ∧ sLC w c a = true
    · rw [if_pos e]
      obtain ⟨p1, p2, p3, p4, p5⟩ := hf w c (by omega) (by omega) hI hT (sLC_of e.2).1
      obtain ⟨q1, q2, q3, q4, q5⟩ := kids_ok hf c (f w c) (by rw [p3.1]; omega) p1 p2
      refine ⟨q1, q2, p3.trans q3, fun b hb => (q4 b hb).trans (p4 b (by omega)), fun d h1 h2 => ?_⟩
      by_cases e2 : d = c
      · subst e2
        refine q3.lc ?_
        unfold sLC
        rw [p5]
        rfl
      · exact q5 d h1 (by omega)
    · rw [if_neg e]
      obtain ⟨q1, q2, q3, q4, q5⟩ := kids_ok hf c w (by omega) hI hT
      refine ⟨q1, q2, q3, q4, fun d h1 h2 => ?_⟩
      by_cases e2 : d = c
      · subst e2
        refine q3.lc ?_
        cases e3 : sLC w d a with
        | false => rfl
        | true => exact absurd ⟨h1, e3⟩ e
      · exact q5 d h1 (by omega)
theorem no_kid {w : Wst} {a : Nat} (ha : a < 12) (hI : Inv w) (h : ∀ d, a < d → d < wN w → sLC w d a = false) : ∀ c, c < wN w → sLC w c a = false := fun c hc => by
  by_cases e : a < c
  · exact h c e hc
  · cases e3 : sLC w c a with
    | false => rfl
    | true =>
      have h12 := hI.1
      have g := (sLC_of e3).2
      rcases (hI.2.1 c hc).1 with q | q
      · rw [g] at q
        have := congrArg Int32.toInt q.2
        rw [n_int (by omega)] at this
        have e1 : (-1 : Int32).toInt = -1 := by decide
        omega
      · obtain ⟨k, k1, k2⟩ := q
        rw [g, n_inj (by omega) (by omega)] at k2
        omega
theorem stop_ok : ∀ (n lo : Nat), 12 ≤ n + lo → StopOK (sStop n) lo
  | 0, lo, h, w, a, h1, h2, hI, _, _ => by
    have := hI.1
    omega
  | n + 1, lo, h, w, a, h1, h2, hI, hT, hl => by
    obtain ⟨q1, q2, q3, q4, q5⟩ := kids_ok (stop_ok n (a + 1) (by omega)) (wN w) w (Nat.le_refl _) hI hT
    have ha : a < wN (sKids (sStop n) a (wN w) w) := by rw [q3.1]; exact h2
    have hk := no_kid (by have := hI.1; omega) q1 (fun d g1 g2 => q5 d g1 (by rw [← q3.1]; exact g2))
    refine ⟨sStop1_inv q1 ha, s1_tree q1 q2 ha hk, q3.trans (s1_less _ a), fun b hb => ?_, ?_⟩
    · show sLive (sStop1 (sKids (sStop n) a (wN w) w) a) b = _
      rw [s1_live, q4 b (by omega)]
      have : b ≠ a := by omega
      simp [this]
    · show sLive (sStop1 (sKids (sStop n) a (wN w) w) a) a = _
      rw [s1_live]
      simp
