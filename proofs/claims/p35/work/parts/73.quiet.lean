/-! 73: a step is the same however it stood noted; quiet and run -/
theorem cI {w : Wst} {k : Nat} {x v : Int32} (hk : k ≠ 10) : wSI (wSI w 10 v) k x = wSI (wSI w k x) 10 v := by
  have hf : upd (upd (wI w) 10 v) k x = upd (upd (wI w) k x) 10 v := by
    funext j
    show (if j = k then x else if j = 10 then v else wI w j) = if j = 10 then v else if j = k then x else wI w j
    by_cases a : j = k
    · rw [if_pos a, if_neg (show ¬ j = 10 by omega), if_pos a]
    · by_cases b : j = 10
      · rw [if_neg a, if_pos b, if_pos b]
      · rw [if_neg a, if_neg b, if_neg b, if_neg a]
  show (wN w, upd (upd (wI w) 10 v) k x, wA w, wT w, wL w, wC w) = (wN w, upd (upd (wI w) k x) 10 v, wA w, wT w, wL w, wC w)
  rw [hf]
theorem i10 (w : Wst) (v : Int32) : wI (wSI w 10 v) 10 = v := by
  show (if (10 : Nat) = 10 then v else wI w 10) = v
  exact if_pos rfl
theorem c_send (w : Wst) (v : Int32) (to : Nat) (m : Msg) : sSend (wSI w 10 v) to m = wSI (sSend w to m) 10 v := by
  unfold sSend
  by_cases e : sLive w to = true ∧ (aMail (wA w to)).length < 12
  · rw [if_pos e]
    exact if_pos e
  · rw [if_neg e]
    exact (if_neg e).trans (cI (w := w) (k := 8) (by decide))
theorem c_tell (a : Nat) (v : Int32) : ∀ (l : List Int32) (w : Wst), sTell (wSI w 10 v) a l = wSI (sTell w a l) 10 v
  | [], _ => rfl
  | q :: l, w => by
    show sTell (sSend (wSI w 10 v) (nu q) (-1, 200 + Int32.ofNat a)) a l = wSI (sTell (sSend w (nu q) (-1, 200 + Int32.ofNat a)) a l) 10 v
    rw [c_send, c_tell a v l]
theorem c_stop1 (w : Wst) (v : Int32) (a : Nat) : sStop1 (wSI w 10 v) a = wSI (sStop1 w a) 10 v := by
  have e : ∀ W2 : Wst, wSA (sTell (wSI W2 10 v) a (aWat (wA W2 a))) a (aSWat (wA (sTell (wSI W2 10 v) a (aWat (wA W2 a))) a) []) = wSI (wSA (sTell W2 a (aWat (wA W2 a))) a (aSWat (wA (sTell W2 a (aWat (wA W2 a))) a) [])) 10 v := fun W2 => by
    rw [c_tell]
    rfl
  exact e (sUnwatch (sForget (wSA w a (aSStash (aSMail (aSI (wA w a) 6 0) []) [])) a) a)
theorem c_kids {f : Wst → Nat → Wst} {a : Nat} {v : Int32} (hf : ∀ w c, f (wSI w 10 v) c = wSI (f w c) 10 v) : ∀ (c : Nat) (w : Wst), sKids f a c (wSI w 10 v) = wSI (sKids f a c w) 10 v
  | 0, _ => rfl
  | c + 1, w => by
    show sKids f a c (if a < c ∧ sLC w c a = true then f (wSI w 10 v) c else wSI w 10 v) = wSI (sKids f a c (if a < c ∧ sLC w c a = true then f w c else w)) 10 v
    by_cases e : a < c ∧ sLC w c a = true
    · rw [if_pos e, if_pos e, hf, c_kids hf c]
    · rw [if_neg e, if_neg e, c_kids hf c]
theorem c_stop (v : Int32) : ∀ (n : Nat) (w : Wst) (a : Nat), sStop n (wSI w 10 v) a = wSI (sStop n w a) 10 v
  | 0, _, _ => rfl
  | n + 1, w, a => by
    show sStop1 (sKids (sStop n) a (wN w) (wSI w 10 v)) a = wSI (sStop1 (sKids (sStop n) a (wN w) w) a) 10 v
    rw [c_kids (fun w c => c_stop v n w c), c_stop1]
theorem c_back (w : Wst) (v : Int32) (a : Nat) : sBack (wSI w 10 v) a = wSI (sBack w a) 10 v := cI (w := wSA w a (aSStash (aSMail (wA w a) ((aStash (wA w a)).take (min (aStash (wA w a)).length (12 - (aMail (wA w a)).length)) ++ aMail (wA w a))) [])) (k := 8) (by decide)
theorem c_restart (w : Wst) (v : Int32) (a : Nat) : sRestart (wSI w 10 v) a = wSI (sRestart w a) 10 v := by
  have hk : rsW (wSI w 10 v) a = wSI (rsW w a) 10 v := c_kids (fun w c => c_stop v 12 w c) (wN w) w
  rw [rs_eq, rs_eq, hk]
  exact c_back (sForget (wSA (rsW w a) a (aSI (wA (rsW w a) a) 5 0)) a) v a
theorem c_pass (a : Nat) (n : Int32) (all : Bool) (v : Int32) : ∀ (k c : Nat) (w : Wst), sPass a n all k c (wSI w 10 v) = wSI (sPass a n all k c w) 10 v
  | 0, _, _ => rfl
  | k + 1, c, w => by
    show (if sLC w c a = true then (if all = true then sPass a n all k (c + 1) (sSend (wSI w 10 v) c (Int32.ofNat a, n)) else sSend (wSI w 10 v) c (Int32.ofNat a, n)) else sPass a n all k (c + 1) (wSI w 10 v)) = wSI (if sLC w c a = true then (if all = true then sPass a n all k (c + 1) (sSend w c (Int32.ofNat a, n)) else sSend w c (Int32.ofNat a, n)) else sPass a n all k (c + 1) w) 10 v
    by_cases e1 : sLC w c a = true
    · rw [if_pos e1, if_pos e1, c_send]
      by_cases e2 : all = true
      · rw [if_pos e2, if_pos e2, c_pass a n all v k (c + 1) (sSend w c (Int32.ofNat a, n))]
      · rw [if_neg e2, if_neg e2]
    · rw [if_neg e1, if_neg e1, c_pass a n all v k (c + 1) w]
theorem c_watch (w : Wst) (v : Int32) (a : Nat) (n : Int32) : sWatch (wSI w 10 v) a n = wSI (sWatch w a n) 10 v := by
  have hs : ∀ u : Wst, sWatch u a n = if sNamed u n = a then u else if sLive u (sNamed u n) = true then (if Int32.ofNat a ∈ aWat (wA u (sNamed u n)) then u else wSA u (sNamed u n) (aSWat (wA u (sNamed u n)) (aWat (wA u (sNamed u n)) ++ [Int32.ofNat a]))) else sSend u a (Int32.ofNat a, 200 + Int32.ofNat (sNamed u n)) := fun _ => rfl
  rw [hs w, hs (wSI w 10 v)]
  by_cases e1 : sNamed w n = a
  · rw [if_pos e1]
    exact if_pos e1
  · rw [if_neg e1]
    refine (if_neg e1).trans ?_
    by_cases e2 : sLive w (sNamed w n) = true
    · rw [if_pos e2]
      refine (if_pos e2).trans ?_
      by_cases e3 : Int32.ofNat a ∈ aWat (wA w (sNamed w n))
      · rw [if_pos e3]
        exact if_pos e3
      · rw [if_neg e3]
        exact if_neg e3
    · rw [if_neg e2]
      exact (if_neg e2).trans (c_send w v a (Int32.ofNat a, 200 + Int32.ofNat (sNamed w n)))
theorem c_delay (w : Wst) (v : Int32) (a : Nat) (n : Int32) : sDelay (wSI w 10 v) a n = wSI (sDelay w a n) 10 v := by
  unfold sDelay
  by_cases e : 0 < n ∧ (wT w).length < 10
  · rw [if_pos e]
    exact if_pos e
  · rw [if_neg e]
    exact if_neg e
theorem c_if {c d : Prop} [Decidable c] [Decidable d] {A B A' B' : Wst × Int32} {v : Int32} (h1 : A' = (wSI A.1 10 v, A.2)) (h2 : B' = (wSI B.1 10 v, B.2)) (hcd : c ↔ d) : (if c then A' else B') = (wSI (if d then A else B).1 10 v, (if d then A else B).2) := by
  by_cases e : d
  · rw [if_pos e, if_pos (hcd.mpr e)]
    exact h1
  · rw [if_neg e, if_neg fun q => e (hcd.mp q)]
    exact h2
theorem c_ifw {c d : Prop} [Decidable c] [Decidable d] {A B A' B' : Wst} {v : Int32} (h1 : A' = wSI A 10 v) (h2 : B' = wSI B 10 v) (hcd : c ↔ d) : (if c then A' else B') = wSI (if d then A else B) 10 v := by
  by_cases e : d
  · rw [if_pos e, if_pos (hcd.mpr e)]
    exact h1
  · rw [if_neg e, if_neg fun q => e (hcd.mp q)]
    exact h2
theorem c_p0 {A B : Wst} {v : Int32} (h : B = wSI A 10 v) (y : Int32) : (B, y) = (wSI (A, y).1 10 v, (A, y).2) := by
  rw [h]
theorem c_deal (w : Wst) (v : Int32) (a : Nat) (f b : Int32) : sDeal (wSI w 10 v) a f b = (wSI (sDeal w a f b).1 10 v, (sDeal w a f b).2) := by
  unfold sDeal
  dsimp only
  refine c_if (c_if rfl rfl ?_) (c_if rfl (c_if ?_ (c_if ?_ (c_if (c_if ?_ (c_if rfl rfl ?_) ?_) (c_if (c_if rfl (c_if rfl rfl ?_) ?_) (c_if (c_if rfl rfl ?_) (c_if ?_ (c_if ?_ (c_if ?_ ?_ ?_) ?_) ?_) ?_) ?_) ?_) ?_) ?_) ?_) ?_
  all_goals first
    | exact Iff.rfl
    | exact c_p0 (c_pass _ _ _ _ _ _ _) _
    | exact c_p0 (c_ifw (c_send _ _ _ _) rfl Iff.rfl) _
    | exact c_p0 (c_back _ _ _) _
    | exact c_p0 (c_delay _ _ _ _) _
    | exact c_p0 (c_watch _ _ _ _) _
    | exact c_p0 (c_stop _ _ _ _) _
theorem c_note (w : Wst) (v : Int32) (p : Nat) : sNote (wSI w 10 v) p = wSI (sNote w p) 10 v := rfl
theorem c_climb (v : Int32) : ∀ (m : Nat) (w : Wst) (l : List Msg) (t : Nat), sClimb m (wSI w 10 v) l t = (wSI (sClimb m w l t).1 10 v, (sClimb m w l t).2)
  | 0, _, _, _ => rfl
  | m + 1, w, l, t => by
    have hs : ∀ u : Wst, sClimb (m + 1) u l t = if t = 0 then (u, l, t) else if sOver u (par u t) = true then sClimb m (sNote u (par u t)) (l ++ [(Int32.ofNat (par u t), 9)]) (par u t) else (sNote u (par u t), l, t) := fun _ => rfl
    rw [hs w, hs (wSI w 10 v)]
    by_cases e1 : t = 0
    · rw [if_pos e1, if_pos e1]
    · rw [if_neg e1, if_neg e1]
      by_cases e : sOver w (par w t) = true
      · rw [if_pos e]
        refine (if_pos e).trans ?_
        exact c_climb v m (sNote w (par w t)) (l ++ [(Int32.ofNat (par w t), 9)]) (par w t)
      · rw [if_neg e]
        exact if_neg e
theorem c_rests (t : Nat) (v : Int32) : ∀ (k c : Nat) (w : Wst) (q : Int32), sRests t k c (wSI w 10 v) q = (wSI (sRests t k c w q).1 10 v, (sRests t k c w q).2)
  | 0, _, _, _ => rfl
  | k + 1, c, w, q => by
    have hs : ∀ u : Wst, sRests t (k + 1) c u q = if sWith u t c = true then sRests t k (c + 1) (sRestart u c) (q ||| (1 <<< (Int32.ofNat c &&& 31))) else sRests t k (c + 1) u q := fun _ => rfl
    rw [hs w, hs (wSI w 10 v)]
    by_cases e : sWith w t c = true
    · rw [if_pos e]
      refine (if_pos e).trans ?_
      rw [c_restart]
      exact c_rests t v k (c + 1) (sRestart w c) _
    · rw [if_neg e]
      exact (if_neg e).trans (c_rests t v k (c + 1) w q)
theorem c_fail (w : Wst) (v : Int32) (a : Nat) (why q : Int32) : sFail (wSI w 10 v) a why q = (wSI (sFail w a why q).1 10 v, (sFail w a why q).2) := by
  have hs : ∀ u : Wst, sFail u a why q = if (sClimb 12 u [(Int32.ofNat a, why)] a).2.2 = 0 then (sStop 12 (wSC (sClimb 12 u [(Int32.ofNat a, why)] a).1 (sClimb 12 u [(Int32.ofNat a, why)] a).2.1) 0, q) else sRests (sClimb 12 u [(Int32.ofNat a, why)] a).2.2 (wN (wSC (sClimb 12 u [(Int32.ofNat a, why)] a).1 (sClimb 12 u [(Int32.ofNat a, why)] a).2.1)) 0 (wSC (sClimb 12 u [(Int32.ofNat a, why)] a).1 (sClimb 12 u [(Int32.ofNat a, why)] a).2.1) q := fun _ => rfl
  rw [hs w, hs (wSI w 10 v), c_climb]
  generalize sClimb 12 w [(Int32.ofNat a, why)] a = r
  obtain ⟨u, l, t⟩ := r
  show (if t = 0 then (sStop 12 (wSI (wSC u l) 10 v) 0, q) else sRests t (wN u) 0 (wSI (wSC u l) 10 v) q) = (wSI (if t = 0 then (sStop 12 (wSC u l) 0, q) else sRests t (wN u) 0 (wSC u l) q).1 10 v, (if t = 0 then (sStop 12 (wSC u l) 0, q) else sRests t (wN u) 0 (wSC u l) q).2)
  by_cases e : t = 0
  · rw [if_pos e, if_pos e, c_stop]
  · rw [if_neg e, if_neg e, c_rests]
theorem c_next (w : Wst) (v : Int32) : ∀ m k, sNext (wSI w 10 v) m k = sNext w m k
  | 0, _ => rfl
  | m + 1, k => by
    have hs : ∀ u : Wst, sNext u (m + 1) k = if sLive u (nu (sNextK u k)) = true ∧ 0 < (aMail (wA u (nu (sNextK u k)))).length then some (nu (sNextK u k)) else sNext u m (k + 1) := fun _ => rfl
    rw [hs w, hs (wSI w 10 v), c_next w v m (k + 1)]
    rfl
theorem c_dealer (w : Wst) (v : Int32) : sDealer (wSI w 10 v) = sDealer w := c_next w v 12 1
theorem c_has (w : Wst) (v : Int32) : sHas (wSI w 10 v) = sHas w := by
  unfold sHas
  rw [c_dealer]
  rfl
theorem c_how (w : Wst) (v : Int32) : sHow (wSI w 10 v) = sHow w := by
  unfold sHow
  rw [c_has]
  rfl
theorem c_take (w : Wst) (v : Int32) (a : Nat) (m : Msg) : sTake (wSI w 10 v) a m = wSI (sTake w a m) 10 v := by
  have e : wSI (wSI (wSI (wSA w a (aSMail (wA w a) (aMail (wA w a)).tail)) 10 v) 5 (Int32.ofNat a)) 7 (wI w 7 + 1) = wSI (wSI (wSI (wSA w a (aSMail (wA w a) (aMail (wA w a)).tail)) 5 (Int32.ofNat a)) 7 (wI w 7 + 1)) 10 v := by
    rw [cI (k := 5) (by decide), cI (k := 7) (by decide)]
  exact congrArg (fun u => wSL u ((if (wL w).length = 30 then (wL w).tail else wL w) ++ [(Int32.ofNat a, m.2)])) e
theorem c_dealt (w : Wst) (v : Int32) (a : Nat) (m : Msg) : dealt (wSI w 10 v) a m = (wSI (dealt w a m).1 10 v, (dealt w a m).2) := by
  unfold dealt
  rw [c_take, c_deal]
theorem c_step (w : Wst) (v : Int32) : (sStep (wSI w 10 v) 0).1 = wSI (sStep w 0).1 10 v := by
  cases hd : sDealer w with
  | some a =>
    have hd2 : sDealer (wSI w 10 v) = some a := (c_dealer w v).trans hd
    obtain ⟨-, hm⟩ := dealer_some hd
    cases hml : aMail (wA w a) with
    | nil => rw [hml] at hm; exact absurd hm (by decide)
    | cons m l =>
      have hml2 : aMail (wA (wSI w 10 v) a) = m :: l := hml
      rw [step_some hd hml, step_some hd2 hml2, c_dealt]
      generalize dealt w a m = r
      obtain ⟨u, y⟩ := r
      show (if y = 0 then (wSI u 10 v, false, (0 : Int32)) else ((sFail (wSI u 10 v) a y 0).1, true, (sFail (wSI u 10 v) a y 0).2)).1 = wSI (if y = 0 then (u, false, (0 : Int32)) else ((sFail u a y 0).1, true, (sFail u a y 0).2)).1 10 v
      by_cases e : y = 0
      · rw [if_pos e, if_pos e]
      · rw [if_neg e, if_neg e, c_fail]
  | none =>
    have hd2 : sDealer (wSI w 10 v) = none := (c_dealer w v).trans hd
    cases ht : wT w with
    | nil =>
      have ht2 : wT (wSI w 10 v) = [] := ht
      rw [step_nil hd ht, step_nil hd2 ht2]
    | cons t l =>
      have ht2 : wT (wSI w 10 v) = t :: l := ht
      rw [step_cons hd ht, step_cons hd2 ht2]
      show sSend (wST (wSI (wSI w 10 v) 6 t.2.1) l) (nu t.1) (-1, t.2.2) = _
      rw [cI (k := 6) (by decide)]
      exact c_send (wST (wSI w 6 t.2.1) l) v (nu t.1) (-1, t.2.2)
theorem c_qui (v : Int32) : ∀ (k i : Nat) (w : Wst), sQui k i (wSI w 10 v) = sQui k i w
  | 0, i, w => by
    show (if sHas (wSI w 10 v) = true then -2 else Int32.ofNat i) = if sHas w = true then -2 else Int32.ofNat i
    rw [c_has]
  | k + 1, i, w => by
    show (if sHas (wSI w 10 v) = true then sQui k (i + 1) (sStep (wSI w 10 v) 0).1 else Int32.ofNat i) = if sHas w = true then sQui k (i + 1) (sStep w 0).1 else Int32.ofNat i
    rw [c_has, c_step, c_qui v k]
theorem qui_lb : ∀ (k i : Nat) (w : Wst), sQui k i w = -2 ∨ ∃ s, s ≤ k ∧ sQui k i w = Int32.ofNat (i + s)
  | 0, i, w => by
    by_cases e : sHas w = true
    · exact Or.inl (if_pos e)
    · exact Or.inr ⟨0, Nat.le_refl _, if_neg e⟩
  | k + 1, i, w => by
    by_cases e : sHas w = true
    · have e2 : sQui (k + 1) i w = sQui k (i + 1) (sStep w 0).1 := if_pos e
      rcases qui_lb k (i + 1) (sStep w 0).1 with q | ⟨s, s1, s2⟩
      · exact Or.inl (e2.trans q)
      · exact Or.inr ⟨s + 1, by omega, by rw [e2, s2, show i + 1 + s = i + (s + 1) by omega]⟩
    · exact Or.inr ⟨0, Nat.zero_le _, if_neg e⟩
theorem qs_end {k i : Nat} {w : Wst} (hg : Good w) (hh : wI w 10 = sHow w) (h1 : wI w 10 = 1) : sQui k i w = Int32.ofNat i := by
  have hn : ¬ sHas w = true := fun g => by
    rw [hh, (how_iff hg).mpr g] at h1
    exact absurd h1 (by decide)
  cases k with
  | zero => exact if_neg hn
  | succ k => exact if_neg hn
theorem qs : ∀ (j k i : Nat) (w : Wst), j < k → Good w → wI w 10 = sHow w → (sSteps j w).2 ≤ j ∧ (wI (sSteps j w).1 10 = 1 → sQui k i w = Int32.ofNat (i + (sSteps j w).2)) ∧ (wI (sSteps j w).1 10 = 0 → sQui k i w = -2 ∨ ∃ s, (sSteps j w).2 < s ∧ s ≤ k ∧ sQui k i w = Int32.ofNat (i + s))
  | _, 0, _, _, h, _, _ => absurd h (Nat.not_lt_zero _)
  | 0, k + 1, i, w, _, hg, hh => by
    refine ⟨Nat.le_refl _, fun h1 => qs_end hg hh h1, fun h0 => ?_⟩
    have hy : sHas w = true := (how_iff hg).mp (hh.symm.trans h0)
    have e : sQui (k + 1) i w = sQui k (i + 1) (sStep w 0).1 := if_pos hy
    rcases qui_lb k (i + 1) (sStep w 0).1 with q | ⟨s, s1, s2⟩
    · exact Or.inl (e.trans q)
    · exact Or.inr ⟨s + 1, Nat.succ_pos _, by omega, by rw [e, s2, show i + 1 + s = i + (s + 1) by omega]⟩
  | j + 1, k + 1, i, w, hj, hg, hh => by
    have hs : sSteps (j + 1) w = if wI w 10 = 0 then ((sSteps j (wSI (sStep w 0).1 10 (sHow (sStep w 0).1))).1, (sSteps j (wSI (sStep w 0).1 10 (sHow (sStep w 0).1))).2 + 1) else (w, 0) := rfl
    by_cases z : wI w 10 = 0
    · have hy : sHas w = true := (how_iff hg).mp (hh.symm.trans z)
      have e : sQui (k + 1) i w = sQui k (i + 1) (wSI (sStep w 0).1 10 (sHow (sStep w 0).1)) := (show sQui (k + 1) i w = sQui k (i + 1) (sStep w 0).1 from if_pos hy).trans (c_qui _ k (i + 1) _).symm
      have hh2 : wI (wSI (sStep w 0).1 10 (sHow (sStep w 0).1)) 10 = sHow (wSI (sStep w 0).1 10 (sHow (sStep w 0).1)) := by
        rw [c_how]
        exact i10 _ _
      obtain ⟨a1, a2, a3⟩ := qs j k (i + 1) _ (by omega) (Good.int8 (sStep_good hg) (by decide)) hh2
      rw [hs, if_pos z]
      generalize sSteps j (wSI (sStep w 0).1 10 (sHow (sStep w 0).1)) = r at *
      refine ⟨Nat.succ_le_succ a1, fun h1 => ?_, fun h0 => ?_⟩
      · rw [e, a2 h1, show i + 1 + r.2 = i + (r.2 + 1) by omega]
      · rcases a3 h0 with q | ⟨s, s1, s2, s3⟩
        · exact Or.inl (e.trans q)
        · exact Or.inr ⟨s + 1, Nat.succ_lt_succ s1, by omega, by rw [e, s3, show i + 1 + s = i + (s + 1) by omega]⟩
    · rw [hs, if_neg z]
      exact ⟨Nat.zero_le _, fun h1 => qs_end hg hh h1, fun h0 => absurd h0 z⟩
theorem qui_run {w : Wst} (hg : Good w) : (sRun w 50).2 ≤ 50 ∧ (wI (sRun w 50).1 10 = 1 → sQui 200 0 w = Int32.ofNat (sRun w 50).2) ∧ (wI (sRun w 50).1 10 = 0 → sQui 200 0 w = -2 ∨ ∃ s, (sRun w 50).2 < s ∧ s ≤ 200 ∧ sQui 200 0 w = Int32.ofNat s) := by
  have hh : wI (wSI w 10 (sHow w)) 10 = sHow (wSI w 10 (sHow w)) := by
    rw [c_how]
    exact i10 _ _
  obtain ⟨a1, a2, a3⟩ := qs 50 200 0 (wSI w 10 (sHow w)) (by decide) (Good.int8 hg (by decide)) hh
  rw [c_qui] at a2 a3
  refine ⟨a1, fun h => ?_, fun h => ?_⟩
  · rw [a2 h, Nat.zero_add]
    rfl
  · rcases a3 h with q | ⟨s, s1, s2, s3⟩
    · exact Or.inl q
    · exact Or.inr ⟨s, s1, s2, by rw [s3, Nat.zero_add]⟩
/-! the bits of the live ones -/
theorem tb_add {c m : Nat} (hm : m < 2 ^ c) (a : Nat) : (m + 2 ^ c).testBit a = if a = c then true else m.testBit a := by
  rw [Nat.add_comm]
  by_cases e : a = c
  · rw [if_pos e, e, Nat.testBit_two_pow_add_eq, Nat.testBit_lt_two_pow hm]
    rfl
  · rw [if_neg e]
    by_cases g : a < c
    · exact Nat.testBit_two_pow_add_gt g m
    · have h1 : 2 ^ (c + 1) ≤ 2 ^ a := Nat.pow_le_pow_right (by decide) (by omega)
      have h2 : 2 ^ (c + 1) = 2 ^ c + 2 ^ c := by rw [Nat.pow_succ]; omega
      rw [Nat.testBit_lt_two_pow (by omega), Nat.testBit_lt_two_pow (by omega)]
theorem sb_tb (p : Nat → Bool) : ∀ (k c m : Nat), m < 2 ^ c → c + k ≤ 12 → ∃ m', sBits p k c (Int32.ofNat m) = Int32.ofNat m' ∧ m' < 4096 ∧ ∀ a, m'.testBit a = if c ≤ a ∧ a < c + k then p a else m.testBit a
  | 0, c, m, hm, hc => ⟨m, rfl, Nat.lt_of_lt_of_le hm (Nat.pow_le_pow_right (by decide) hc), fun a => (if_neg (by omega)).symm⟩
  | k + 1, c, m, hm, hc => by
    show ∃ m', sBits p k (c + 1) (if p c = true then Int32.ofNat m ||| (1 <<< (Int32.ofNat c &&& 31)) else Int32.ofNat m ||| 0) = Int32.ofNat m' ∧ m' < 4096 ∧ ∀ a, m'.testBit a = if c ≤ a ∧ a < c + (k + 1) then p a else m.testBit a
    have h2 : 2 ^ (c + 1) = 2 ^ c + 2 ^ c := by rw [Nat.pow_succ]; omega
    by_cases e : p c = true
    · obtain ⟨m', q1, q2, q3⟩ := sb_tb p k (c + 1) (m + 2 ^ c) (by omega) (by omega)
      rw [if_pos e, (bc_step c (by omega) m hm).1]
      refine ⟨m', q1, q2, fun a => ?_⟩
      rw [q3 a, tb_add hm]
      by_cases g : a = c
      · rw [if_neg (by omega), if_pos g, if_pos (by omega), g, e]
      · rw [if_neg g]
        by_cases g2 : c + 1 ≤ a ∧ a < c + 1 + k
        · rw [if_pos g2, if_pos (by omega)]
        · rw [if_neg g2, if_neg (by omega)]
    · obtain ⟨m', q1, q2, q3⟩ := sb_tb p k (c + 1) m (by omega) (by omega)
      rw [if_neg e, Int32.or_zero]
      refine ⟨m', q1, q2, fun a => ?_⟩
      rw [q3 a]
      by_cases g : a = c
      · rw [if_neg (by omega), if_pos (by omega), g, Nat.testBit_lt_two_pow hm]
        exact (Bool.eq_false_iff.mpr e).symm
      · by_cases g2 : c + 1 ≤ a ∧ a < c + 1 + k
        · rw [if_pos g2, if_pos (by omega)]
        · rw [if_neg g2, if_neg (by omega)]
theorem sh_amt : ∀ a, a < 12 → ((Int32.ofNat a &&& 31).toBitVec.smod 32).toNat = a := by decide +kernel
theorem sh_nat {m a : Nat} (hm : m < 2 ^ 31) (ha : a < 12) : Int32.ofNat m >>> (Int32.ofNat a &&& 31) = Int32.ofNat (m / 2 ^ a) := by
  apply Int32.toInt_inj.mp
  have h2 : (Int32.ofNat m >>> (Int32.ofNat a &&& 31)).toInt = (Int32.ofNat m).toInt >>> ((Int32.ofNat a &&& 31).toBitVec.smod 32).toNat := BitVec.toInt_sshiftRight'
  rw [h2, sh_amt a ha, n_int hm, n_int (Nat.lt_of_le_of_lt (Nat.div_le_self _ _) hm), Int.shiftRight_eq_div_pow]
  rfl
theorem bit_at {m a : Nat} (ha : a < 12) (hm : m < 4096) : ((Int32.ofNat m >>> (Int32.ofNat a &&& 31)) &&& 1) = if m.testBit a = true then 1 else 0 := by
  have e : Int32.ofNat (m / 2 ^ a) &&& 1 = Int32.ofNat (m / 2 ^ a &&& 1) := and_n _ 1
  rw [sh_nat (by omega) ha, e, Nat.and_one_is_mod, Nat.testBit_eq_decide_div_mod_eq]
  by_cases h : m / 2 ^ a % 2 = 1
  · rw [h]
    exact (if_pos (by decide)).symm
  · have h0 : m / 2 ^ a % 2 = 0 := by omega
    rw [h0]
    exact (if_neg (by decide)).symm
theorem live_bit {w : Wst} (h12 : wN w ≤ 12) {a : Nat} (ha : a < wN w) : ((sBits (sLive w) (wN w) 0 0 >>> (Int32.ofNat a &&& 31)) &&& 1) = if sLive w a = true then 1 else 0 := by
  obtain ⟨m, q1, q2, q3⟩ := sb_tb (sLive w) (wN w) 0 0 (by decide) (by omega)
  have q4 : sBits (sLive w) (wN w) 0 0 = Int32.ofNat m := q1
  rw [q4, bit_at (by omega) q2, q3 a, if_pos (show 0 ≤ a ∧ a < 0 + wN w by omega)]
