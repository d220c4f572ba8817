/-! 53: calls in thought -/
/-- the log, and all whole numbers but the letters, stay -/
def FX (w w1 : Wst) : Prop := wL w1 = wL w ∧ ∀ k, k ≠ 8 → wI w1 k = wI w k
theorem FX.refl (w : Wst) : FX w w := ⟨rfl, fun _ _ => rfl⟩
theorem FX.trans {w w1 w2 : Wst} (h : FX w w1) (k : FX w1 w2) : FX w w2 := ⟨k.1.trans h.1, fun j hj => (k.2 j hj).trans (h.2 j hj)⟩
theorem Kp.fx {w w1 : Wst} (h : Kp w w1) : FX w w1 := ⟨h.2.2.2.1, h.2.2.2.2.2⟩
theorem s1_fx (w : Wst) (a : Nat) : FX w (sStop1 w a) := by
  have h := (s1_pre w a).fx
  exact h
theorem stop_fx (n : Nat) (w : Wst) (a : Nat) : FX w (sStop n w a) := stop_rel FX.refl FX.trans s1_fx n w a
theorem back_fx (w : Wst) (a : Nat) : FX w (sBack w a) := ⟨rfl, fun k hk => by
  show upd (wI w) 8 _ k = _
  exact upd_n hk⟩
theorem restart_fx (w : Wst) (a : Nat) : FX w (sRestart w a) := by
  have h1 : FX w (rsW w a) := kids_rel FX.refl FX.trans (stop_fx 12) a (wN w) w
  have h2 : FX (rsW w a) (sRestart w a) := by
    have h3 := back_fx (sForget (wSA (rsW w a) a (aSI (wA (rsW w a) a) 5 0)) a) a
    exact h3
  exact h1.trans h2
theorem rests_fx (t : Nat) : ∀ (k c : Nat) (w : Wst) (q : Int32), FX w (sRests t k c w q).1
  | 0, _, w, _ => FX.refl w
  | k + 1, c, w, q => by
    show FX w (if sWith w t c = true then sRests t k (c + 1) (sRestart w c) (q ||| (1 <<< (Int32.ofNat c &&& 31))) else sRests t k (c + 1) w q).1
    split
    · exact (restart_fx w c).trans (rests_fx t k (c + 1) _ _)
    · exact rests_fx t k (c + 1) w q
theorem climb_fx : ∀ (m : Nat) (w : Wst) (l : List Msg) (t : Nat), FX w (sClimb m w l t).1 ∧ (l ≠ [] → (sClimb m w l t).2.1 ≠ [])
  | 0, w, _, _ => ⟨FX.refl w, fun h => h⟩
  | m + 1, w, l, t => by
    have hs : sClimb (m + 1) w l t = if t = 0 then (w, l, t) else if sOver w (par w t) = true then sClimb m (sNote w (par w t)) (l ++ [(Int32.ofNat (par w t), 9)]) (par w t) else (sNote w (par w t), l, t) := rfl
    have hn : FX w (sNote w (par w t)) := ⟨rfl, fun _ _ => rfl⟩
    rw [hs]
    split
    · exact ⟨FX.refl w, fun h => h⟩
    split
    · obtain ⟨q1, q2⟩ := climb_fx m (sNote w (par w t)) (l ++ [(Int32.ofNat (par w t), 9)]) (par w t)
      exact ⟨hn.trans q1, fun _ => q2 (by simp)⟩
    · exact ⟨hn, fun h => h⟩
theorem fail_fx (w : Wst) (a : Nat) (why q : Int32) : FX w (sFail w a why q).1 := by
  have hc := (climb_fx 12 w [(Int32.ofNat a, why)] a).1
  unfold sFail
  dsimp only
  split
  · exact hc.trans (stop_fx 12 (wSC _ _) 0)
  · exact hc.trans (rests_fx _ _ _ (wSC _ _) _)
theorem watch_fx (w : Wst) (a : Nat) (n : Int32) : FX w (sWatch w a n) := by
  unfold sWatch
  dsimp only
  split
  · exact FX.refl w
  split
  · split
    · exact FX.refl w
    · exact ⟨rfl, fun _ _ => rfl⟩
  · exact (sSend_kp ..).fx
theorem delay_fx (w : Wst) (a : Nat) (n : Int32) : FX w (sDelay w a n) := by
  unfold sDelay
  split
  · exact ⟨rfl, fun _ _ => rfl⟩
  · exact FX.refl w
theorem deal_fx (w : Wst) (a : Nat) (f b : Int32) : FX w (sDeal w a f b).1 := by
  unfold sDeal
  dsimp only
  split
  · split
    · exact FX.refl w
    · exact ⟨rfl, fun _ _ => rfl⟩
  split
  · exact ⟨rfl, fun _ _ => rfl⟩
  split
  · exact (sPass_kp a b false (wN w) 0 w).fx
  split
  · show FX w (if 0 < b ∧ 0 ≤ f then sSend w (nu f) (Int32.ofNat a, b - 1) else w)
    split
    · exact (sSend_kp w (nu f) (Int32.ofNat a, b - 1)).fx
    · exact FX.refl w
  split
  · split
    · exact back_fx w a
    · split
      · exact FX.refl w
      · exact ⟨rfl, fun _ _ => rfl⟩
  split
  · split
    · exact ⟨rfl, fun _ _ => rfl⟩
    · split
      · exact FX.refl w
      · exact ⟨rfl, fun _ _ => rfl⟩
  split
  · split
    · exact FX.refl w
    · exact ⟨rfl, fun _ _ => rfl⟩
  split
  · exact delay_fx w a b
  split
  · exact (sPass_kp a b true (wN w) 0 w).fx
  split
  · exact watch_fx w a b
  · exact stop_fx 12 w a
/-- causes stay -/
theorem s1_cau (w : Wst) (a : Nat) : wC (sStop1 w a) = wC w := by
  have h := (s1_pre w a).2.2.2.2.1
  exact h
theorem stop_cau (n : Nat) (w : Wst) (a : Nat) : wC (sStop n w a) = wC w := stop_rel (P := fun w w1 => wC w1 = wC w) (fun _ => rfl) (fun h k => k.trans h) s1_cau n w a
theorem rests_cau (t : Nat) : ∀ (k c : Nat) (w : Wst) (q : Int32), wC (sRests t k c w q).1 = wC w
  | 0, _, _, _ => rfl
  | k + 1, c, w, q => by
    show wC (if sWith w t c = true then sRests t k (c + 1) (sRestart w c) (q ||| (1 <<< (Int32.ofNat c &&& 31))) else sRests t k (c + 1) w q).1 = wC w
    have h1 : wC (rsW w c) = wC w := kids_rel (P := fun w w1 => wC w1 = wC w) (fun _ => rfl) (fun h k => k.trans h) (stop_cau 12) c (wN w) w
    have h2 : wC (sRestart w c) = wC (rsW w c) := rfl
    split
    · exact (rests_cau t k (c + 1) _ _).trans (h2.trans h1)
    · exact rests_cau t k (c + 1) w q
theorem fail_cau (w : Wst) (a : Nat) (why q : Int32) : wC (sFail w a why q).1 ≠ [] := by
  have hc := (climb_fx 12 w [(Int32.ofNat a, why)] a).2 (by simp)
  unfold sFail
  dsimp only
  split
  · rw [stop_cau]
    exact hc
  · rw [rests_cau]
    exact hc
theorem how_iff {w : Wst} (hg : Good w) : sHow w = 0 ↔ sHas w = true := by
  refine ⟨how_has, fun h => ?_⟩
  unfold sHow
  by_cases e : 0 < wN w ∧ sLive w 0 = false
  · exfalso
    have dead : ∀ b, ¬ sLive w b = true := fun b q => by
      rw [root_live hg.1 hg.2.1 q] at e
      exact absurd e.2 (by decide)
    unfold sHas at h
    cases hd : sDealer w with
    | some a => exact dead a (dealer_some hd).1
    | none =>
      rw [hd] at h
      cases ht : wT w with
      | nil =>
        rw [ht] at h
        exact absurd h (by decide)
      | cons t l => exact dead _ (hg.2.1.2.1 t (by rw [ht]; exact List.mem_cons_self))
  · rw [if_neg e, if_pos h]
section
variable {S : Mem} {w : Wst} {ik : Option Wst} {bl : List Int32} {hd : Nat → Hd}
theorem think_only {S1 : Mem} (h : Only (inW 169) S S1) : fr S S1 ∧ ∀ b, inW 1 b → S1 b = S b := ⟨fr.of (Or.inr (Or.inl rfl)) h, fun b q => h b fun p => by
  have := q.2
  have := p.1
  omega⟩
theorem live_val {u : Wst} {a : Nat} (hI : Inv u) (ha : a < wN u) : aI (wA u a) 6 = if sLive u a = true then 1 else 0 := by
  by_cases e : sLive u a = true
  · rw [if_pos e]
    exact (sLive_lt e).2
  · rw [if_neg e]
    exact (hI.b ha).resolve_right fun q => e (sLive_of ha q)
end
