/-! 26: the class: its own behaviour alone, the stash back, one stops -/
theorem a_keep_raw {S : Mem} {A : Nat} (h5 : ln (A + 1 + 1) = 5) : ∃ S1, fa_keepOwnOnly A S = some S1 ∧ RN S1 (A + 1) [S A 1] ∧ RN S1 (A + 11) [] ∧ Only (fun b => cN (A + 1) b ∨ b = A + 11) S S1 := by
  unfold fa_keepOwnOnly
  rw [obs]
  have e1 : up2 S (A + 1) 1 0 A 1 = S A 1 := up2_ne (by omega)
  have k1 : RN (up2 S (A + 1) 1 0) (A + 1) [] := RN.len0 up2_self
  obtain ⟨S2, g1, g2, g3⟩ := n_add_ok (S A 1) k1 (by rw [h5]; decide) (by rw [h5]; decide)
  rw [e1, g1, bd_some, obs]
  refine ⟨_, rfl, g2.congr (up2_off (by omega)) (up2_off (by omega)), RN.len0 up2_self, ?_⟩
  exact (((Only.refl.up (P := cN (A + 1)) (Or.inl rfl)).trans g3).mono fun b hb => Or.inl hb).up (Or.inr rfl)
theorem a_keep_ok {S : Mem} {A : Nat} {x : Act} (h : RA S A x) (h5 : ln (A + 1 + 1) = 5) : ∃ S1, fa_keepOwnOnly A S = some S1 ∧ RA S1 A (aKeep x) ∧ Only (inA A) S S1 := by
  obtain ⟨S1, g1, g2, g3, g4⟩ := a_keep_raw (S := S) h5
  rw [h.1 1 (by decide)] at g2
  have hc : ∀ b, b ≠ A + 1 → b ≠ A + 1 + 1 → b ≠ A + 11 → S1 b = S b := fun b q1 q2 q3 => g4 b fun q => by
    rcases q with (q | q) | q
    · exact q1 q
    · exact q2 q
    · exact q3 q
  obtain ⟨h1, h2, h3, h4, h5, h6⟩ := h
  refine ⟨S1, g1, ⟨fun k hk => by rw [hc A (by omega) (by omega) (by omega)]; exact h1 k hk, g2, h3.congr (hc _ (by omega) (by omega) (by omega)) (hc _ (by omega) (by omega) (by omega)) (hc _ (by omega) (by omega) (by omega)), h4.congr (hc _ (by omega) (by omega) (by omega)) (hc _ (by omega) (by omega) (by omega)) (hc _ (by omega) (by omega) (by omega)), h5.congr (hc _ (by omega) (by omega) (by omega)) (hc _ (by omega) (by omega) (by omega)), g3⟩, g4.mono fun b hb => ?_⟩
  rcases hb with (hb | hb) | hb <;> exact ⟨by omega, by omega⟩
theorem w_forget_ok {S : Mem} {W a : Nat} {w : Wst} (hW : IsW W) (h : RW S W w) (hn : wN w ≤ 12) (ha : a < wN w) (ht : (wT w).length ≤ 10) : ∃ S1 S2, fa_keepOwnOnly (W + 12 + 13 * a) S = some S1 ∧ fc_removeOf (W + 2) (Int32.ofNat a) S1 = some S2 ∧ RW S2 W (sForget w a) ∧ OW W S S2 := by
  obtain ⟨S1, g1, g2, g3⟩ := a_keep_ok (h.2.2.1 a ha) (lnA hW (by omega)).1
  have r1 := h.act g2 g3
  obtain ⟨S2, k1, k2, k3⟩ := c_removeOf_ok (Int32.ofNat a) (lnW hW).1 r1.2.2.2.1 ht
  exact ⟨S1, S2, g1, k1, r1.tim k2 k3, (OW.cell g3 (inA_W (by omega))).trans (OW.cell k3 cT_W)⟩
theorem w_unstash_ok {S : Mem} {W a : Nat} {w : Wst} (hW : IsW W) (h : RW S W w) (hn : wN w ≤ 12) (ha : a < wN w) (hm : (aMail (wA w a)).length ≤ 12) (hs : (aStash (wA w a)).length ≤ 6) : ∃ S1, fw_unstash W (W + 12 + 13 * a) S = some S1 ∧ RW S1 W (sBack w a) ∧ OW W S S1 := by
  obtain ⟨l1, l2, l3, l4, l5, l6, l7⟩ := lnA hW (show a < 12 by omega)
  have hA := h.2.2.1 a ha
  have e8 : S W 8 = wI w 8 := h.2.1 8 (by decide) (by decide)
  obtain ⟨S1, g1, g2, g3⟩ := p_ahead_ok (r := min (aStash (wA w a)).length (12 - (aMail (wA w a)).length)) hA.2.2.1 hA.2.2.2.1 (by rw [l2]) (by rw [l2]; exact hm) (by rw [l4]; exact hs) (by rw [l3, l2]) (by rw [l5, l4]) (by rw [l2]; decide) (by rw [l4]; decide) (by omega)
  unfold fw_unstash
  rw [g1, bd_some, obs, obs, e8, hA.2.2.2.1.1]
  refine ⟨_, rfl, ?_, ?_⟩
  · have r1 := h.act (hA.mail g2 g3) (g3.mono (cP_inA (by decide)))
    have r2 := r1.int (k := 8) (v := wI w 8 + (Int32.ofNat (aStash (wA w a)).length - Int32.ofNat (min (aStash (wA w a)).length (12 - (aMail (wA w a)).length)))) (by decide)
    have hA2 := r2.2.2.1 a ha
    have hA3 := hA2.stash (S1 := up2 (up2 S1 W 8 (wI w 8 + (Int32.ofNat (aStash (wA w a)).length - Int32.ofNat (min (aStash (wA w a)).length (12 - (aMail (wA w a)).length))))) (W + 12 + 13 * a + 6) 2 0) (l := []) (RP.len0 up2_self) (Only.refl.up (Or.inl rfl))
    have r3 := r2.act hA3 (Only.refl.up ⟨by omega, by omega⟩)
    have e : wSA (wSI (wSA w a (aSMail (wA w a) ((aStash (wA w a)).take (min (aStash (wA w a)).length (12 - (aMail (wA w a)).length)) ++ aMail (wA w a)))) 8 (wI w 8 + (Int32.ofNat (aStash (wA w a)).length - Int32.ofNat (min (aStash (wA w a)).length (12 - (aMail (wA w a)).length))))) a (aSStash (wA (wSI (wSA w a (aSMail (wA w a) ((aStash (wA w a)).take (min (aStash (wA w a)).length (12 - (aMail (wA w a)).length)) ++ aMail (wA w a)))) 8 (wI w 8 + (Int32.ofNat (aStash (wA w a)).length - Int32.ofNat (min (aStash (wA w a)).length (12 - (aMail (wA w a)).length))))) a) []) = sBack w a := by
      unfold sBack wSA wSI wSF
      have e2 : wA (wN w, upd (wI w) 8 (wI w 8 + (Int32.ofNat (aStash (wA w a)).length - Int32.ofNat (min (aStash (wA w a)).length (12 - (aMail (wA w a)).length)))), xup (wA w) a (aSMail (wA w a) ((aStash (wA w a)).take (min (aStash (wA w a)).length (12 - (aMail (wA w a)).length)) ++ aMail (wA w a))), wT w, wL w, wC w) a = aSMail (wA w a) ((aStash (wA w a)).take (min (aStash (wA w a)).length (12 - (aMail (wA w a)).length)) ++ aMail (wA w a)) := if_pos rfl
      show (_, _, _, _, _, _) = (_, _, _, _, _, _)
      congr 1
      congr 1
      congr 1
      funext b
      show xup (xup (wA w) a _) a _ b = xup (wA w) a _ b
      unfold xup
      by_cases e : b = a
      · rw [if_pos e, if_pos e]
        exact congrArg (fun x => aSStash x []) e2
      · rw [if_neg e, if_neg e, if_neg e]
    rw [e] at r3
    exact r3
  · exact ((OW.cell g3 fun b hb => inA_W (by omega) b (cP_inA (by decide) b hb)).up (by decide)).up2 ⟨⟨by omega, by omega⟩, by omega⟩
/-- the rows of watchers below k are rid of a -/
def sUnw (w : Wst) (a k : Nat) : Wst := wSF w fun b => if b < k then aSWat (wA w b) ((aWat (wA w b)).filter fun q => !(q == Int32.ofNat a)) else wA w b
theorem sUnw_0 (w : Wst) (a : Nat) : sUnw w a 0 = w := by
  unfold sUnw wSF
  simp
  rfl
theorem sUnw_S (w : Wst) (a k : Nat) : wSA (sUnw w a k) k (aSWat (wA (sUnw w a k) k) ((aWat (wA (sUnw w a k) k)).filter fun q => !(q == Int32.ofNat a))) = sUnw w a (k + 1) := by
  unfold sUnw wSA wSF
  show (_, _, _, _, _, _) = (_, _, _, _, _, _)
  congr 1
  congr 1
  congr 1
  funext b
  have e0 : wA (wN w, wI w, (fun b => if b < k then aSWat (wA w b) ((aWat (wA w b)).filter fun q => !(q == Int32.ofNat a)) else wA w b), wT w, wL w, wC w) k = wA w k := if_neg (Nat.lt_irrefl _)
  rw [e0]
  show xup (fun b => if b < k then aSWat (wA w b) ((aWat (wA w b)).filter fun q => !(q == Int32.ofNat a)) else wA w b) k _ b = _
  unfold xup
  by_cases e : b = k
  · rw [if_pos e, if_pos (by omega), e]
  · rw [if_neg e]
    by_cases e2 : b < k
    · show (if b < k then _ else _) = _
      rw [if_pos e2, if_pos (by omega)]
    · show (if b < k then _ else _) = _
      rw [if_neg e2, if_neg (by omega)]
