/-! 27: the class: one stops, and all below it -/
theorem inW_of {W k : Nat} (h : k < 168) : inW W (W + k) := ⟨by omega, by omega⟩
theorem sUnw_inv {w : Wst} {a k : Nat} (h : Inv w) : Inv (sUnw w a k) := by
  obtain ⟨h1, h2, h3, h4, h5, h6⟩ := h
  refine ⟨h1, fun b hb => ?_, h3, h4, h5, h6⟩
  have hb2 : b < wN w := hb
  show okA (wN w) b (if b < k then _ else _)
  split
  · obtain ⟨p1, p2, p3, p4, p5, p6, p7, p8, p9, p10, p11⟩ := h2 b hb2
    exact ⟨p1, p2, p3, p4, p5, p6, p7, p8, p9, ⟨p10.1.filter _, fun q hq => p10.2 q ((List.mem_filter.mp hq).1)⟩, p11⟩
  · exact h2 b hb2
theorem w_unw_loop {W a : Nat} {w : Wst} {k7 : Nat → Int32 → Int32 → Int32 → Int32 → Mem → Option (Int32 × Mem)} (v1 v2 v4 : Int32) (v6 : Nat) (hW : IsW W) (hI : Inv w) : ∀ (m n k : Nat) (S : Mem), k + m = wN w → m < n → RW S W (sUnw w a k) → ∃ S1, fw_halt_89 k7 n W v1 v2 (Int32.ofNat a) v4 v6 (Int32.ofNat k) S = fw_halt_128 k7 LF W v1 v2 (Int32.ofNat a) v4 v6 0 S1 ∧ RW S1 W (sUnw w a (wN w)) ∧ OW W S S1
  | _, 0, _, _, _, h, _ => absurd h (Nat.not_lt_zero _)
  | 0, n + 1, k, S, h, _, hR => by
    have hk : k = wN w := by omega
    subst hk
    refine ⟨S, ?_, hR, OW.refl⟩
    show fw_halt_89b k7 (fw_halt_89 k7 n) W v1 v2 (Int32.ofNat a) v4 v6 (Int32.ofNat (wN w)) S = _
    unfold fw_halt_89b
    have e : S W 4 = Int32.ofNat (wN w) := hR.1
    have h12 := hI.1
    rw [e, if_pos ((n_le (by omega) (by omega)).mpr (Nat.le_refl _))]
  | m + 1, n + 1, k, S, h, hn, hR => by
    have h12 := hI.1
    have e : S W 4 = Int32.ofNat (wN w) := hR.1
    obtain ⟨l1, l2, l3, l4, l5, l6, l7⟩ := lnA hW (show k < 12 by omega)
    have hI2 := sUnw_inv (a := a) (k := k) hI
    have hA := hR.2.2.1 k (by show k < wN w; omega)
    have hwat := (hI2.2.1 k (by show k < wN w; omega)).wat (by exact h12)
    obtain ⟨S1, g1, g2, g3⟩ := n_remove_ok (Int32.ofNat a) hA.2.2.2.2.1 (by rw [l6]; exact hwat) (by rw [l6]; decide)
    have r1 := hR.act (hA.wat g2 g3) (g3.mono (cN_inA (by decide)))
    rw [sUnw_S] at r1
    obtain ⟨S2, k1, k2, k3⟩ := w_unw_loop v1 v2 v4 v6 hW hI m n (k + 1) S1 (by omega) (by omega) r1
    refine ⟨S2, ?_, k2, (OW.cell g3 fun b hb => inA_W (by omega) b (cN_inA (by decide) b hb)).trans k3⟩
    show fw_halt_89b k7 (fw_halt_89 k7 n) W v1 v2 (Int32.ofNat a) v4 v6 (Int32.ofNat k) S = _
    unfold fw_halt_89b
    rw [e, if_neg (fun q => by rw [n_le (by omega) (by omega)] at q; omega), show (12 : Int32) = Int32.ofNat 12 from rfl, if_neg (fun q => by rw [n_le (by omega) (by omega)] at q; omega), ix_n (by omega) (by decide), obs, g1, obs, n_succ]
    exact k1
theorem w_tell_loop {W a : Nat} {L : List Int32} {k7 : Nat → Int32 → Int32 → Int32 → Int32 → Mem → Option (Int32 × Mem)} (v1 v2 v4 : Int32) (hW : IsW W) (hL : L.length ≤ 12) : ∀ (m n k : Nat) (S : Mem) (w : Wst), k + m = L.length → m < n → Inv w → a < wN w → aWat (wA w a) = L → (∀ q ∈ L, okN (wN w) q) → RW S W w → ∃ S1, fw_halt_128 k7 n W v1 v2 (Int32.ofNat a) v4 (W + 12 + 13 * a) (Int32.ofNat k) S = (if Int32.ofNat a = v1 then k7 W v1 (v2 + 1) (-1) (v4 + 1) S1 else k7 W v1 (v2 + 1) (aI (wA w a) 0) (v4 + 1) S1) ∧ RW S1 W (wSA (sTell w a (L.drop k)) a (aSWat (wA (sTell w a (L.drop k)) a) [])) ∧ OW W S S1
  | _, 0, _, _, _, _, h, _, _, _, _, _ => absurd h (Nat.not_lt_zero _)
  | 0, n + 1, k, S, w, h, _, hI, ha, hw, hq, hR => by
    have h12 := hI.1
    have hA := hR.2.2.1 a ha
    have e : S (W + 12 + 13 * a + 9) 1 = Int32.ofNat L.length := by rw [← hw]; exact hA.2.2.2.2.1.1
    have e0 : up2 S (W + 12 + 13 * a + 9) 1 0 (W + 12 + 13 * a) 0 = aI (wA w a) 0 := by
      rw [up2_ne (by omega)]
      exact hA.1 0 (by decide)
    refine ⟨up2 S (W + 12 + 13 * a + 9) 1 0, ?_, ?_, OW.refl.up2 ⟨⟨by omega, by omega⟩, by omega⟩⟩
    · show fw_halt_128b k7 (fw_halt_128 k7 n) W v1 v2 (Int32.ofNat a) v4 (W + 12 + 13 * a) (Int32.ofNat k) S = _
      unfold fw_halt_128b
      rw [e, if_pos ((n_le (by omega) (by omega)).mpr (by omega)), obs, e0]
    · rw [List.drop_eq_nil_of_le (by omega)]
      exact hR.act (hA.wat (RN.len0 up2_self) (Only.refl.up (Or.inl rfl))) (Only.refl.up ⟨by omega, by omega⟩)
  | m + 1, n + 1, k, S, w, h, hn, hI, ha, hw, hq, hR => by
    have h12 := hI.1
    obtain ⟨l1, l2, l3, l4, l5, l6, l7⟩ := lnA hW (show a < 12 by omega)
    have hA := hR.2.2.1 a ha
    have e : S (W + 12 + 13 * a + 9) 1 = Int32.ofNat L.length := by rw [← hw]; exact hA.2.2.2.2.1.1
    have hk : k < L.length := by omega
    have hx : (aWat (wA w a))[k]? = some L[k] := by rw [hw]; exact List.getElem?_eq_getElem hk
    obtain ⟨j, hj, ej⟩ := hq L[k] (List.getElem_mem hk)
    obtain ⟨S1, g1, g2, g3⟩ := w_send_ok (-1, 200 + Int32.ofNat a) hW hR h12 hj (hI.2.1 j hj).2.2.2.2.2.1 (hI.2.1 j hj).2.2.2.2.2.2.2.1.1
    have ej2 : nu L[k] = j := by
      unfold nu
      rw [ej, n_clamp (by omega)]
    rw [← ej2] at g2
    have hkp := sSend_kp w (nu L[k]) (-1, 200 + Int32.ofNat a)
    obtain ⟨S2, k1, k2, k3⟩ := w_tell_loop v1 v2 v4 hW hL m n (k + 1) S1 (sSend w (nu L[k]) (-1, 200 + Int32.ofNat a)) (by omega) (by omega) (sSend_inv hI (okM_death (by omega))) (by rw [hkp.1]; exact ha) (by rw [(hkp.2.1 a).2.2.2.1]; exact hw) (fun q hq2 => by rw [hkp.1]; exact hq q hq2) g2
    refine ⟨S2, ?_, ?_, g3.trans k3⟩
    · show fw_halt_128b k7 (fw_halt_128 k7 n) W v1 v2 (Int32.ofNat a) v4 (W + 12 + 13 * a) (Int32.ofNat k) S = _
      unfold fw_halt_128b
      rw [e, if_neg (fun q => by rw [n_le (by omega) (by omega)] at q; omega), n_at_ok hA.2.2.2.2.1 hx (by rw [hw, l6]; exact hL) (by rw [l6]; decide), obs, ej, g1, bd_some, n_succ, k1, (hkp.2.1 a).1]
    · rw [List.drop_eq_getElem_cons hk]
      exact k2
theorem w_stop1_ok {S : Mem} {W a : Nat} {w : Wst} (k7 : Nat → Int32 → Int32 → Int32 → Int32 → Mem → Option (Int32 × Mem)) (v1 v2 v4 : Int32) (hW : IsW W) (h : RW S W w) (hI : Inv w) (ha : a < wN w) : ∃ S1, ((ix (Int32.ofNat a) 12).bind fun i1 => (some (up2 S (W + 12 + 13 * i1) 6 0)).bind fun S1 => (some (up2 S1 (W + 12 + 13 * i1 + 3) 2 0)).bind fun S2 => (some (up2 S2 (W + 12 + 13 * i1 + 6) 2 0)).bind fun S3 => (fa_keepOwnOnly (W + 12 + 13 * i1) S3).bind fun S4 => (fc_removeOf (W + 2) (Int32.ofNat a) S4).bind fun S5 => fw_halt_89 k7 LF W v1 v2 (Int32.ofNat a) v4 (W + 12 + 13 * i1) 0 S5) = (if Int32.ofNat a = v1 then k7 W v1 (v2 + 1) (-1) (v4 + 1) S1 else k7 W v1 (v2 + 1) (aI (wA w a) 0) (v4 + 1) S1) ∧ RW S1 W (sStop1 w a) ∧ OW W S S1 := by
  have h12 := hI.1
  rw [ix_n (by omega) (by decide), obs, obs, obs, obs]
  have hA := h.2.2.1 a ha
  have r1 := (((hA.int (k := 6) (v := 0)).mail (S1 := up2 (up2 S (W + 12 + 13 * a) 6 0) (W + 12 + 13 * a + 3) 2 0) (RP.len0 up2_self) (Only.refl.up (Or.inl rfl))).stash (S1 := up2 (up2 (up2 S (W + 12 + 13 * a) 6 0) (W + 12 + 13 * a + 3) 2 0) (W + 12 + 13 * a + 6) 2 0) (RP.len0 up2_self) (Only.refl.up (Or.inl rfl)))
  have o1 : Only (inA (W + 12 + 13 * a)) S (up2 (up2 (up2 S (W + 12 + 13 * a) 6 0) (W + 12 + 13 * a + 3) 2 0) (W + 12 + 13 * a + 6) 2 0) := ((Only.refl.up ⟨by omega, by omega⟩).up ⟨by omega, by omega⟩).up ⟨by omega, by omega⟩
  have r2 := h.act r1 o1
  have i2 : Inv (wSA w a (aSStash (aSMail (aSI (wA w a) 6 0) []) [])) := hI.act (okA_dead (hI.2.1 a ha))
  obtain ⟨S4, S5, g1, g2, g3, g4⟩ := w_forget_ok hW r2 h12 ha hI.2.2.1.1
  have i3 := sForget_inv i2 ha
  rw [g1, obs, g2, obs]
  rw [← sUnw_0 (sForget (wSA w a (aSStash (aSMail (aSI (wA w a) 6 0) []) [])) a) a] at g3
  obtain ⟨S6, k1, k2, k3⟩ := w_unw_loop (k7 := k7) v1 v2 v4 (W + 12 + 13 * a) hW i3 (wN w) LF 0 S5 (by show 0 + wN w = wN w; omega) (by show wN w < 3000; omega) g3
  have i4 := sUnw_inv (a := a) (k := wN w) i3
  have hq := (i4.2.1 a ha).2.2.2.2.2.2.2.2.2.1.2
  have hl := (i4.2.1 a ha).wat h12
  obtain ⟨S7, m1, m2, m3⟩ := w_tell_loop (k7 := k7) v1 v2 v4 hW hl (aWat (wA (sUnw (sForget (wSA w a (aSStash (aSMail (aSI (wA w a) 6 0) []) [])) a) a (wN w)) a)).length LF 0 S6 (sUnw (sForget (wSA w a (aSStash (aSMail (aSI (wA w a) 6 0) []) [])) a) a (wN w)) (by omega) (by show _ < 3000; omega) i4 ha rfl hq k2
  refine ⟨S7, ?_, m2, (OW.cell o1 (inA_W (by omega))).trans (g4.trans (k3.trans m3))⟩
  rw [show (0 : Int32) = Int32.ofNat 0 from rfl] at *
  rw [k1]
  rw [m1]
  have e0 : aI (wA (sUnw (sForget (wSA w a (aSStash (aSMail (aSI (wA w a) 6 (Int32.ofNat 0)) []) [])) a) a (wN w)) a) 0 = aI (wA w a) 0 := by
    unfold sUnw wSF
    show aI (if a < wN w then _ else _) 0 = _
    rw [if_pos ha]
    show aI (xup _ a _ a) 0 = _
    rw [xup_s]
    show aI (aKeep (xup _ a _ a)) 0 = _
    rw [xup_s]
    rfl
  rw [e0]
