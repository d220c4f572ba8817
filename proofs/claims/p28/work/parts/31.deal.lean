/-! 31: the class: what an actor does with a message -/
theorem n12 : (12 : Int32) = Int32.ofNat 12 := rfl
theorem Inv.b {w : Wst} (h : Inv w) {a : Nat} (ha : a < wN w) : IsB (wA w a) := (h.2.1 a ha).2.2.2.2.2.1
theorem Inv.mail {w : Wst} (h : Inv w) {a : Nat} (ha : a < wN w) : (aMail (wA w a)).length ≤ 12 := (h.2.1 a ha).2.2.2.2.2.2.2.1.1
theorem Inv.stash {w : Wst} (h : Inv w) {a : Nat} (ha : a < wN w) : (aStash (wA w a)).length ≤ 6 := (h.2.1 a ha).2.2.2.2.2.2.2.2.1.1
theorem Inv.stk {w : Wst} (h : Inv w) {a : Nat} (ha : a < wN w) : 1 ≤ (aStk (wA w a)).length ∧ (aStk (wA w a)).length ≤ 5 ∧ ∀ q ∈ aStk (wA w a), okN 10 q := (h.2.1 a ha).2.2.2.2.2.2.1
theorem Inv.wat {w : Wst} (h : Inv w) {a : Nat} (ha : a < wN w) : (aWat (wA w a)).Nodup ∧ ∀ q ∈ aWat (wA w a), okN (wN w) q := (h.2.1 a ha).2.2.2.2.2.2.2.2.2.1
theorem Inv.note {w : Wst} (h : Inv w) {a : Nat} (ha : a < wN w) : (aNot (wA w a)).length ≤ 10 := (h.2.1 a ha).2.2.2.2.2.2.2.2.2.2
theorem sSend_n (w : Wst) (a : Nat) (m : Msg) : wN (sSend w a m) = wN w := (sSend_kp w a m).1
theorem w_fan_loop {W a : Nat} {n : Int32} (hW : IsW W) (hn : okV n) : ∀ (m f c j : Nat) (S : Mem) (w : Wst), c + m = wN w → m < f → j ≤ c → a < wN w → RW S W w → Inv w → ∃ S1, fw_sendDown_6 f W (Int32.ofNat a) n 12 (Int32.ofNat j) (Int32.ofNat c) S = some S1 ∧ RW S1 W (sPass a n true m c w) ∧ OW W S S1
  | _, 0, _, _, _, _, _, h, _, _, _, _ => absurd h (Nat.not_lt_zero _)
  | 0, f + 1, c, j, S, w, h, _, hj, ha, hR, hI => by
    have h12 := hI.1
    refine ⟨S, ?_, hR, OW.refl⟩
    show fw_sendDown_6b (fw_sendDown_6 f) W (Int32.ofNat a) n 12 (Int32.ofNat j) (Int32.ofNat c) S = _
    unfold fw_sendDown_6b
    rw [hR.1, if_pos ((n_le (by omega) (by omega)).mpr (by omega))]
  | m + 1, f + 1, c, j, S, w, h, hf, hj, ha, hR, hI => by
    have h12 := hI.1
    have hc : c < wN w := by omega
    show ∃ S1, fw_sendDown_6b (fw_sendDown_6 f) W (Int32.ofNat a) n 12 (Int32.ofNat j) (Int32.ofNat c) S = some S1 ∧ RW S1 W (if sLC w c a = true then (if true = true then sPass a n true m (c + 1) (sSend w c (Int32.ofNat a, n)) else sSend w c (Int32.ofNat a, n)) else sPass a n true m (c + 1) w) ∧ OW W S S1
    unfold fw_sendDown_6b
    have q1 : ¬ Int32.ofNat (wN w) ≤ Int32.ofNat c := fun q => by rw [n_le (by omega) (by omega)] at q; omega
    have q2 : ¬ (12 : Int32) ≤ Int32.ofNat j := fun q => by rw [n12, n_le (by decide) (by omega)] at q; omega
    rw [hR.1, if_neg q1, if_neg q2, w_isLC_ok hR h12 hc (hI.b hc), obs, if_pos rfl]
    by_cases e : sLC w c a = true
    · obtain ⟨S1, g1, g2, g3⟩ := w_send_ok (Int32.ofNat a, n) hW hR h12 hc (hI.b hc) (hI.mail hc)
      have hi := sSend_inv (a := c) hI (m := (Int32.ofNat a, n)) ⟨Or.inr (okN_of ha), Or.inl hn⟩
      have hk := sSend_n w c (Int32.ofNat a, n)
      obtain ⟨S2, k1, k2, k3⟩ := w_fan_loop hW hn m f (c + 1) (j + 1) S1 _ (by rw [hk]; omega) (by omega) (by omega) (by rw [hk]; exact ha) g2 hi
      rw [if_pos e, if_pos e, if_neg (by decide), g1, bd_some, n_succ, n_succ]
      exact ⟨S2, k1, k2, g3.trans k3⟩
    · obtain ⟨S2, k1, k2, k3⟩ := w_fan_loop hW hn m f (c + 1) j S w (by omega) (by omega) (by omega) ha hR hI
      rw [if_neg e, if_neg e, if_pos rfl, n_succ]
      exact ⟨S2, k1, k2, k3⟩
theorem w_one_loop {W a : Nat} {n : Int32} (hW : IsW W) (hn : okV n) : ∀ (m f c : Nat) (S : Mem) (w : Wst), c + m = wN w → m + 1 < f → a < wN w → RW S W w → Inv w → ∃ S1, fw_sendDown_6 f W (Int32.ofNat a) n 1 0 (Int32.ofNat c) S = some S1 ∧ RW S1 W (sPass a n false m c w) ∧ OW W S S1
  | _, 0, _, _, _, _, h, _, _, _ => absurd h (Nat.not_lt_zero _)
  | 0, f + 1, c, S, w, h, _, ha, hR, hI => by
    have h12 := hI.1
    refine ⟨S, ?_, hR, OW.refl⟩
    show fw_sendDown_6b (fw_sendDown_6 f) W (Int32.ofNat a) n 1 0 (Int32.ofNat c) S = _
    unfold fw_sendDown_6b
    rw [hR.1, if_pos ((n_le (by omega) (by omega)).mpr (by omega))]
  | m + 1, f + 1, c, S, w, h, hf, ha, hR, hI => by
    have h12 := hI.1
    have hc : c < wN w := by omega
    show ∃ S1, fw_sendDown_6b (fw_sendDown_6 f) W (Int32.ofNat a) n 1 0 (Int32.ofNat c) S = some S1 ∧ RW S1 W (if sLC w c a = true then (if false = true then sPass a n false m (c + 1) (sSend w c (Int32.ofNat a, n)) else sSend w c (Int32.ofNat a, n)) else sPass a n false m (c + 1) w) ∧ OW W S S1
    unfold fw_sendDown_6b
    have q1 : ¬ Int32.ofNat (wN w) ≤ Int32.ofNat c := fun q => by rw [n_le (by omega) (by omega)] at q; omega
    rw [hR.1, if_neg q1, if_neg (show ¬ (1 : Int32) ≤ 0 by decide), w_isLC_ok hR h12 hc (hI.b hc), obs, if_neg (show ¬ (false = true) by decide)]
    by_cases e : sLC w c a = true
    · obtain ⟨S1, g1, g2, g3⟩ := w_send_ok (Int32.ofNat a, n) hW hR h12 hc (hI.b hc) (hI.mail hc)
      rw [if_pos e, if_pos e, if_neg (by decide), g1, bd_some]
      refine ⟨S1, ?_, g2, g3⟩
      obtain ⟨f, rfl⟩ : ∃ f', f = f' + 1 := ⟨f - 1, by omega⟩
      show fw_sendDown_6b (fw_sendDown_6 f) W (Int32.ofNat a) n 1 (0 + 1) (Int32.ofNat c + 1) S1 = _
      unfold fw_sendDown_6b
      split
      · rfl
      · rw [if_pos (show (1 : Int32) ≤ 0 + 1 by decide)]
    · obtain ⟨S2, k1, k2, k3⟩ := w_one_loop hW hn m f (c + 1) S w (by omega) (by omega) ha hR hI
      rw [if_neg e, if_neg e, if_pos rfl, n_succ]
      exact ⟨S2, k1, k2, k3⟩
theorem w_fan_ok {S : Mem} {W a : Nat} {w : Wst} {n : Int32} (hW : IsW W) (hn : okV n) (ha : a < wN w) (hR : RW S W w) (hI : Inv w) : ∃ S1, fw_sendDown W (Int32.ofNat a) n 12 S = some S1 ∧ RW S1 W (sPass a n true (wN w) 0 w) ∧ OW W S S1 := by
  have h12 := hI.1
  exact w_fan_loop hW hn (wN w) LF 0 0 S w (by omega) (by show wN w < 3000; omega) (by omega) ha hR hI
theorem w_one_ok {S : Mem} {W a : Nat} {w : Wst} {n : Int32} (hW : IsW W) (hn : okV n) (ha : a < wN w) (hR : RW S W w) (hI : Inv w) : ∃ S1, fw_sendDown W (Int32.ofNat a) n 1 S = some S1 ∧ RW S1 W (sPass a n false (wN w) 0 w) ∧ OW W S S1 := by
  have h12 := hI.1
  exact w_one_loop hW hn (wN w) LF 0 S w (by omega) (by show wN w + 1 < 3000; omega) ha hR hI
/-- whom WATCH names -/
theorem irm_n {v : Int32} {n : Nat} (h0 : 0 ≤ v.toInt) (hn : 0 < n) (hn2 : n < 2 ^ 31) : ∃ k, k < n ∧ irm v (Int32.ofNat n) = Int32.ofNat k := by
  have hy : (Int32.ofNat n).toInt = n := n_int hn2
  have h1 : (irm v (Int32.ofNat n)).toInt = v.toInt % (n : Int) := by
    rw [irm_int (by rw [hy]; omega), hy, tmod_nn h0]
  have h2 := Int.emod_nonneg v.toInt (show (n : Int) ≠ 0 by omega)
  have h3 := Int.emod_lt_of_pos v.toInt (show (0 : Int) < (n : Int) by omega)
  refine ⟨(v.toInt % (n : Int)).toNat, by omega, ?_⟩
  apply Int32.toInt_inj.mp
  rw [h1, n_int (by omega)]
  omega
theorem v99_0 : (0 : Int32).toInt = 0 := by decide
theorem v99_int {n : Int32} (h : okV n) (h0 : n < 0) : (n + 99).toInt = n.toInt + 99 := by
  rw [Int32.lt_iff_toInt_lt, v99_0] at h0
  have h9 : (99 : Int32).toInt = 99 := by decide
  have := h.1
  rw [Int32.toInt_add, h9]
  apply Int.bmod_eq_of_le_mul_two <;> omega
theorem named_ok {w : Wst} {n : Int32} (hv : okV n) (h12 : wN w ≤ 12) (h0 : 0 < wN w) : sNamed w n < wN w ∧ irm (if n < 0 then n + 99 else n) (Int32.ofNat (wN w)) = Int32.ofNat (sNamed w n) := by
  have h1 : 0 ≤ (if n < 0 then n + 99 else n : Int32).toInt := by
    split
    · rename_i g
      rw [v99_int hv g]
      have := hv.1
      omega
    · rename_i g
      rw [Int32.lt_iff_toInt_lt, v99_0] at g
      omega
  obtain ⟨k, k1, k2⟩ := irm_n (n := wN w) h1 h0 (by omega)
  unfold sNamed
  rw [k2]
  unfold nu
  rw [n_clamp (by omega)]
  exact ⟨k1, rfl⟩
theorem w_watch_ok {S : Mem} {W a : Nat} {w : Wst} {n : Int32} (hW : IsW W) (hv : okV n) (ha : a < wN w) (hR : RW S W w) (hI : Inv w) : ∃ S1, fw_watch W (Int32.ofNat a) (if n < 0 then n + 99 else n) S = some S1 ∧ RW S1 W (sWatch w a n) ∧ OW W S S1 := by
  have h12 := hI.1
  obtain ⟨t1, t2⟩ := named_ok hv h12 (by omega)
  unfold fw_watch sWatch
  rw [hR.1, t2]
  generalize sNamed w n = t at t1
  have hz : nz (Int32.ofNat (wN w)) = some (Int32.ofNat (wN w)) := by
    unfold nz
    rw [if_neg (fun q => by
      rw [show (0 : Int32) = Int32.ofNat 0 from rfl, n_inj (by omega) (by omega)] at q
      omega)]
  rw [if_pos (show (0 : Int32) < Int32.ofNat (wN w) by rw [show (0 : Int32) = Int32.ofNat 0 from rfl, n_lt (by omega) (by omega)]; omega), hz, obs]
  by_cases e : t = a
  · rw [if_pos (by rw [e]), if_pos e]
    exact ⟨S, rfl, hR, OW.refl⟩
  rw [if_neg (fun q => e ((n_inj (by omega) (by omega)).mp q)), if_neg e, w_isActor_ok hR h12 t1, obs, if_neg (by decide), w_isLive_ok hR h12 t1 (hI.b t1), obs]
  obtain ⟨l1, l2, l3, l4, l5, l6, l7⟩ := lnA hW (show t < 12 by omega)
  have hA := hR.2.2.1 t t1
  by_cases g : sLive w t = true
  · have hl := (hI.2.1 t t1).wat h12
    rw [if_pos g, if_neg (by decide), if_pos g, ix_n (by omega) (by decide), obs, n_has_ok _ hA.2.2.2.2.1 (by rw [l6]; exact hl) (by rw [l6]; decide), obs]
    by_cases g2 : Int32.ofNat a ∈ aWat (wA w t)
    · rw [if_pos g2, if_neg (by decide), if_pos g2]
      exact ⟨S, rfl, hR, OW.refl⟩
    · have hlt : (aWat (wA w t)).length < 12 := by
        have h1 := hI.wat t1
        have := nodup_len (wN w) (Int32.ofNat a :: aWat (wA w t)) (by omega) (List.nodup_cons.mpr ⟨g2, h1.1⟩) (fun q hq => by
          rcases List.mem_cons.mp hq with rfl | hq
          · exact okN_of ha
          · exact h1.2 q hq)
        rw [List.length_cons] at this
        omega
      obtain ⟨S1, k1, k2, k3⟩ := n_add_ok (Int32.ofNat a) hA.2.2.2.2.1 (by rw [l6]; exact hlt) (by rw [l6]; decide)
      rw [if_neg g2, if_pos rfl, if_neg g2, obs, k1, bd_some]
      exact ⟨S1, rfl, hR.act (hA.wat k2 k3) (k3.mono (cN_inA (by decide))), OW.cell k3 fun b hb => inA_W (by omega) b (cN_inA (by decide) b hb)⟩
  · obtain ⟨S1, k1, k2, k3⟩ := w_send_ok (Int32.ofNat a, 200 + Int32.ofNat t) hW hR h12 ha (hI.b ha) (hI.mail ha)
    rw [if_neg g, if_pos rfl, if_neg g, k1, bd_some]
    exact ⟨S1, rfl, k2, k3⟩
/-- the last of a stack -/
theorem does_at {l : List Int32} (h : 1 ≤ l.length) : l[l.length - 1]? = some (l.getLastD 0) := by
  cases l with
  | nil => exact absurd h (by decide)
  | cons x l =>
    rw [← List.getLast?_eq_getElem?, List.getLastD_eq_getLast?, List.getLast?_cons]
    rfl
theorem w_does_ok {S : Mem} {W a : Nat} {w : Wst} (hW : IsW W) (ha : a < wN w) (hR : RW S W w) (hI : Inv w) : fn_at (W + 12 + 13 * a + 1) (S (W + 12 + 13 * a + 1) 1 - 1) S = some (sDoes (wA w a)) := by
  have h12 := hI.1
  obtain ⟨l1, -⟩ := lnA hW (show a < 12 by omega)
  have hA := hR.2.2.1 a ha
  have hs := hI.stk ha
  rw [hA.2.1.1, show (1 : Int32) = Int32.ofNat 1 from rfl, n_sub hs.1]
  exact n_at_ok hA.2.1 (does_at hs.1) (by rw [l1]; exact hs.2.1) (by rw [l1]; decide)
theorem does_ok {w : Wst} {a : Nat} (hI : Inv w) (ha : a < wN w) : okN 10 (sDoes (wA w a)) := by
  have hs := hI.stk ha
  exact hs.2.2 _ (List.mem_of_getElem? (does_at hs.1))
theorem RN.last {S : Mem} {o : Nat} {l : List Int32} (h : RN S o l) (h1 : 1 < l.length) (h2 : l.length < 2 ^ 31) : RN (up2 S o 1 (S o 1 - 1)) o l.dropLast := by
  refine ⟨?_, fun i hi => ?_⟩
  · rw [up2_self, h.1, show (1 : Int32) = Int32.ofNat 1 from rfl, n_sub (by omega), List.length_dropLast]
  · rw [List.length_dropLast] at hi
    rw [up2_ne (by omega), List.getElem?_dropLast, if_pos (by omega)]
    exact h.2 i (by omega)
theorem RN.same {S : Mem} {o : Nat} {l : List Int32} (h : RN S o l) : RN (up2 S o 1 (S o 1 - 0)) o l := by
  refine ⟨?_, fun i hi => ?_⟩
  · rw [up2_self, Int32.sub_zero]
    exact h.1
  · rw [up2_ne (by omega)]
    exact h.2 i hi
theorem w_count_up {S : Mem} {W a : Nat} {w : Wst} {v : Int32} (ha : a < 12) (hR : RW S W w) (hA : RA S (W + 12 + 13 * a) (wA w a)) : RW (up2 S (W + 12 + 13 * a) 5 v) W (wSA w a (aSI (wA w a) 5 v)) ∧ OW W S (up2 S (W + 12 + 13 * a) 5 v) := ⟨hR.act hA.int (Only.refl.up ⟨by omega, by omega⟩), OW.refl.up2 ⟨⟨by omega, by omega⟩, by omega⟩⟩
theorem z_lt {v : Int32} : (¬ v ≤ 0) ↔ 0 < v := Int32.not_le
theorem okN_cases10 {v : Int32} (h : okN 10 v) : v = 0 ∨ v = 1 ∨ v = 2 ∨ v = 3 ∨ v = 4 ∨ v = 5 ∨ v = 6 ∨ v = 7 ∨ v = 8 ∨ v = 9 := by
  obtain ⟨k, hk, rfl⟩ := h
  have : k = 0 ∨ k = 1 ∨ k = 2 ∨ k = 3 ∨ k = 4 ∨ k = 5 ∨ k = 6 ∨ k = 7 ∨ k = 8 ∨ k = 9 := by omega
  rcases this with rfl | rfl | rfl | rfl | rfl | rfl | rfl | rfl | rfl | rfl
  · exact Or.inl rfl
  · exact Or.inr (Or.inl rfl)
  · exact Or.inr (Or.inr (Or.inl rfl))
  · exact Or.inr (Or.inr (Or.inr (Or.inl rfl)))
  · exact Or.inr (Or.inr (Or.inr (Or.inr (Or.inl rfl))))
  · exact Or.inr (Or.inr (Or.inr (Or.inr (Or.inr (Or.inl rfl)))))
  · exact Or.inr (Or.inr (Or.inr (Or.inr (Or.inr (Or.inr (Or.inl rfl))))))
  · exact Or.inr (Or.inr (Or.inr (Or.inr (Or.inr (Or.inr (Or.inr (Or.inl rfl)))))))
  · exact Or.inr (Or.inr (Or.inr (Or.inr (Or.inr (Or.inr (Or.inr (Or.inr (Or.inl rfl))))))))
  · exact Or.inr (Or.inr (Or.inr (Or.inr (Or.inr (Or.inr (Or.inr (Or.inr (Or.inr rfl))))))))
theorem body_num {n : Int32} (h : okV n) : ¬ (200 : Int32) ≤ n := fun q => by
  rw [Int32.le_iff_toInt_le] at q
  have : (200 : Int32).toInt = 200 := by decide
  have := h.2
  omega
/-- what a number does, by what the actor does -/
def sNum (w : Wst) (a : Nat) (f n does : Int32) : Wst × Int32 :=
  let x := wA w a
  if does = 0 then (wSA w a (aSI x 5 (aI x 5 + n)), 0)
  else if does = 1 then (sPass a n false (wN w) 0 w, 0)
  else if does = 2 then (if 0 < n ∧ 0 ≤ f then sSend w (nu f) (Int32.ofNat a, n - 1) else w, 0)
  else if does = 3 then (if irm n 2 = 0 then (sBack w a, 0) else if (aStash x).length = 6 then (w, 3) else (wSA w a (aSStash x (aStash x ++ [(f, n)])), 0))
  else if does = 4 then (if n < 0 then (wSA w a (aSStk x (if (aStk x).length ≤ 1 then aStk x else (aStk x).dropLast)), 0) else if (aStk x).length = 5 then (w, 4) else (wSA w a (aSStk x (aStk x ++ [irm n 10])), 0))
  else if does = 5 then (if n < aI x 5 then (w, 1) else (wSA w a (aSI x 5 n), 0))
  else if does = 6 then (sDelay w a n, 0)
  else if does = 7 then (sPass a n true (wN w) 0 w, 0)
  else if does = 8 then (sWatch w a n, 0)
  else (sStop 12 w a, 0)
theorem sDeal_num {w : Wst} {a : Nat} {f n : Int32} (h : okV n) : sDeal w a f n = sNum w a f n (sDoes (wA w a)) := by
  unfold sDeal sNum
  rw [if_neg (body_num h)]
def DealOK (W : Nat) (S : Mem) (q : Option (Int32 × Mem)) (r : Wst × Int32) : Prop := ∃ S1, q = some (r.2, S1) ∧ RW S1 W r.1 ∧ OW W S S1
theorem w_early_ok {S : Mem} {W a : Nat} {w : Wst} {f n : Int32} (hW : IsW W) (hn : okV n) (hf : f = -1 ∨ okN (wN w) f) (ha : a < wN w) (hR : RW S W w) (hI : Inv w) (d : Int32) (hd : d = 0 ∨ d = 1 ∨ d = 2 ∨ d = 3 ∨ d = 4) : DealOK W S (fw_dealEarlier W (Int32.ofNat a) d f n S) (sNum w a f n d) := by
  have h12 := hI.1
  obtain ⟨l1, l2, l3, l4, l5, l6, l7⟩ := lnA hW (show a < 12 by omega)
  have hA := hR.2.2.1 a ha
  unfold fw_dealEarlier
  rw [ix_n (by omega) (by decide), obs]
  rcases hd with rfl | rfl | rfl | rfl | rfl
  · rw [if_pos rfl, obs, hA.1 5 (by decide)]
    obtain ⟨g1, g2⟩ := w_count_up (v := aI (wA w a) 5 + n) (by omega) hR hA
    exact ⟨_, rfl, g1, g2⟩
  · rw [if_neg (by decide), if_pos rfl]
    obtain ⟨S1, k1, k2, k3⟩ := w_one_ok hW hn ha hR hI
    rw [k1, obs]
    exact ⟨S1, rfl, k2, k3⟩
  · rw [if_neg (by decide), if_neg (by decide), if_pos rfl]
    show DealOK W S _ (if 0 < n ∧ 0 ≤ f then sSend w (nu f) (Int32.ofNat a, n - 1) else w, 0)
    by_cases e : n ≤ 0
    · rw [if_pos e, if_neg (fun q => z_lt.mpr q.1 e)]
      exact ⟨S, rfl, hR, OW.refl⟩
    · rw [if_neg e]
      rcases hf with rfl | hf
      · rw [w_isActor_no hR (Or.inl (by decide)), obs, if_pos rfl, if_neg (fun q => absurd q.2 (by decide))]
        exact ⟨S, rfl, hR, OW.refl⟩
      · obtain ⟨k, k2⟩ := okN_nn hf (by omega)
        generalize nu f = j at k k2 ⊢
        subst k2
        obtain ⟨S1, k1, k2, k3⟩ := w_send_ok (Int32.ofNat a, n - 1) hW hR h12 k (hI.b k) (hI.mail k)
        rw [w_isActor_ok hR h12 k, obs, if_neg (by decide), k1, bd_some, if_pos ⟨z_lt.mp e, by rw [show (0 : Int32) = Int32.ofNat 0 from rfl, n_le (by omega) (by omega)]; omega⟩]
        exact ⟨S1, rfl, k2, k3⟩
  · rw [if_neg (by decide), if_neg (by decide), if_neg (by decide), if_pos rfl]
    show DealOK W S _ (if irm n 2 = 0 then (sBack w a, 0) else if (aStash (wA w a)).length = 6 then (w, 3) else (wSA w a (aSStash (wA w a) (aStash (wA w a) ++ [(f, n)])), 0))
    by_cases e : irm n 2 = 0
    · obtain ⟨S1, k1, k2, k3⟩ := w_unstash_ok hW hR h12 ha (hI.mail ha) (hI.stash ha)
      rw [if_pos e, if_pos e, k1, obs]
      exact ⟨S1, rfl, k2, k3⟩
    · have hs := hI.stash ha
      rw [if_neg e, if_neg e]
      by_cases g : (aStash (wA w a)).length = 6
      · rw [if_pos g, p_add_full f n hA.2.2.2.1 (by rw [l4]; exact g) (by rw [l4]; decide), bd_some, if_pos rfl]
        exact ⟨S, rfl, hR, OW.refl⟩
      · obtain ⟨S1, k1, k2, k3⟩ := p_add_ok (f, n) hA.2.2.2.1 (by rw [l4]; omega) (by rw [l5, l4]) (by rw [l4]; decide)
        rw [if_neg g, k1, bd_some, if_neg (by decide)]
        exact ⟨S1, rfl, hR.act (hA.stash k2 k3) (k3.mono (cP_inA (by decide))), OW.cell k3 fun b hb => inA_W (by omega) b (cP_inA (by decide) b hb)⟩
  · rw [if_neg (by decide), if_neg (by decide), if_neg (by decide), if_neg (by decide), if_pos rfl]
    show DealOK W S _ (if n < 0 then (wSA w a (aSStk (wA w a) (if (aStk (wA w a)).length ≤ 1 then aStk (wA w a) else (aStk (wA w a)).dropLast)), 0) else if (aStk (wA w a)).length = 5 then (w, 4) else (wSA w a (aSStk (wA w a) (aStk (wA w a) ++ [irm n 10])), 0))
    have hs := hI.stk ha
    by_cases e : n < 0
    · rw [if_pos e, if_pos e, hA.2.1.1]
      by_cases g : (aStk (wA w a)).length ≤ 1
      · have g1 : Int32.ofNat (aStk (wA w a)).length ≤ 1 := by rw [show (1 : Int32) = Int32.ofNat 1 from rfl, n_le (by omega) (by decide)]; exact g
        have r1 := hA.2.1.same
        rw [hA.2.1.1] at r1
        rw [if_pos g1, if_pos g, obs]
        exact ⟨_, rfl, hR.act (hA.stk r1 (Only.refl.up (Or.inl rfl))) (Only.refl.up ⟨by omega, by omega⟩), OW.refl.up2 ⟨⟨by omega, by omega⟩, by omega⟩⟩
      · have g1 : ¬ Int32.ofNat (aStk (wA w a)).length ≤ 1 := by rw [show (1 : Int32) = Int32.ofNat 1 from rfl, n_le (by omega) (by decide)]; exact g
        have r1 := hA.2.1.last (by omega) (by omega)
        rw [hA.2.1.1] at r1
        rw [if_neg g1, if_neg g, obs]
        exact ⟨_, rfl, hR.act (hA.stk r1 (Only.refl.up (Or.inl rfl))) (Only.refl.up ⟨by omega, by omega⟩), OW.refl.up2 ⟨⟨by omega, by omega⟩, by omega⟩⟩
    · rw [if_neg e, if_neg e]
      by_cases g : (aStk (wA w a)).length = 5
      · rw [if_pos g, n_add_full _ hA.2.1 (by rw [l1]; exact g) (by rw [l1]; decide), bd_some, if_pos rfl]
        exact ⟨S, rfl, hR, OW.refl⟩
      · obtain ⟨S1, k1, k2, k3⟩ := n_add_ok (irm n 10) hA.2.1 (by rw [l1]; omega) (by rw [l1]; decide)
        rw [if_neg g, k1, bd_some, if_neg (by decide)]
        exact ⟨S1, rfl, hR.act (hA.stk k2 k3) (k3.mono (cN_inA (by decide))), OW.cell k3 fun b hb => inA_W (by omega) b (cN_inA (by decide) b hb)⟩
theorem w_late_ok {S : Mem} {W a : Nat} {w : Wst} {f n : Int32} (hW : IsW W) (hn : okV n) (ha : a < wN w) (hl : sLive w a = true) (hR : RW S W w) (hI : Inv w) (hT : Tree w) (d : Int32) (hd : d = 5 ∨ d = 6 ∨ d = 7 ∨ d = 8 ∨ d = 9) : DealOK W S (fw_dealLater W (Int32.ofNat a) d n S) (sNum w a f n d) := by
  have h12 := hI.1
  have hA := hR.2.2.1 a ha
  unfold fw_dealLater
  rw [ix_n (by omega) (by decide), obs]
  rcases hd with rfl | rfl | rfl | rfl | rfl
  · rw [if_pos rfl, hA.1 5 (by decide)]
    show DealOK W S _ (if n < aI (wA w a) 5 then (w, 1) else (wSA w a (aSI (wA w a) 5 n), 0))
    by_cases e : aI (wA w a) 5 ≤ n
    · obtain ⟨g1, g2⟩ := w_count_up (v := n) (by omega) hR hA
      rw [if_pos e, if_neg (Int32.not_lt.mpr e), obs]
      exact ⟨_, rfl, g1, g2⟩
    · rw [if_neg e, if_pos (Int32.not_le.mp e)]
      exact ⟨S, rfl, hR, OW.refl⟩
  · rw [if_neg (by decide), if_pos rfl]
    show DealOK W S _ (sDelay w a n, 0)
    unfold sDelay
    by_cases e : n ≤ 0
    · rw [if_pos e, if_neg (fun q => z_lt.mpr q.1 e)]
      exact ⟨S, rfl, hR, OW.refl⟩
    · rw [if_neg e, hR.2.1 6 (by decide) (by decide)]
      by_cases g : (wT w).length < 10
      · obtain ⟨S1, k1, k2, k3⟩ := c_set_ok (Int32.ofNat a, wI w 6 + 1 + irm n 8, n - 1) (lnW hW).1 hR.2.2.2.1 g hI.2.2.1.2.1
        rw [if_pos ⟨z_lt.mp e, g⟩, k1, obs]
        exact ⟨S1, rfl, hR.tim k2 k3, OW.cell k3 cT_W⟩
      · have ht := hI.2.2.1.1
        rw [if_neg (fun q => g q.2), c_set_full _ _ _ hR.2.2.2.1 (by omega), obs]
        exact ⟨S, rfl, hR, OW.refl⟩
  · rw [if_neg (by decide), if_neg (by decide), if_pos rfl]
    obtain ⟨S1, k1, k2, k3⟩ := w_fan_ok hW hn ha hR hI
    rw [k1, obs]
    exact ⟨S1, rfl, k2, k3⟩
  · rw [if_neg (by decide), if_neg (by decide), if_neg (by decide), if_pos rfl]
    obtain ⟨S1, k1, k2, k3⟩ := w_watch_ok hW hn ha hR hI
    by_cases e : 0 ≤ n
    · rw [if_neg (Int32.not_lt.mpr e)] at k1
      rw [if_pos e, k1, obs]
      exact ⟨S1, rfl, k2, k3⟩
    · rw [if_pos (Int32.not_le.mp e)] at k1
      rw [if_neg e, k1, obs]
      exact ⟨S1, rfl, k2, k3⟩
  · rw [if_neg (by decide), if_neg (by decide), if_neg (by decide), if_neg (by decide), if_pos rfl]
    obtain ⟨S1, k1, k2, k3⟩ := w_halt_ok hW hR hI hT hl
    rw [k1, bd_some]
    exact ⟨S1, rfl, k2, k3⟩
theorem w_deal_ok {S : Mem} {W a : Nat} {w : Wst} {f b : Int32} (hW : IsW W) (hm : okM (wN w) (f, b)) (hl : sLive w a = true) (hR : RW S W w) (hI : Inv w) (hT : Tree w) : DealOK W S (fw_deal W (Int32.ofNat a) f b S) (sDeal w a f b) := by
  have h12 := hI.1
  have ha := (sLive_lt hl).1
  have hA := hR.2.2.1 a ha
  unfold fw_deal
  rw [w_isActor_ok hR h12 ha, obs, if_neg (by decide), ix_n (by omega) (by decide), obs, w_does_ok hW ha hR hI, obs]
  have hd := okN_cases10 (does_ok hI ha)
  rcases hm.2 with hn | ⟨k, hk, hb⟩
  · rw [sDeal_num hn, if_neg (body_num hn)]
    generalize sDoes (wA w a) = d at hd
    by_cases e : d < 5
    · have hd2 : d = 0 ∨ d = 1 ∨ d = 2 ∨ d = 3 ∨ d = 4 := by
        rcases hd with h | h | h | h | h | h | h | h | h | h <;> subst h
        · exact Or.inl rfl
        · exact Or.inr (Or.inl rfl)
        · exact Or.inr (Or.inr (Or.inl rfl))
        · exact Or.inr (Or.inr (Or.inr (Or.inl rfl)))
        · exact Or.inr (Or.inr (Or.inr (Or.inr rfl)))
        all_goals exact absurd e (by decide)
      obtain ⟨S1, k1, k2, k3⟩ := w_early_ok hW hn hm.1 ha hR hI d hd2
      rw [if_pos e, k1, bd_some]
      exact ⟨S1, rfl, k2, k3⟩
    · have hd2 : d = 5 ∨ d = 6 ∨ d = 7 ∨ d = 8 ∨ d = 9 := by
        rcases hd with h | h | h | h | h | h | h | h | h | h <;> subst h
        iterate 5 exact absurd (by decide) e
        · exact Or.inl rfl
        · exact Or.inr (Or.inl rfl)
        · exact Or.inr (Or.inr (Or.inl rfl))
        · exact Or.inr (Or.inr (Or.inr (Or.inl rfl)))
        · exact Or.inr (Or.inr (Or.inr (Or.inr rfl)))
      obtain ⟨S1, k1, k2, k3⟩ := w_late_ok (f := f) hW hn ha hl hR hI hT d hd2
      rw [if_neg e, k1, bd_some]
      exact ⟨S1, rfl, k2, k3⟩
  · have hb2 : (200 : Int32) ≤ b := by
      have hb3 : b = 200 + Int32.ofNat k := hb
      rw [hb3, show (200 : Int32) = Int32.ofNat 200 from rfl, n_add, n_le (by decide) (by omega)]
      omega
    unfold sDeal
    rw [if_pos hb2, if_pos hb2]
    by_cases e : sDoes (wA w a) = 5
    · rw [if_pos e, if_pos e]
      exact ⟨S, rfl, hR, OW.refl⟩
    · obtain ⟨g1, g2⟩ := w_count_up (v := aI (wA w a) 5 + (100 + (b - 200))) (by omega) hR hA
      rw [if_neg e, if_neg e, hA.1 5 (by decide), obs]
      exact ⟨_, rfl, g1, g2⟩
