/-! 43: the reference: stops, restarts -/
variable {en : Int32}
def clr (w : Wst) (a : Nat) : Wst := wSA w a (aSWat (wA w a) [])
theorem clr_live (w : Wst) (a b : Nat) : sLive (clr w a) b = sLive w b := wSA_live (w := w) (a := a) (x := aSWat (wA w a) []) rfl b
theorem clr_mail (w : Wst) (a b : Nat) : aMail (wA (clr w a) b) = aMail (wA w b) := by
  show aMail (xup (wA w) a (aSWat (wA w a) []) b) = _
  by_cases e : b = a
  · rw [e, xup_s]
    rfl
  · rw [xup_n e]
theorem send_clr (w : Wst) (a q : Nat) (m : Msg) : sSend (clr w a) q m = clr (sSend w q m) a := by
  unfold sSend
  rw [clr_live, clr_mail]
  by_cases e : sLive w q = true ∧ (aMail (wA w q)).length < 12
  · rw [if_pos e, if_pos e]
    unfold clr wSA wSF
    show (_, _, _, _, _, _) = (_, _, _, _, _, _)
    congr 1
    congr 1
    congr 1
    funext b
    show xup (xup (wA w) a (aSWat (wA w a) [])) q (aSMail (xup (wA w) a (aSWat (wA w a) []) q) (aMail (wA w q) ++ [m])) b = xup (xup (wA w) q (aSMail (wA w q) (aMail (wA w q) ++ [m]))) a (aSWat (xup (wA w) q (aSMail (wA w q) (aMail (wA w q) ++ [m])) a) []) b
    by_cases e1 : b = q
    · subst e1
      rw [xup_s]
      by_cases e2 : b = a
      · subst e2
        rw [xup_s, xup_s, xup_s]
        rfl
      · rw [xup_n e2, xup_n e2, xup_s]
    · rw [xup_n e1]
      by_cases e2 : b = a
      · subst e2
        rw [xup_s, xup_s, xup_n e1]
      · rw [xup_n e2, xup_n e2, xup_n e1]
  · rw [if_neg e, if_neg e]
    rfl
theorem tell_clr (c a : Nat) : ∀ (l : List Int32) (w : Wst), sTell (clr w c) a l = clr (sTell w a l) c
  | [], _ => rfl
  | q :: l, w => by
    show sTell (sSend (clr w c) (nu q) (-1, 200 + Int32.ofNat a)) a l = clr (sTell (sSend w (nu q) (-1, 200 + Int32.ofNat a)) a l) c
    rw [send_clr, tell_clr c a l]
theorem bm_death {k : Nat} (h : k < 12) : bm (200 + Int32.ofNat k) = 1000 + Int32.ofNat k := by
  unfold bm
  rw [show (200 : Int32) = Int32.ofNat 200 from rfl, n_add, if_pos ((n_le (by decide) (by omega)).mpr (by omega)), show (800 : Int32) = Int32.ofNat 800 from rfl, show (1000 : Int32) = Int32.ofNat 1000 from rfl, n_add, n_add]
  congr 1
  omega
theorem death_num {k : Nat} (h : k < 12) : ¬ okV (200 + Int32.ofNat k) := fun q => by
  have h1 := body_num q
  rw [show (200 : Int32) = Int32.ofNat 200 from rfl, n_add, n_le (by decide) (by omega)] at h1
  omega
theorem bm_num {v : Int32} (h : okV v) : bm v = v := if_neg (body_num h)
theorem MM_death {k : Nat} (h : k < 12) (p q : Int32) : MM (q, 200 + Int32.ofNat k) p (1000 + Int32.ofNat k) := ⟨(bm_death h).symm, fun h2 => absurd h2 (death_num h)⟩
theorem MM_num {v p : Int32} (h : okV v) : MM (p, v) p v := ⟨(bm_num h).symm, fun _ => rfl⟩
theorem m_tell_loop {S : Mem} {a : Nat} {l : List Int32} {kS : Int32 → Mem → Option Mem} (ha : a < 12) (hl : l.length ≤ 12) : ∀ (m n i : Nat) (f : Nat → Int32) (w : Wst), i + m = l.length → m < n → Inv w → (∀ q ∈ l, okN (wN w) q) → RM en f w → (∀ j, i ≤ j → j < l.length → l[j]? = some (f (77 * a + 52 + j))) → ∃ f1, fm_stops_56 kS n (Int32.ofNat a) (Int32.ofNat l.length) (Int32.ofNat i) (gM S f) = some (gM S f1) ∧ RM en f1 (sTell w a (l.drop i))
  | _, 0, _, _, _, _, h, _, _, _, _ => absurd h (Nat.not_lt_zero _)
  | 0, n + 1, i, f, w, h, _, _, _, hR, _ => by
    show ∃ f1, fm_stops_56b kS (fm_stops_56 kS n) _ _ (Int32.ofNat i) _ = _ ∧ _
    unfold fm_stops_56b
    rw [if_pos ((n_le (by omega) (by omega)).mpr (by omega)), List.drop_eq_nil_of_le (by omega)]
    exact ⟨f, rfl, hR⟩
  | m + 1, n + 1, i, f, w, h, hn, hI, hq, hR, hc => by
    have h12 := hI.1
    have hi : i < l.length := by omega
    have hx := hc i (Nat.le_refl _) hi
    rw [List.getElem?_eq_getElem hi] at hx
    have hx2 := Option.some.inj hx
    obtain ⟨j, hj, ej⟩ := hq l[i] (List.getElem_mem hi)
    rw [hx2] at ej
    obtain ⟨f1, g1, g2, g3⟩ := m_send_ok (S := S) (m := (-1, 200 + Int32.ofNat a)) hR hI hj (MM_death ha (-1) (-1))
    have hkp := sSend_kp w j (-1, 200 + Int32.ofNat a)
    obtain ⟨f2, k1, k2⟩ := m_tell_loop (S := S) (kS := kS) ha hl m n (i + 1) f1 (sSend w j (-1, 200 + Int32.ofNat a)) (by omega) (by omega) (sSend_inv hI (okM_death ha)) (fun q hq2 => by rw [hkp.1]; exact hq q hq2) g2 (fun j' h1 h2 => by
      rw [g3 _ (by omega) (by omega)]
      exact hc j' (by omega) h2)
    refine ⟨f2, ?_, ?_⟩
    · show fm_stops_56b kS (fm_stops_56 kS n) _ _ (Int32.ofNat i) _ = _
      unfold fm_stops_56b
      rw [if_neg (fun q => by rw [n_le (by omega) (by omega)] at q; omega), i52, at_v ha (by omega), obs, show 77 * a + (52 + i) = 77 * a + 52 + i by omega, ej, g1, bd_some, n_succ, k1]
    · rw [List.drop_eq_getElem_cons hi, hx2, ej]
      show RM en f2 (sTell (sSend w (nu (Int32.ofNat j)) (-1, 200 + Int32.ofNat a)) a (l.drop (i + 1)))
      rw [nu_n (by omega)]
      exact k2
theorem m_dead_ok {f : Nat → Int32} {w : Wst} {a : Nat} (h : RM en f w) (hI : Inv w) (ha : a < wN w) : RM en (upd (upd (upd f (77 * a + 5) 0) (77 * a + 13) 0) (77 * a + 38) 0) (wSA w a (aSStash (aSMail (aSI (wA w a) 6 0) []) [])) := by
  have h12 := hI.1
  have hA := h.2.2.1 a ha
  have hx := hI.fit ha
  have a1 : RMA (upd f (77 * a + 5) 0) a (aSI (wA w a) 6 0) := hA.liv hx upd_s fun k q1 q2 => upd_n (by omega)
  have a2 : RMA (upd (upd f (77 * a + 5) 0) (77 * a + 13) 0) a (aSMail (aSI (wA w a) 6 0) []) := a1.mail hx upd_s LPm.nil fun k q1 q2 => upd_n (by omega)
  have a3 := a2.stash (g := upd (upd (upd f (77 * a + 5) 0) (77 * a + 13) 0) (77 * a + 38) 0) (l := []) ⟨hx.1, by show 0 ≤ 12; decide, hx.2.2⟩ upd_s LPm.nil fun k q1 q2 => upd_n (by omega)
  exact h.act hI (by omega) a3 fun k q => (upd_n (by omega)).trans ((upd_n (by omega)).trans (upd_n (by omega)))
/-- behind the children: the one itself -/
theorem m_stop1_ok {S : Mem} {f : Nat → Int32} {w : Wst} {a : Nat} {kS : Int32 → Mem → Option Mem} (h : RM en f w) (hI : Inv w) (ha : a < wN w) : ∃ f1, ((fm_sets (Int32.ofNat a) 5 0 (gM S f)).bind fun S2 => (fm_sets (Int32.ofNat a) 13 0 S2).bind fun S3 => (fm_sets (Int32.ofNat a) 38 0 S3).bind fun S4 => (fm_forgets (Int32.ofNat a) S4).bind fun S5 => (fm_unwatches (Int32.ofNat a) S5).bind fun S6 => (fm_at (Int32.ofNat a) 51 S6).bind fun x1 => (fm_sets (Int32.ofNat a) 51 0 S6).bind fun S7 => fm_stops_56 kS LF (Int32.ofNat a) x1 0 S7) = some (gM S f1) ∧ RM en f1 (sStop1 w a) := by
  have h12 := hI.1
  have ha12 : a < 12 := by omega
  have r1 := m_dead_ok h hI ha
  have i1 : Inv (wSA w a (aSStash (aSMail (aSI (wA w a) 6 0) []) [])) := hI.act (okA_dead (hI.2.1 a ha))
  obtain ⟨f2, g1, r2⟩ := m_forget_ok (S := S) r1 i1 ha
  have i2 := sForget_inv i1 ha
  obtain ⟨f3, g2, r3⟩ := m_unwatch_ok (S := S) r2 i2 ha12
  have i3 := sUnwatch_inv (a := a) i2
  rw [st_5 ha12, obs, st_13 ha12, obs, st_38 ha12, obs, g1, obs, g2, obs, at_51 ha12, obs, st_51 ha12, obs]
  unfold sStop1
  generalize hw2 : sUnwatch (sForget (wSA w a (aSStash (aSMail (aSI (wA w a) 6 0) []) [])) a) a = w2 at r3 i3
  have hn2 : wN w2 = wN w := by rw [← hw2]; rfl
  have ha2 : a < wN w2 := by rw [hn2]; exact ha
  have hA := r3.2.2.1 a ha2
  have hx := i3.fit ha2
  have hq := (i3.2.1 a ha2).2.2.2.2.2.2.2.2.2.1.2
  have r4 : RM en (upd f3 (77 * a + 51) 0) (clr w2 a) := r3.act i3 ha12 (hA.wat hx upd_s LNm.nil fun k q1 q2 => upd_n (by omega)) fun k q => upd_n (by omega)
  have i4 : Inv (clr w2 a) := i3.act (okA_nowat (i3.2.1 a ha2))
  rw [hA.2.2.2.2.1.1]
  obtain ⟨f5, k1, k2⟩ := m_tell_loop (S := S) (kS := kS) ha12 hx.2.2.2.1 (aWat (wA w2 a)).length LF 0 (upd f3 (77 * a + 51) 0) (clr w2 a) (Nat.zero_add _) (by have := hx.2.2.2.1; show _ < 3000; omega) i4 hq r4 (fun j _ hj => by
    rw [upd_n (by omega)]
    exact hA.2.2.2.2.1.2.to j hj)
  refine ⟨f5, k1, ?_⟩
  rw [List.drop_zero, tell_clr] at k2
  exact k2
def MStop (en : Int32) (n lo : Nat) : Prop := ∀ (S : Mem) (f : Nat → Int32) (w : Wst) (a : Nat), lo ≤ a → a < wN w → IT w → sLive w a = true → RM en f w → ∃ f1, fm_stops (n + 2) (Int32.ofNat a) (gM S f) = some (gM S f1) ∧ RM en f1 (sStop n w a)
theorem m_kids_loop {n a : Nat} (hn : 12 ≤ n + (a + 1)) (ha : a < 12) (hs : MStop en n (a + 1)) (S : Mem) : ∀ (c k : Nat) (f : Nat → Int32) (w : Wst), c ≤ wN w → c < k → IT w → RM en f w → ∃ f1, fm_stopsChildren_11 (fm_stops (n + 2)) k (Int32.ofNat a) (Int32.ofNat c - 1) (gM S f) = some (gM S f1) ∧ RM en f1 (sKids (sStop n) a c w)
  | _, 0, _, _, _, h, _, _ => absurd h (Nat.not_lt_zero _)
  | 0, k + 1, f, w, _, _, _, hR => by
    show ∃ f1, fm_stopsChildren_11b (fm_stops (n + 2)) (fm_stopsChildren_11 (fm_stops (n + 2)) k) (Int32.ofNat a) (Int32.ofNat 0 - 1) (gM S f) = _ ∧ _
    unfold fm_stopsChildren_11b
    rw [if_pos]
    · exact ⟨f, rfl, hR⟩
    · rw [Int32.le_iff_toInt_le, n_int (by omega)]
      have : (Int32.ofNat 0 - 1 : Int32).toInt = -1 := by decide
      omega
  | c + 1, k + 1, f, w, hc, hk, hT, hR => by
    have h12 := hT.1.1
    have hkd : sKids (sStop n) a (c + 1) w = sKids (sStop n) a c (if a < c ∧ sLC w c a = true then sStop n w c else w) := rfl
    show ∃ f1, fm_stopsChildren_11b (fm_stops (n + 2)) (fm_stopsChildren_11 (fm_stops (n + 2)) k) (Int32.ofNat a) (Int32.ofNat (c + 1) - 1) (gM S f) = _ ∧ _
    unfold fm_stopsChildren_11b
    rw [n_sub1, hkd]
    by_cases g : c ≤ a
    · rw [if_pos ((n_le (by omega) (by omega)).mpr g), if_neg (fun q => by omega), kids_low c (by omega)]
      exact ⟨f, rfl, hR⟩
    · rw [if_neg (fun q => g ((n_le (by omega) (by omega)).mp q)), m_isLC_ok hR hT.1 (by omega), obs, n_pred]
      by_cases e : sLC w c a = true
      · have hcl := (sLC_of e).1
        obtain ⟨q1, q2, q3, q4, q5⟩ := stop_ok n (a + 1) hn w c (by omega) (by omega) hT.1 hT.2 hcl
        obtain ⟨f1, k1, k2⟩ := hs S f w c (by omega) (by omega) hT hcl hR
        obtain ⟨f2, m1, m2⟩ := m_kids_loop hn ha hs S c k f1 (sStop n w c) (by rw [q3.1]; omega) (by omega) ⟨q1, q2⟩ k2
        rw [if_pos e, if_neg (by decide), k1, obs, if_pos ⟨by omega, e⟩]
        exact ⟨f2, m1, m2⟩
      · rw [if_neg e, if_pos rfl, if_neg (fun q => e q.2)]
        exact m_kids_loop hn ha hs S c k f w (by omega) (by omega) hT hR
theorem m_kids_ok {n a : Nat} (hn : 12 ≤ n + (a + 1)) (hs : MStop en n (a + 1)) {S : Mem} {f : Nat → Int32} {w : Wst} (ha : a < wN w) (hT : IT w) (hR : RM en f w) : ∃ f1, fm_stopsChildren (fm_stops (n + 2)) (Int32.ofNat a) (gM S f) = some (gM S f1) ∧ RM en f1 (sKids (sStop n) a (wN w) w) := by
  have h12 := hT.1.1
  unfold fm_stopsChildren
  rw [g_924, obs, hR.1]
  exact m_kids_loop hn (by omega) hs S (wN w) LF f w (Nat.le_refl _) (by show _ < 3000; omega) hT hR
theorem m_stops : ∀ (n lo : Nat), 12 ≤ n + lo → MStop en n lo
  | 0, lo, h => fun S f w a h1 h2 hT _ _ => by
    have := hT.1.1
    omega
  | n + 1, lo, h => fun S f w a h1 h2 hT hl hR => by
    have h12 := hT.1.1
    obtain ⟨f1, k1, k2⟩ := m_kids_ok (n := n) (a := a) (by omega) (m_stops n (a + 1) (by omega)) (S := S) h2 hT hR
    obtain ⟨q1, q2, q3, -, -⟩ := kids_ok (stop_ok n (a + 1) (by omega)) (wN w) w (Nat.le_refl _) hT.1 hT.2
    obtain ⟨f2, m1, m2⟩ := m_stop1_ok (S := S) (kS := fm_stops (n + 2)) k2 q1 (by rw [q3.1]; exact h2)
    refine ⟨f2, ?_, m2⟩
    show fm_stopsb (fm_stops (n + 2)) (Int32.ofNat a) (gM S f) = _
    unfold fm_stopsb
    rw [k1, obs]
    exact m1
theorem m_stop_ok {S : Mem} {f : Nat → Int32} {w : Wst} {a : Nat} (hT : IT w) (hl : sLive w a = true) (hR : RM en f w) : ∃ f1, fm_stops 14 (Int32.ofNat a) (gM S f) = some (gM S f1) ∧ RM en f1 (sStop 12 w a) := m_stops 12 0 (by omega) S f w a (Nat.zero_le _) (sLive_lt hl).1 hT hl hR
theorem m_restart_ok {S : Mem} {f : Nat → Int32} {w : Wst} {a : Nat} (hT : IT w) (hl : sLive w a = true) (hR : RM en f w) : ∃ f1, fm_restarts (Int32.ofNat a) (gM S f) = some (gM (up2 S 697 6 (S 697 6 ||| (1 <<< (Int32.ofNat a &&& 31)))) f1) ∧ RM en f1 (sRestart w a) := by
  have h12 := hT.1.1
  have ha := (sLive_lt hl).1
  obtain ⟨f1, k1, k2⟩ := m_kids_ok (n := 12) (a := a) (by omega) (m_stops 12 (a + 1) (by omega)) (S := S) ha hT hR
  obtain ⟨q1, q2, -⟩ := rs_kids hT hl
  have hA := k2.2.2.1 a (by have := (sLive_lt q2).1; exact this)
  have ha2 : a < wN (rsW w a) := (sLive_lt q2).1
  have hx := q1.1.fit ha2
  have r1 : RM en (upd f1 (77 * a + 6) 0) (wSA (rsW w a) a (aSI (wA (rsW w a) a) 5 0)) := RM.act (w := rsW w a) k2 q1.1 (by omega) (RMA.cnt hA hx upd_s fun k g1 g2 => upd_n (by omega)) fun k g => upd_n (by omega)
  have i1 := zero_it q1 q2
  have l1 : sLive (wSA (rsW w a) a (aSI (wA (rsW w a) a) 5 0)) a = true := by
    rw [wSA_live (x := aSI (wA (rsW w a) a) 5 0) rfl]
    exact q2
  obtain ⟨f2, m1, m2⟩ := m_forget_ok (S := S) r1 i1.1 ha2
  have i2 := forget_it i1 l1
  obtain ⟨f3, j1, j2⟩ := m_back_ok (S := S) m2 i2.1 ha2
  refine ⟨f3, ?_, j2⟩
  unfold fm_restarts
  rw [k1, obs, st_6 (by omega), obs, m1, obs, j1, obs, obs, gM_up2 (by decide), gM_off (by decide)]
