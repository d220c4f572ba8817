/-! 43: the reference: stops, restarts -/
variable {en : Int32}
def clr (w : Wst) (a : Nat) : Wst := wSA w a (aSWat (wA w a) [])
theorem clr_live (w : Wst) (a b : Nat) : sLive (clr w a) b = sLive w b := wSA_live (w := w) (a := a) (x := aSWat (wA w a) []) rfl b
theorem clr_mail (w : Wst) (a b : Nat) : aMail (wA (clr w a) b) = aMail (wA w b) := by
  show aMail (xup (wA w) a (aSWat (wA w a) []) b) = _
  by_cases e : b = a
  · rw [e, xup_s]
    rfl
  · rw [xup_n e]
theorem send_clr (w : Wst) (a q : Nat) (m : Msg) : sSend (clr w a) q m = clr (sSend w q m) a := by
  unfold sSend
  rw [clr_live, clr_mail]
  by_cases e : sLive w q = true ∧ (aMail (wA w q)).length < 12
  · rw [if_pos e, if_pos e]
    unfold clr wSA wSF
    show (_, _, _, _, _, _) = (_, _, _, _, _, _)
    congr 1
    congr 1
    congr 1
    funext b
    show xup (xup (wA w) a (aSWat (wA w a) [])) q (aSMail (xup (wA w) a (aSWat (wA w a) []) q) (aMail (wA w q) ++ [m])) b = xup (xup (wA w) q (aSMail (wA w q) (aMail (wA w q) ++ [m]))) a (aSWat (xup (wA w) q (aSMail (wA w q) (aMail (wA w q) ++ [m])) a) []) b
    by_cases e1 : b = q
    · subst e1
      rw [xup_s]
      by_cases e2 : b = a
      · subst e2
        rw [xup_s, xup_s, xup_s]
        rfl
      · rw [xup_n e2, xup_n e2, xup_s]
    · rw [xup_n e1]
      by_cases e2 : b = a
      · subst e2
        rw [xup_s, xup_s, xup_n e1]
      · rw [xup_n e2, xup_n e2, xup_n e1]
  · rw [if_neg e, if_neg e]
    rfl
theorem tell_clr (c a : Nat) : ∀ (l : List Int32) (w : Wst), sTell (clr w c) a l = clr (sTell w a l) c
  | [], _ => rfl
  | q :: l, w => by
    show sTell (sSend (clr w c) (nu q) (-1, 200 + Int32.ofNat a)) a l = clr (sTell (sSend w (nu q) (-1, 200 + Int32.ofNat a)) a l) c
    rw [send_clr, tell_clr c a l]
theorem bm_death {k : Nat} (h : k < 12) : bm (200 + Int32.ofNat k) = 1000 + Int32.ofNat k := by
  unfold bm
  rw [show (200 : Int32) = Int32.ofNat 200 from rfl, n_add, if_pos ((n_le (by decide) (by omega)).mpr (by omega)), show (800 : Int32) = Int32.ofNat 800 from rfl, show (1000 : Int32) = Int32.ofNat 1000 from rfl, n_add, n_add]
  congr 1
  omega
theorem death_num {k : Nat} (h : k < 12) : ¬ okV (200 + Int32.ofNat k) := fun q => by
  have h1 := body_num q
  rw [show (200 : Int32) = Int32.ofNat 200 from rfl, n_add, n_le (by decide) (by omega)] at h1
  omega
theorem bm_num {v : Int32} (h : okV v) : bm v = v := if_neg (body_num h)
