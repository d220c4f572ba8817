/-! 53: calls in thought -/
/-- the log, and all whole numbers but the letters, stay -/
def FX (w w1 : Wst) : Prop := wL w1 = wL w ∧ ∀ k, k ≠ 8 → wI w1 k = wI w k
theorem FX.refl (w : Wst) : FX w w := ⟨rfl, fun _ _ => rfl⟩
theorem FX.trans {w w1 w2 : Wst} (h : FX w w1) (k : FX w1 w2) : FX w w2 := ⟨k.1.trans h.1, fun j hj => (k.2 j hj).trans (h.2 j hj)⟩
theorem Kp.fx {w w1 : Wst} (h : Kp w w1) : FX w w1 := ⟨h.2.2.2.1, h.2.2.2.2.2⟩
theorem s1_fx (w : Wst) (a : Nat) : FX w (sStop1 w a) := by
  have h := (s1_pre w a).fx
  exact h
theorem stop_fx (n : Nat) (w : Wst) (a : Nat) : FX w (sStop n w a) := stop_rel FX.refl FX.trans s1_fx n w a
theorem back_fx (w : Wst) (a : Nat) : FX w (sBack w a) := ⟨rfl, fun k hk => by
  show upd (wI w) 8 _ k = _
  exact upd_n hk⟩
theorem restart_fx (w : Wst) (a : Nat) : FX w (sRestart w a) := by
  have h1 : FX w (rsW w a) := kids_rel FX.refl FX.trans (stop_fx 12) a (wN w) w
  have h2 : FX (rsW w a) (sRestart w a) := by
    have h3 := back_fx (sForget (wSA (rsW w a) a (aSI (wA (rsW w a) a) 5 0)) a) a
    exact h3
  exact h1.trans h2
theorem rests_fx (t : Nat) : ∀ (k c : Nat) (w : Wst) (q : Int32), FX w (sRests t k c w q).1
  | 0, _, w, _ => FX.refl w
  | k + 1, c, w, q => by
    show FX w (if sWith w t c = true then sRests t k (c + 1) (sRestart w c) (q ||| (1 <<< (Int32.ofNat c &&& 31))) else sRests t k (c + 1) w q).1
    split
    · exact (restart_fx w c).trans (rests_fx t k (c + 1) _ _)
    · exact rests_fx t k (c + 1) w q
theorem climb_fx : ∀ (m : Nat) (w : Wst) (l : List Msg) (t : Nat), FX w (sClimb m w l t).1 ∧ (l ≠ [] → (sClimb m w l t).2.1 ≠ [])
  | 0, w, _, _ => ⟨FX.refl w, fun h => h⟩
  | m + 1, w, l, t => by
    have hs : sClimb (m + 1) w l t = if t = 0 then (w, l, t) else if sOver w (par w t) = true then sClimb m (sNote w (par w t)) (l ++ [(Int32.ofNat (par w t), 9)]) (par w t) else (sNote w (par w t), l, t) := rfl
    have hn : FX w (sNote w (par w t)) := ⟨rfl, fun _ _ => rfl⟩
    rw [hs]
    split
    · exact ⟨FX.refl w, fun h => h⟩
    split
    · obtain ⟨q1, q2⟩ := climb_fx m (sNote w (par w t)) (l ++ [(Int32.ofNat (par w t), 9)]) (par w t)
      exact ⟨hn.trans q1, fun _ => q2 (by simp)⟩
    · exact ⟨hn, fun h => h⟩
theorem fail_fx (w : Wst) (a : Nat) (why q : Int32) : FX w (sFail w a why q).1 := by
  have hc := (climb_fx 12 w [(Int32.ofNat a, why)] a).1
  unfold sFail
  dsimp only
  split
  · exact hc.trans (stop_fx 12 (wSC _ _) 0)
  · exact hc.trans (rests_fx _ _ _ (wSC _ _) _)
theorem watch_fx (w : Wst) (a : Nat) (n : Int32) : FX w (sWatch w a n) := by
  unfold sWatch
  dsimp only
  split
  · exact FX.refl w
  split
  · split
    · exact FX.refl w
    · exact ⟨rfl, fun _ _ => rfl⟩
  · exact (sSend_kp ..).fx
theorem delay_fx (w : Wst) (a : Nat) (n : Int32) : FX w (sDelay w a n) := by
  unfold sDelay
  split
  · exact ⟨rfl, fun _ _ => rfl⟩
  · exact FX.refl w
theorem deal_fx (w : Wst) (a : Nat) (f b : Int32) : FX w (sDeal w a f b).1 := by
  unfold sDeal
  dsimp only
  split
  · split
    · exact FX.refl w
    · exact ⟨rfl, fun _ _ => rfl⟩
  split
  · exact ⟨rfl, fun _ _ => rfl⟩
  split
  · exact (sPass_kp a b false (wN w) 0 w).fx
  split
  · show FX w (if 0 < b ∧ 0 ≤ f then sSend w (nu f) (Int32.ofNat a, b - 1) else w)
    split
    · exact (sSend_kp w (nu f) (Int32.ofNat a, b - 1)).fx
    · exact FX.refl w
  split
  · split
    · exact back_fx w a
    · split
      · exact FX.refl w
      · exact ⟨rfl, fun _ _ => rfl⟩
  split
  · split
    · exact ⟨rfl, fun _ _ => rfl⟩
    · split
      · exact FX.refl w
      · exact ⟨rfl, fun _ _ => rfl⟩
  split
  · split
    · exact FX.refl w
    · exact ⟨rfl, fun _ _ => rfl⟩
  split
  · exact delay_fx w a b
  split
  · exact (sPass_kp a b true (wN w) 0 w).fx
  split
  · exact watch_fx w a b
  · exact stop_fx 12 w a
/-- causes stay -/
theorem s1_cau (w : Wst) (a : Nat) : wC (sStop1 w a) = wC w := by
  have h := (s1_pre w a).2.2.2.2.1
  exact h
theorem stop_cau (n : Nat) (w : Wst) (a : Nat) : wC (sStop n w a) = wC w := stop_rel (P := fun w w1 => wC w1 = wC w) (fun _ => rfl) (fun h k => k.trans h) s1_cau n w a
theorem rests_cau (t : Nat) : ∀ (k c : Nat) (w : Wst) (q : Int32), wC (sRests t k c w q).1 = wC w
  | 0, _, _, _ => rfl
  | k + 1, c, w, q => by
    show wC (if sWith w t c = true then sRests t k (c + 1) (sRestart w c) (q ||| (1 <<< (Int32.ofNat c &&& 31))) else sRests t k (c + 1) w q).1 = wC w
    have h1 : wC (rsW w c) = wC w := kids_rel (P := fun w w1 => wC w1 = wC w) (fun _ => rfl) (fun h k => k.trans h) (stop_cau 12) c (wN w) w
    have h2 : wC (sRestart w c) = wC (rsW w c) := rfl
    split
    · exact (rests_cau t k (c + 1) _ _).trans (h2.trans h1)
    · exact rests_cau t k (c + 1) w q
theorem fail_cau (w : Wst) (a : Nat) (why q : Int32) : wC (sFail w a why q).1 ≠ [] := by
  have hc := (climb_fx 12 w [(Int32.ofNat a, why)] a).2 (by simp)
  unfold sFail
  dsimp only
  split
  · rw [stop_cau]
    exact hc
  · rw [rests_cau]
    exact hc
theorem how_iff {w : Wst} (hg : Good w) : sHow w = 0 ↔ sHas w = true := by
  refine ⟨how_has, fun h => ?_⟩
  unfold sHow
  by_cases e : 0 < wN w ∧ sLive w 0 = false
  · exfalso
    have dead : ∀ b, ¬ sLive w b = true := fun b q => by
      rw [root_live hg.1 hg.2.1 q] at e
      exact absurd e.2 (by decide)
    unfold sHas at h
    cases hd : sDealer w with
    | some a => exact dead a (dealer_some hd).1
    | none =>
      rw [hd] at h
      cases ht : wT w with
      | nil =>
        rw [ht] at h
        exact absurd h (by decide)
      | cons t l => exact dead _ (hg.2.1.2.1 t (by rw [ht]; exact List.mem_cons_self))
  · rw [if_neg e, if_pos h]
section
variable {S : Mem} {w : Wst} {ik : Option Wst} {bl : List Int32} {hd : Nat → Hd}
theorem think_rel (h : REL S w ik bl hd) {Sx Y : Mem} {f : Nat → Int32} (hf : fr S Sx) (h1 : ∀ b, inW 1 b → Sx b = S b) (hO : OE (xup Sx 699 (tk (Sx 698) (Sx 699))) Y) : REL (gM Y (tk (Y 699) f)) w ik bl hd := by
  have hI := h.2.2.1.1
  have hm : mf Sx (gM Y (tk (Y 699) f)) := by
    have h2 := hO.mf (f := (xup Sx 699 (tk (Sx 698) (Sx 699))) 698) (g := tk (Y 699) f)
    rw [gM_eta] at h2
    exact (save_mf Sx _).trans h2
  refine h.same hf h1 hm ?_
  have e : Y 699 = tk (Sx 698) (Sx 699) := by rw [hO.1 699 (by decide) (by decide), xup_self]
  have hr : RM (wI w 10) (Sx 698) w := by
    rw [hf 698 (by omega)]
    exact h.2.1.1
  rw [gM_at, e]
  exact RM_tk (RM_tk hr hI) hI
/-- the copy that thinks, and the row put by -/
theorem think_start (h : REL S w ik bl hd) : ∃ S1, fw_copyFrom 169 1 S = some S1 ∧ RW S1 169 w ∧ Only (inW 169) S S1 := by
  obtain ⟨S1, q1, q2, q3⟩ := w_copy_ok (W := 169) (V := 1) (Or.inr (Or.inl rfl)) (Or.inl rfl) (by decide) h.1.1 h.2.2.1.1
  exact ⟨S1, q1, q2, q3.1⟩
theorem think_only {S1 : Mem} (h : Only (inW 169) S S1) : fr S S1 ∧ ∀ b, inW 1 b → S1 b = S b := ⟨fr.of (Or.inr (Or.inl rfl)) h, fun b q => h b fun p => by
  have := q.2
  have := p.1
  omega⟩
theorem look_1 (h : REL S w ik bl hd) {S1 : Mem} (hO : Only (inW 169) S S1) : RW S1 1 w ∧ RM (wI w 10) (S1 698) w := by
  obtain ⟨h1, h2⟩ := think_only hO
  refine ⟨h.1.1.congr h.2.2.1.1.1 h2, ?_⟩
  rw [h1 698 (by omega)]
  exact h.2.1.1
theorem actor_m (h : REL S w ik bl hd) {S1 : Mem} (hO : Only (inW 169) S S1) (v : Int32) : fm_isActor v S1 = fm_isActor v S := by
  have e698 : S1 698 = S 698 := (think_only hO).1 698 (by omega)
  unfold fm_isActor
  rw [v924, v924, e698]
  rfl
theorem live_m (h : REL S w ik bl hd) {S1 : Mem} (hO : Only (inW 169) S S1) (v : Int32) : fm_isLive v S1 = fm_isLive v S := by
  have e698 : S1 698 = S 698 := (think_only hO).1 698 (by omega)
  unfold fm_isLive fm_at ald
  rw [e698]
/-- one that may not be live -/
theorem live_cases (h : REL S w ik bl hd) (v : Int32) : (∃ a, a < wN w ∧ a < 12 ∧ v = Int32.ofNat a ∧ sLive w a = true ∧ fw_isLive 1 v S = some 1 ∧ fm_isActor v S = some 1 ∧ fm_isLive v S = some 1) ∨ (fw_isLive 1 v S = some 0 ∧ (fm_isActor v S = some 0 ∨ (fm_isActor v S = some 1 ∧ fm_isLive v S = some 0))) := by
  have hI := h.2.2.1.1
  rcases actor_cases h v with ⟨a, ha, ha12, rfl, e1, e2⟩ | ⟨e1, e2⟩
  · obtain ⟨l1, l2⟩ := live_both h ha
    by_cases e : sLive w a = true
    · rw [if_pos e] at l1 l2
      exact Or.inl ⟨a, ha, ha12, rfl, e, l1, e2, l2⟩
    · rw [if_neg e] at l1 l2
      exact Or.inr ⟨l1, Or.inr ⟨e2, l2⟩⟩
  · refine Or.inr ⟨?_, Or.inl e2⟩
    have h12 := hI.1
    rcases nn_cases v with hv | ⟨i, hi, rfl⟩
    · exact w_isLive_no h.1.1 (Or.inl hv)
    · rw [w_isActor_any h.1.1 hI hi] at e1
      by_cases g : i < wN w
      · rw [if_pos g] at e1
        exact absurd (Option.some.inj e1) (by decide)
      · rw [w_isLive_any h.1.1 hI hi, kill_big g]
        rfl
theorem in02 (v : Int32) (S1 : Mem) : (¬ v < 0 ∧ v ≤ 2 ∧ fm_in v 0 2 S1 = some 1 ∧ (v = 0 ∨ v = 1 ∨ v = 2)) ∨ ((v < 0 ∨ ¬ v < 0 ∧ ¬ v ≤ 2) ∧ fm_in v 0 2 S1 = some 0) := by
  rw [in_ok]
  by_cases h1 : v < 0
  · exact Or.inr ⟨Or.inl h1, by rw [if_neg (fun q => q.1 h1)]⟩
  · by_cases h2 : v ≤ 2
    · refine Or.inl ⟨h1, h2, by rw [if_pos ⟨h1, Int32.not_lt.mpr h2⟩], ?_⟩
      rcases nn_cases v with hv | ⟨n, hn, rfl⟩
      · exact absurd hv h1
      · rw [show (2 : Int32) = Int32.ofNat 2 from rfl, n_le hn (by decide)] at h2
        have : n = 0 ∨ n = 1 ∨ n = 2 := by omega
        rcases this with rfl | rfl | rfl
        · exact Or.inl rfl
        · exact Or.inr (Or.inl rfl)
        · exact Or.inr (Or.inr rfl)
    · exact Or.inr ⟨Or.inr ⟨h1, h2⟩, by rw [if_neg (fun q => q.2 (Int32.not_le.mp h2))]⟩
theorem live_val {u : Wst} {a : Nat} (hI : Inv u) (ha : a < wN u) : aI (wA u a) 6 = if sLive u a = true then 1 else 0 := by
  by_cases e : sLive u a = true
  · rw [if_pos e]
    exact (sLive_lt e).2
  · rw [if_neg e]
    exact (hI.b ha).resolve_right fun q => e (sLive_of ha q)
theorem e_would (h : REL S w ik bl hd) (v1 v2 v3 : Int32) : ∃ r S1 S2, fx_would v1 v2 v3 S = some (r, S1) ∧ fm_would v1 v2 v3 S1 = some (r, S2) ∧ REL S2 w ik bl hd := by
  have hg := h.2.2.1
  have hI := hg.1
  have h12 := hI.1
  have k0 : ∀ v : Int32, ∀ (_ : fm_would v1 v2 v3 S = some (v, S)), ∃ r S1 S2, (some (v, S) : Option (Int32 × Mem)) = some (r, S1) ∧ fm_would v1 v2 v3 S1 = some (r, S2) ∧ REL S2 w ik bl hd := fun v q => ⟨v, S, S, rfl, q, h⟩
  unfold fx_would
  rcases live_cases h v1 with ⟨a, ha, ha12, rfl, hl, e1, e2, e3⟩ | ⟨e1, e2⟩
  · rw [e1, obs, if_neg n10]
    rcases num_cases v2 S S with ⟨hv, n1, n2⟩ | ⟨hv, n1, n2⟩
    · rw [n1, obs, if_neg n10]
      rcases in02 v3 S with ⟨c1, c2, c3, c4⟩ | ⟨c1, c2⟩
      · rw [if_neg c1, if_pos c2]
        obtain ⟨S1, q1, q2, q3⟩ := think_start h
        have hmm : okM (wN w) (-1, v2) := ⟨Or.inl rfl, Or.inl hv⟩
        obtain ⟨S2, d1, d2, d3⟩ := w_deal_ok (W := 169) (f := -1) (b := v2) (Or.inr (Or.inl rfl)) hmm hl q2 hI hg.2.1
        have hgr := sDeal_good hg hl hmm
        obtain ⟨rr, hrr⟩ : ∃ rr, rr = sDeal w a (-1) v2 := ⟨_, rfl⟩
        rw [← hrr] at d1 d2 hgr
        have hn : wN rr.1 = wN w := by rw [hrr]; exact deal_n ..
        -- the world thought of
        obtain ⟨u, hu⟩ : ∃ u, u = if rr.2 = 0 then rr.1 else (sFail rr.1 a rr.2 0).1 := ⟨_, rfl⟩
        have hcls : ∃ S3, (if rr.2 = 0 then (fx_would_68 (Int32.ofNat a) v3 rr.2 S2) else ((fw_fail 169 (Int32.ofNat a) rr.2 S2).bind fun S3 => fx_would_68 (Int32.ofNat a) v3 rr.2 S3)) = fx_would_68 (Int32.ofNat a) v3 rr.2 S3 ∧ RW S3 169 u ∧ Only (inW 169) S S3 ∧ Inv u ∧ wN u = wN w := by
          by_cases e : rr.2 = 0
          · rw [if_pos e] at hu ⊢
            rw [hu]
            exact ⟨S2, rfl, d2, q3.trans d3.1, hgr.1, hn⟩
          · have hw : rr.1 = w := by rw [hrr] at e ⊢; exact deal_fail e
            rw [if_neg e] at hu ⊢
            rw [hw] at d2 hu
            obtain ⟨S3, f1, f2, f3, f4, f5⟩ := w_fail_ok (why := rr.2) (Or.inr (Or.inl rfl) : IsW 169) d2 hg hl
            rw [fail_q _ _ _ _ 0, ← hu] at f2
            obtain ⟨p1, p2⟩ := sFail_good (why := rr.2) (q := 0) hg hl
            rw [← hu] at p1 p2
            rw [f1, obs]
            exact ⟨S3, rfl, f2, (q3.trans d3.1).trans f3, p1.1, p2⟩
        obtain ⟨S3, t1, t2, t3, t4, t5⟩ := hcls
        have hau : a < wN u := by rw [t5]; exact ha
        rw [q1, obs, d1, bd_some, t1]
        obtain ⟨r1, r2⟩ := look_1 h t3
        have hr3 : RM (wI w 10) (up2 (xup S3 699 (tk (S3 698) (S3 699))) 697 5 0 698) w := by
          rw [up2_off (by decide), xup_ne (by decide)]
          exact r2
        obtain ⟨S5, f5, m1, m2, m3⟩ := m_deal_ok (S := up2 (xup S3 699 (tk (S3 698) (S3 699))) 697 5 0) (fr := -1) (b := v2) (p := -1) (n := v2) hr3 hg hl hmm (MM_num hv)
        rw [gM_eta] at m1
        rw [← hrr] at m2 m3
        have o0 : OE (xup S3 699 (tk (S3 698) (S3 699))) (up2 (xup S3 699 (tk (S3 698) (S3 699))) 697 5 0) := OE.f697 (by omega)
        have hmod : RM (wI w 10) f5 u ∧ OE (xup S3 699 (tk (S3 698) (S3 699))) S5 ∧ ((rr.2 = 0 ∧ S5 697 5 = 0) ∨ (¬ rr.2 = 0 ∧ S5 697 5 = 1 ∧ S5 702 1 = rr.2)) := by
          by_cases e : rr.2 = 0
          · obtain ⟨x1, x2⟩ := m2 e
            rw [if_pos e] at hu
            rw [hu, x1]
            exact ⟨x2, o0, Or.inl ⟨e, up2_self⟩⟩
          · obtain ⟨x1, x2, x3, x4, x5⟩ := m3 e
            rw [if_neg e] at hu
            rw [fail_q _ _ _ _ 0, ← hu] at x1
            exact ⟨x1, o0.trans x2.oe, Or.inr ⟨e, x3, x5⟩⟩
        obtain ⟨x1, x2, x3⟩ := hmod
        have hA := t2.2.2.1 a hau
        have hM := x1.2.2.1 a hau
        have hmw : fm_would (Int32.ofNat a) v2 v3 S3 = if v3 = 0 then some (f5 (77 * a + 6), gM S5 (tk (S5 699) f5)) else if v3 = 1 then some (f5 (77 * a + 5), gM S5 (tk (S5 699) f5)) else if S5 697 5 = 0 then some (0, gM S5 (tk (S5 699) f5)) else some (S5 702 1, gM S5 (tk (S5 699) f5)) := by
          have n3 : fm_isNumber v2 S3 = some 1 := by
            rcases num_cases v2 S S3 with ⟨-, -, q⟩ | ⟨q, -⟩
            · exact q
            · exact absurd hv q
          have i3 : fm_in v3 0 2 S3 = some 1 := by
            rcases in02 v3 S3 with ⟨-, -, q, -⟩ | ⟨q, -⟩
            · exact q
            · rcases q with q | q
              · exact absurd q c1
              · exact absurd c2 q.2
          unfold fm_would
          rw [actor_m h t3, e2, obs, if_neg n10, n3, obs, if_neg n10, i3, obs, if_neg n10, live_m h t3, e3, obs, if_neg n10, save_ok, obs, obs, m1, obs, at_6 ha12, obs, at_5 ha12, obs, load_ok, obs, obs, obs, gM_off (show (697 : Nat) ≠ 698 by decide), show ald (gM S5 f5) 702 1 = some (S5 702 1) from l702 (k := 1) (by decide), obs, obs]
        have hrel := think_rel h (f := f5) (think_only t3).1 (think_only t3).2 x2
        have hIu : IsB (wA u a) := t4.b hau
        have hlive : fw_isLive 169 (Int32.ofNat a) S3 = some (if sLive u a = true then 1 else 0) := w_isLive_ok t2 t4.1 hau hIu
        unfold fx_would_68
        rw [hlive, obs]
        rcases c4 with rfl | rfl | rfl
        · rw [if_pos rfl, ix_n ha12 (by decide), obs]
          refine ⟨_, S3, _, rfl, ?_, hrel⟩
          rw [hmw, if_pos rfl, hM.1.2.2.2.2.2.2, hA.1 5 (by decide)]
        · have hz : (if (if sLive u a = true then (1 : Int32) else 0) = 0 then some ((0 : Int32), S3) else some (1, S3)) = some (if sLive u a = true then 1 else 0, S3) := by
            by_cases e : sLive u a = true
            · rw [if_pos e, if_neg n10]
            · rw [if_neg e, if_pos rfl]
          rw [if_neg n10, if_neg (by decide), hz]
          refine ⟨_, S3, _, rfl, ?_, hrel⟩
          rw [hmw, if_neg n10, if_pos rfl, hM.1.2.2.2.2.2.1, live_val t4 hau]
        · rw [if_neg (by decide), if_pos rfl]
          refine ⟨_, S3, gM S5 (tk (S5 699) f5), rfl, ?_, hrel⟩
          rw [hmw, if_neg (by decide), if_neg (by decide)]
          rcases x3 with ⟨y1, y2⟩ | ⟨y1, y2, y3⟩
          · rw [y2, if_pos rfl, y1]
          · rw [y2, if_neg n10, y3]
      · have hm : fm_would (Int32.ofNat a) v2 v3 S = some (-2000000000, S) := by
          unfold fm_would
          rw [e2, obs, if_neg n10, n2, obs, if_neg n10, c2, obs, if_pos rfl]
        rcases c1 with c1 | ⟨c1, c3⟩
        · rw [if_pos c1]
          exact ⟨_, _, _, rfl, hm, h⟩
        · rw [if_neg c1, if_neg c3]
          exact ⟨_, _, _, rfl, hm, h⟩
    · rw [n1, obs, if_pos rfl]
      refine ⟨_, _, _, rfl, ?_, h⟩
      unfold fm_would
      rw [e2, obs, if_neg n10, n2, obs, if_pos rfl]
  · rw [e1, obs, if_pos rfl]
    refine ⟨_, _, _, rfl, ?_, h⟩
    unfold fm_would
    rcases e2 with e2 | ⟨e2, e3⟩
    · rw [e2, obs, if_pos rfl]
    · rw [e2, obs, if_neg n10]
      rcases num_cases v2 S S with ⟨hv, n1, n2⟩ | ⟨hv, n1, n2⟩
      · rw [n2, obs, if_neg n10]
        rcases in02 v3 S with ⟨c1, c2, c3, c4⟩ | ⟨c1, c2⟩
        · rw [c3, obs, if_neg n10, e3, obs, if_pos rfl]
        · rw [c2, obs, if_pos rfl]
      · rw [n2, obs, if_pos rfl]
end
