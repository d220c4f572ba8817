/-! 54: calls in thought: brings, dry, first, quiet -/
section
variable {S : Mem} {w : Wst} {ik : Option Wst} {bl : List Int32} {hd : Nat → Hd}
theorem e_brings (h : REL S w ik bl hd) (v1 v2 : Int32) : ∃ r S1 S2, fx_brings v1 v2 S = some (r, S1) ∧ fm_brings v1 v2 S1 = some (r, S2) ∧ REL S2 w ik bl hd := by
  have hg := h.2.2.1
  have hI := hg.1
  have h12 := hI.1
  unfold fx_brings
  rcases live_cases h v1 with ⟨a, ha, ha12, rfl, hl, e1, e2, e3⟩ | ⟨e1, e2⟩
  · rw [e1, obs, if_neg n10]
    rcases in02 v2 S with ⟨c1, c2, c3, c4⟩ | ⟨c1, c2⟩
    · rw [if_neg c1, if_pos c2]
      obtain ⟨S1, q1, q2, q3⟩ := think_start h
      have r2 : RW (up2 S1 169 12 0) 169 w := q2.flag (by decide)
      have o2 : Only (inW 169) S (up2 S1 169 12 0) := q3.up ⟨by omega, by omega⟩
      obtain ⟨S3, f1, f2, f3, f4, f5⟩ := w_fail_ok (why := 5) (Or.inr (Or.inl rfl) : IsW 169) r2 hg hl
      rw [up2_self] at f2 f5
      have o3 := o2.trans f3
      obtain ⟨p1, p2⟩ := sFail_good (why := 5) (q := 0) hg hl
      have hcau := fail_cau w a 5 0
      obtain ⟨u, hu⟩ : ∃ u, u = (sFail w a 5 0).1 := ⟨_, rfl⟩
      obtain ⟨qb, hqb⟩ : ∃ qb, qb = (sFail w a 5 0).2 := ⟨_, rfl⟩
      rw [← hu] at f2 p1 p2 hcau
      rw [← hqb] at f5
      obtain ⟨l1, l2⟩ := look_1 h o3
      -- the reference
      have hX : RM (wI w 10) (up2 (xup S3 699 (tk (S3 698) (S3 699))) 697 6 0 698) w := by
        rw [up2_off (by decide), xup_ne (by decide)]
        exact l2
      obtain ⟨S5, f5', m1, m2, m3, m4, m5, m6⟩ := m_fails_ok (S := up2 (xup S3 699 (tk (S3 698) (S3 699))) 697 6 0) (why := 5) hX hg hl
      rw [gM_eta] at m1
      rw [up2_self, ← hu] at m2
      rw [up2_self, ← hqb] at m5
      have x1 : fm_liveOnes (xup S3 699 (tk (S3 698) (S3 699))) = some (sBits (sLive w) (wN w) 0 0) := by
        have hr : RM (wI w 10) ((xup S3 699 (tk (S3 698) (S3 699))) 698) w := by
          rw [xup_ne (by decide)]
          exact l2
        have := m_liveOnes_ok (S := xup S3 699 (tk (S3 698) (S3 699))) hr hI
        rwa [gM_eta] at this
      have x2 := m_liveOnes_ok (S := S5) m2 p1.1
      have x3 : fw_liveBits 1 S3 = some (sBits (sLive w) (wN w) 0 0) := w_liveBits_ok l1 hI
      have x4 : fw_liveBits 169 S3 = some (sBits (sLive u) (wN u) 0 0) := w_liveBits_ok f2 p1.1
      have hP : RP S3 178 (wC u) := f2.2.2.2.2.2
      have hL := m2.2.2.2.2.2
      have hlen : 1 ≤ (wC u).length := by
        cases hc : wC u with
        | nil => exact absurd hc hcau
        | cons _ _ =>
          rw [List.length_cons]
          omega
      have hl12 := p1.1.2.2.2.2.1.1
      have hx : (wC u)[(wC u).length - 1]? = some (wC u)[(wC u).length - 1] := List.getElem?_eq_getElem (by omega)
      have hrv : (wC u).reverse[0]? = some (wC u)[(wC u).length - 1] := by
        rw [List.getElem?_reverse (by omega)]
        exact hx
      have h994 : f5' 994 = (wC u)[(wC u).length - 1].1 := (hL.2 0 _ hrv).1
      obtain ⟨t1, t2, t3, t4, t5⟩ := lnW (Or.inr (Or.inl rfl) : IsW 169)
      have x5 : fp_firstAt 178 ((S3 178 2) - 1) S3 = some (wC u)[(wC u).length - 1].1 := by
        rw [hP.1, show (1 : Int32) = Int32.ofNat 1 from rfl, n_sub hlen]
        exact p_first_ok hP hx (by show _ ≤ ln (169 + 9 + 1); rw [t4]; omega) (by show ln (169 + 9 + 1) < _; rw [t4]; decide)
      have o0 : OE (xup S3 699 (tk (S3 698) (S3 699))) S5 := (OE.f697 (S := xup S3 699 (tk (S3 698) (S3 699))) (k := 6) (v := 0) (by omega)).trans m3.oe
      have hrel := think_rel h (f := f5') (think_only o3).1 (think_only o3).2 o0
      have hmw : fm_brings (Int32.ofNat a) v2 S3 = if v2 = 0 then some (qb, gM S5 (tk (S5 699) f5')) else if v2 = 1 then some (sBits (sLive w) (wN w) 0 0 &&& (sBits (sLive u) (wN u) 0 0 ^^^ (-1)), gM S5 (tk (S5 699) f5')) else some ((wC u)[(wC u).length - 1].1, gM S5 (tk (S5 699) f5')) := by
        have i3 : fm_in v2 0 2 S3 = some 1 := by
          rcases in02 v2 S3 with ⟨-, -, q, -⟩ | ⟨q, -⟩
          · exact q
          · rcases q with q | q
            · exact absurd q c1
            · exact absurd c2 q.2
        unfold fm_brings
        rw [actor_m h o3, e2, obs, if_neg n10, i3, obs, if_neg n10, live_m h o3, e3, obs, if_neg n10, save_ok, obs, x1, obs, obs, m1, obs]
        simp only [load_ok, obs]
        rw [x2]
        simp only [obs]
        rw [gM_off (show (697 : Nat) ≠ 698 by decide), m5, g_994]
        simp only [obs]
        rw [h994]
      rw [q1, obs, obs, f1, obs, f5, x3, obs, x4, obs, x5, obs]
      rcases c4 with rfl | rfl | rfl
      · rw [if_pos rfl]
        refine ⟨_, S3, _, rfl, ?_, hrel⟩
        rw [hmw, if_pos rfl]
      · rw [if_neg n10, if_pos rfl]
        refine ⟨_, S3, _, rfl, ?_, hrel⟩
        rw [hmw, if_neg n10, if_pos rfl]
      · rw [if_neg (by decide), if_neg (by decide)]
        refine ⟨_, S3, _, rfl, ?_, hrel⟩
        rw [hmw, if_neg (by decide), if_neg (by decide)]
    · have hm : fm_brings (Int32.ofNat a) v2 S = some (-2000000000, S) := by
        unfold fm_brings
        rw [e2, obs, if_neg n10, c2, obs, if_pos rfl]
      rcases c1 with c1 | ⟨c1, c3⟩
      · rw [if_pos c1]
        exact ⟨_, _, _, rfl, hm, h⟩
      · rw [if_neg c1, if_neg c3]
        exact ⟨_, _, _, rfl, hm, h⟩
  · rw [e1, obs, if_pos rfl]
    refine ⟨_, _, _, rfl, ?_, h⟩
    unfold fm_brings
    rcases e2 with e2 | ⟨e2, e3⟩
    · rw [e2, obs, if_pos rfl]
    · rw [e2, obs, if_neg n10]
      rcases in02 v2 S with ⟨c1, c2, c3, c4⟩ | ⟨c1, c2⟩
      · rw [c3, obs, if_neg n10, e3, obs, if_pos rfl]
      · rw [c2, obs, if_pos rfl]
/-! dry -/
theorem dry_cases (v : Int32) : ((v = 0 ∨ v = 1 ∨ v = 2 ∨ v = 3 ∨ v = 4 ∨ v = 5) ∧ ¬ v < 0 ∧ v ≤ 5 ∧ ∀ S1 : Mem, fm_in v 0 5 S1 = some 1) ∨ (v < 10 ∧ (v < 0 ∨ (¬ v < 0 ∧ ¬ v ≤ 5)) ∧ ∀ S1 : Mem, fm_in v 0 5 S1 = some 0) ∨ (¬ v < 10 ∧ ¬ v < 0 ∧ ¬ v ≤ 5 ∧ (v ≠ 0 ∧ v ≠ 1 ∧ v ≠ 2 ∧ v ≠ 3 ∧ v ≠ 4 ∧ v ≠ 5) ∧ ∀ S1 : Mem, fm_in v 0 5 S1 = some 0) := by
  rcases nn_cases v with hv | ⟨n, hn, rfl⟩
  · refine Or.inr (Or.inl ⟨?_, Or.inl hv, fun S1 => by rw [in_ok, if_neg (fun q => q.1 hv)]⟩)
    rw [Int32.lt_iff_toInt_lt] at hv ⊢
    have a0 : (0 : Int32).toInt = 0 := by decide
    have a1 : (10 : Int32).toInt = 10 := by decide
    omega
  · have h0 := n_neg hn
    have h5 : (Int32.ofNat n ≤ 5) = (n ≤ 5) := by rw [show (5 : Int32) = Int32.ofNat 5 from rfl]; exact propext (n_le hn (by decide))
    have h10 : (Int32.ofNat n < 10) = (n < 10) := by rw [show (10 : Int32) = Int32.ofNat 10 from rfl]; exact propext (n_lt hn (by decide))
    have h5' : (5 < Int32.ofNat n) = (5 < n) := by rw [show (5 : Int32) = Int32.ofNat 5 from rfl]; exact propext (n_lt (by decide) hn)
    by_cases c1 : n ≤ 5
    · refine Or.inl ⟨?_, h0, by rw [h5]; exact c1, fun S1 => by rw [in_ok, if_pos ⟨h0, by rw [h5']; omega⟩]⟩
      have : n = 0 ∨ n = 1 ∨ n = 2 ∨ n = 3 ∨ n = 4 ∨ n = 5 := by omega
      rcases this with rfl | rfl | rfl | rfl | rfl | rfl
      · exact Or.inl rfl
      · exact Or.inr (Or.inl rfl)
      · exact Or.inr (Or.inr (Or.inl rfl))
      · exact Or.inr (Or.inr (Or.inr (Or.inl rfl)))
      · exact Or.inr (Or.inr (Or.inr (Or.inr (Or.inl rfl))))
      · exact Or.inr (Or.inr (Or.inr (Or.inr (Or.inr rfl))))
    · have hno : ∀ S1 : Mem, fm_in (Int32.ofNat n) 0 5 S1 = some 0 := fun S1 => by rw [in_ok, if_neg (fun q => q.2 (by rw [h5']; omega))]
      by_cases c2 : n < 10
      · exact Or.inr (Or.inl ⟨by rw [h10]; exact c2, Or.inr ⟨h0, by rw [h5]; exact c1⟩, hno⟩)
      · have hne : ∀ k, k ≤ 5 → Int32.ofNat n ≠ Int32.ofNat k := fun k hk q => by
          rw [n_inj hn (by omega)] at q
          omega
        exact Or.inr (Or.inr ⟨by rw [h10]; exact c2, h0, by rw [h5]; exact c1, ⟨hne 0 (by decide), hne 1 (by decide), hne 2 (by decide), hne 3 (by decide), hne 4 (by decide), hne 5 (by decide)⟩, hno⟩)
theorem steps_m {v : Int32} {S1 : Mem} (h : fx_isSteps v S1 = some 1) (S2 : Mem) : ∃ k, 1 ≤ k ∧ k ≤ 200 ∧ v = Int32.ofNat k ∧ fm_in v 1 200 S2 = some 1 := by
  rcases steps_cases v S1 S2 with ⟨k, h1, h2, h3, -, h5⟩ | ⟨q, -⟩
  · exact ⟨k, h1, h2, h3, h5⟩
  · rw [h] at q
    exact absurd (Option.some.inj q) (by decide)
/-- a run in thought, looked at -/
theorem dry_run (h : REL S w ik bl hd) (v1 v2 : Int32) (hk : (v2 = 0 ∨ v2 = 1 ∨ v2 = 2 ∨ v2 = 3 ∨ v2 = 4 ∨ v2 = 5) ∨ ((v2 ≠ 0 ∧ v2 ≠ 1 ∧ v2 ≠ 2 ∧ v2 ≠ 3 ∧ v2 ≠ 4 ∧ v2 ≠ 5) ∧ ∃ a, a < wN w ∧ v2 - 10 = Int32.ofNat a)) (hs : fx_isSteps v1 S = some 1) : ∃ r S1 S2, fx_dry_34 v1 v2 1 S = some (r, S1) ∧ fm_dry_40 v1 v2 S1 = some (r, S2) ∧ REL S2 w ik bl hd ∧ Only (inW 169) S S1 := by
  have hg := h.2.2.1
  have hI := hg.1
  have h12 := hI.1
  obtain ⟨k, k1, k2, rfl, -⟩ := steps_m hs S
  obtain ⟨S1, q1, q2, q3⟩ := think_start h
  obtain ⟨S2, w1, w2, w3⟩ := w_run_ok (k := k) (Or.inr (Or.inl rfl) : IsW 169) q2 hg (by omega)
  have o2 := q3.trans w3
  obtain ⟨l1, l2⟩ := look_1 h o2
  have hX : RM (wI w 10) ((xup S2 699 (tk (S2 698) (S2 699))) 698) w := by
    rw [xup_ne (by decide)]
    exact l2
  obtain ⟨Y, f, m1, m2, m3, m4⟩ := m_run_ok (S := xup S2 699 (tk (S2 698) (S2 699))) (k := k) hX hg (by omega)
  rw [gM_eta] at m1
  have hgr := run_good (k := k) hg
  have hn := run_n k hg
  obtain ⟨u, hu⟩ : ∃ u, u = (sRun w k).1 := ⟨_, rfl⟩
  rw [← hu] at w2 m2 m4 hgr hn
  have x2 := m_liveOnes_ok (S := Y) m2 hgr.1
  have x4 : fw_liveBits 169 S2 = some (sBits (sLive u) (wN u) 0 0) := w_liveBits_ok w2 hgr.1
  have hrel := think_rel h (f := f) (think_only o2).1 (think_only o2).2 m3
  unfold fx_dry_34 fm_dry_40
  rw [hs, obs, if_neg n10, if_neg n10, q1, obs, w1, bd_some, x4, obs]
  have hsv := save_ok S2
  rcases hk with hk | ⟨⟨d0, d1, d2, d3, d4, d5⟩, a, ha, ea⟩
  · rcases hk with rfl | rfl | rfl | rfl | rfl | rfl
    · rw [if_pos rfl]
      refine ⟨_, S2, gM Y (tk (Y 699) f), rfl, ?_, hrel, o2⟩
      rw [hsv, obs, m1, bd_some, if_pos rfl, load_ok, obs]
    · rw [if_neg n10, if_pos rfl, w2.2.1 10 (by decide) (by decide)]
      refine ⟨_, S2, gM Y (tk (Y 699) f), rfl, ?_, hrel, o2⟩
      rw [hsv, obs, m1, bd_some, if_neg n10, if_pos rfl, load_ok, obs, gM_off (by decide), m4]
    · rw [if_neg (by decide), if_neg (by decide), if_pos rfl]
      refine ⟨_, S2, gM Y (tk (Y 699) f), rfl, ?_, hrel, o2⟩
      rw [hsv, obs, m1, bd_some, if_neg (by decide), if_neg (by decide), if_pos rfl, x2, obs, load_ok, obs]
    · rw [if_neg (by decide), if_neg (by decide), if_neg (by decide), if_pos rfl, w2.2.1 8 (by decide) (by decide)]
      refine ⟨_, S2, gM Y (tk (Y 699) f), rfl, ?_, hrel, o2⟩
      rw [hsv, obs, m1, bd_some, if_neg (by decide), if_neg (by decide), if_neg (by decide), if_pos rfl, g_927, obs, load_ok, obs, m2.2.1.2.2.1]
    · rw [if_neg (by decide), if_neg (by decide), if_neg (by decide), if_neg (by decide), if_pos rfl, w2.2.1 7 (by decide) (by decide)]
      refine ⟨_, S2, gM Y (tk (Y 699) f), rfl, ?_, hrel, o2⟩
      rw [hsv, obs, m1, bd_some, if_neg (by decide), if_neg (by decide), if_neg (by decide), if_neg (by decide), if_pos rfl, g_926, obs, load_ok, obs, m2.2.1.2.1]
    · rw [if_neg (by decide), if_neg (by decide), if_neg (by decide), if_neg (by decide), if_neg (by decide), if_pos rfl, w2.2.1 6 (by decide) (by decide)]
      refine ⟨_, S2, gM Y (tk (Y 699) f), rfl, ?_, hrel, o2⟩
      rw [hsv, obs, m1, bd_some, if_neg (by decide), if_neg (by decide), if_neg (by decide), if_neg (by decide), if_neg (by decide), if_pos rfl, g_925, obs, load_ok, obs, m2.2.1.1]
  · have hau : a < wN u := by rw [hn]; exact ha
    rw [if_neg d0, if_neg d1, if_neg d2, if_neg d3, if_neg d4, if_neg d5, ea, w_isActor_ok w2 hgr.1.1 hau, obs, if_neg n10, ix_n (by omega) (by decide), obs, (w2.2.2.1 a hau).1 5 (by decide)]
    refine ⟨_, S2, gM Y (tk (Y 699) f), rfl, ?_, hrel, o2⟩
    rw [hsv, obs, m1, bd_some, if_neg d0, if_neg d1, if_neg d2, if_neg d3, if_neg d4, if_neg d5, at_6 (by omega), obs, load_ok, obs, (m2.2.2.1 a hau).1.2.2.2.2.2.2]
theorem e_dry (h : REL S w ik bl hd) (v1 v2 : Int32) : ∃ r S1 S2, fx_dry v1 v2 S = some (r, S1) ∧ fm_dry v1 v2 S1 = some (r, S2) ∧ REL S2 w ik bl hd := by
  rcases steps_cases v1 S S with ⟨k, k1, k2, k3, s1, s2⟩ | ⟨s1, s2⟩
  · have hin : ∀ S1 : Mem, fm_in v1 1 200 S1 = some 1 := fun S1 => (steps_m s1 S1).elim fun _ q => q.2.2.2
    have hno : fx_dry_34 v1 v2 0 S = some (-2000000000, S) := by
      unfold fx_dry_34
      rw [s1, obs, if_neg n10, if_pos rfl]
    rcases dry_cases v2 with ⟨c1, c2, c3, c4⟩ | ⟨c1, c2, c3⟩ | ⟨c1, c2, c3, c4, c5⟩
    · obtain ⟨r, S1, S2, p1, p2, p3, p4⟩ := dry_run h v1 v2 (Or.inl c1) s1
      refine ⟨r, S1, S2, ?_, ?_, p3⟩
      · unfold fx_dry
        rw [if_neg c2, if_pos c3]
        exact p1
      · unfold fm_dry
        rw [hin, obs, if_neg n10, c4, obs, if_neg n10]
        exact p2
    · refine ⟨-2000000000, S, S, ?_, ?_, h⟩
      · unfold fx_dry
        rcases c2 with c2 | ⟨c2, c4⟩
        · rw [if_pos c2, if_pos c1]
          exact hno
        · rw [if_neg c2, if_neg c4, if_pos c1]
          exact hno
      · unfold fm_dry
        rw [hin, obs, if_neg n10, c3, obs, if_pos rfl, if_pos c1]
    · rcases actor_cases h (v2 - 10) with ⟨a, ha, ha12, ea, e1, e2⟩ | ⟨e1, e2⟩
      · obtain ⟨r, S1, S2, p1, p2, p3, p4⟩ := dry_run h v1 v2 (Or.inr ⟨c4, a, ha, ea⟩) s1
        refine ⟨r, S1, S2, ?_, ?_, p3⟩
        · unfold fx_dry
          rw [if_neg c2, if_neg c3, if_neg c1, e1, obs, if_neg n10]
          exact p1
        · unfold fm_dry
          rw [hin, obs, if_neg n10, c5, obs, if_pos rfl, if_neg c1, actor_m h p4, e2, obs, if_neg n10]
          exact p2
      · refine ⟨-2000000000, S, S, ?_, ?_, h⟩
        · unfold fx_dry
          rw [if_neg c2, if_neg c3, if_neg c1, e1, obs, if_pos rfl]
          exact hno
        · unfold fm_dry
          rw [hin, obs, if_neg n10, c5, obs, if_pos rfl, if_neg c1, e2, obs, if_pos rfl]
  · refine ⟨-2000000000, S, S, ?_, ?_, h⟩
    · have hno : ∀ s : Int32, fx_dry_34 v1 v2 s S = some (-2000000000, S) := fun s => by
        unfold fx_dry_34
        rw [s1, obs, if_pos rfl]
      unfold fx_dry
      rw [hno, hno]
      rcases dry_cases v2 with ⟨c1, c2, c3, c4⟩ | ⟨c1, c2, c3⟩ | ⟨c1, c2, c3, c4, c5⟩
      · rw [if_neg c2, if_pos c3]
      · rcases c2 with c2 | ⟨c2, c4⟩
        · rw [if_pos c2, if_pos c1]
        · rw [if_neg c2, if_neg c4, if_pos c1]
      · rw [if_neg c2, if_neg c3, if_neg c1]
        rcases actor_cases h (v2 - 10) with ⟨a, ha, ha12, ea, e1, e2⟩ | ⟨e1, e2⟩
        · rw [e1, obs, if_neg n10]
        · rw [e1, obs, if_pos rfl]
    · unfold fm_dry
      rw [s2, obs, if_pos rfl]
/-! first -/
def sFst : Nat → Nat → Wst → Int32
  | 0, _, _ => -2
  | k + 1, i, w => if sHas w = true then (if (sStep w 0).2.1 = true then Int32.ofNat i else sFst k (i + 1) (sStep w 0).1) else -2
theorem x_first_loop : ∀ (k n i : Nat) (w : Wst) (S : Mem), i + k = 201 → k < n → Good w → RW S 169 w → S 169 11 = 0 → ∃ S1, fx_first_21 n (Int32.ofNat i) S = some (sFst k i w, S1) ∧ Only (inW 169) S S1
  | _, 0, _, _, _, _, h, _, _, _ => absurd h (Nat.not_lt_zero _)
  | 0, n + 1, i, w, S, h, _, _, _, _ => by
    have e : i = 201 := by omega
    subst e
    show ∃ S1, fx_first_21b (fx_first_21 n) (Int32.ofNat 201) S = _ ∧ _
    unfold fx_first_21b
    rw [if_pos (by decide)]
    exact ⟨S, rfl, Only.refl⟩
  | k + 1, n + 1, i, w, S, h, hn, hg, hR, hz => by
    have hs : sFst (k + 1) i w = if sHas w = true then (if (sStep w 0).2.1 = true then Int32.ofNat i else sFst k (i + 1) (sStep w 0).1) else -2 := rfl
    obtain ⟨S1, q1, q2, q3, q4, q5⟩ := w_step_ok (Or.inr (Or.inl rfl) : IsW 169) hR hg
    rw [(step_q w (S 169 12) 0).1] at q2
    rw [(step_q w (S 169 12) 0).2] at q4
    show ∃ S1, fx_first_21b (fx_first_21 n) (Int32.ofNat i) S = _ ∧ _
    unfold fx_first_21b
    rw [hs, if_neg (fun q => by rw [show (200 : Int32) = Int32.ofNat 200 from rfl, n_lt (by decide) (by omega)] at q; omega), q1, bd_some]
    by_cases e : sHas w = true
    · rw [if_pos e, if_neg n10, if_pos e, q4]
      by_cases g : (sStep w 0).2.1 = true
      · rw [if_pos g, if_neg n10, if_pos g]
        exact ⟨S1, rfl, q3⟩
      · rw [if_neg g, hz, if_pos rfl, if_neg g, n_succ]
        rw [if_neg g, hz] at q4
        obtain ⟨S2, p1, p2⟩ := x_first_loop k n (i + 1) (sStep w 0).1 S1 (by omega) (by omega) (sStep_good hg) q2 q4
        exact ⟨S2, p1, q3.trans p2⟩
    · rw [if_neg e, if_pos rfl, if_neg e]
      exact ⟨S1, rfl, q3⟩
theorem m_first_end {Y : Mem} {f : Nat → Int32} {v : Int32} (z : Int32) (hz : Y 697 5 = z) : ((fm_take 699 698 (gM Y f)).bind fun S3 => if (S3 697 5) = 0 then (some ((-2 : Int32), S3)) else (some (v, S3))) = some (if z = 0 then -2 else v, gM Y (tk (Y 699) f)) := by
  rw [load_ok, obs, gM_off (by decide), hz]
  by_cases e : z = 0
  · rw [if_pos e, if_pos e]
  · rw [if_neg e, if_neg e]
theorem m_first_loop {en : Int32} : ∀ (k n i : Nat) (w : Wst) (Y : Mem) (f : Nat → Int32), i + 1 + k = 201 → k + 1 < n → Good w → RM en f w → Y 697 5 = 0 → ∃ Y1 f1, fm_first_18 n (Int32.ofNat i) (gM Y f) = some (sFst k (i + 1) w, gM Y1 (tk (Y1 699) f1)) ∧ OE Y Y1
  | _, 0, _, _, _, _, _, h, _, _, _ => absurd h (Nat.not_lt_zero _)
  | 0, n + 1, i, w, Y, f, h, _, hg, hR, hz => by
    have e : i = 200 := by omega
    subst e
    show ∃ Y1 f1, fm_first_18b (fm_first_18 n) (Int32.ofNat 200) (gM Y f) = _ ∧ _
    unfold fm_first_18b
    rw [gM_off (by decide), hz, if_pos rfl, show fm_isEnd (Int32.ofNat 200) 200 (gM Y f) = _ from m_isEnd_ok (i := 200) (n := 200) hR hg.1 (by decide) (by decide), bd_some, if_neg (show ¬ (sHow w = 0 ∧ (200 : Nat) ≠ 200) from fun q => q.2 rfl), if_neg n10, m_first_end 0 (by rw [up2_nf (by decide)]; exact hz), if_pos rfl]
    exact ⟨_, f, rfl, OE.f697 (by omega)⟩
  | k + 1, n + 1, i, w, Y, f, h, hn, hg, hR, hz => by
    have hs : sFst (k + 1) (i + 1) w = if sHas w = true then (if (sStep w 0).2.1 = true then Int32.ofNat (i + 1) else sFst k (i + 1 + 1) (sStep w 0).1) else -2 := rfl
    show ∃ Y1 f1, fm_first_18b (fm_first_18 n) (Int32.ofNat i) (gM Y f) = _ ∧ _
    unfold fm_first_18b
    rw [hs, gM_off (by decide), hz, if_pos rfl, show fm_isEnd (Int32.ofNat i) 200 (gM Y f) = _ from m_isEnd_ok (i := i) (n := 200) hR hg.1 (by omega) (by decide), bd_some]
    by_cases e : sHas w = true
    · have e0 := (how_iff hg).mpr e
      obtain ⟨Y1, f1, q1, q2, q3, q4, q5⟩ := m_step_ok (S := up2 Y 697 18 (sHow w)) hR hg e
      rw [if_pos (show sHow w = 0 ∧ i ≠ 200 from ⟨e0, by omega⟩), if_pos (show (0 : Int32) = 0 from rfl), q1, obs, if_pos e, n_succ]
      by_cases g : (sStep w 0).2.1 = true
      · rw [if_pos g] at q4
        obtain ⟨n, rfl⟩ : ∃ n', n = n' + 1 := ⟨n - 1, by omega⟩
        show ∃ Y2 f2, fm_first_18b (fm_first_18 n) (Int32.ofNat (i + 1)) (gM Y1 f1) = _ ∧ _
        unfold fm_first_18b
        rw [gM_off (by decide), q4, if_neg n10, m_first_end 1 q4, if_neg n10, if_pos g]
        exact ⟨Y1, f1, rfl, (OE.f697 (by omega)).trans q3⟩
      · rw [if_neg g, up2_nf (by decide), hz] at q4
        obtain ⟨Y2, f2, p1, p2⟩ := m_first_loop k n (i + 1) (sStep w 0).1 Y1 f1 (by omega) (by omega) (sStep_good hg) q2 q4
        rw [if_neg g]
        exact ⟨Y2, f2, p1, ((OE.f697 (by omega)).trans q3).trans p2⟩
    · have e0 : ¬ (sHow w = 0 ∧ i ≠ 200) := fun q => e ((how_iff hg).mp q.1)
      rw [if_neg e0, if_neg n10, m_first_end 0 (by rw [up2_nf (by decide)]; exact hz), if_pos rfl, if_neg e]
      exact ⟨_, f, rfl, OE.f697 (by omega)⟩
theorem e_first (h : REL S w ik bl hd) : ∃ r S1 S2, fx_first S = some (r, S1) ∧ fm_first S1 = some (r, S2) ∧ REL S2 w ik bl hd := by
  have hg := h.2.2.1
  obtain ⟨S1, q1, q2, q3⟩ := think_start h
  obtain ⟨S2, p1, p2⟩ := x_first_loop 200 LF 1 w (up2 S1 169 11 0) (by decide) (by decide) hg (q2.flag (by decide)) up2_self
  have o2 : Only (inW 169) S S2 := (q3.up ⟨by omega, by omega⟩).trans p2
  obtain ⟨l1, l2⟩ := look_1 h o2
  have hX : RM (wI w 10) (up2 (xup S2 699 (tk (S2 698) (S2 699))) 697 5 0 698) w := by
    rw [up2_off (by decide), xup_ne (by decide)]
    exact l2
  obtain ⟨Y, f, m1, m2⟩ := m_first_loop 200 LF 0 w (up2 (xup S2 699 (tk (S2 698) (S2 699))) 697 5 0) (up2 (xup S2 699 (tk (S2 698) (S2 699))) 697 5 0 698) (by decide) (by decide) hg hX up2_self
  rw [gM_eta] at m1
  unfold fx_first fm_first
  rw [q1, obs, obs]
  refine ⟨_, S2, gM Y (tk (Y 699) f), p1, ?_, think_rel h (think_only o2).1 (think_only o2).2 ((OE.f697 (by omega)).trans m2)⟩
  rw [save_ok, obs, obs]
  exact m1
/-! quiet -/
def sQui : Nat → Nat → Wst → Int32
  | 0, i, w => if sHas w = true then -2 else Int32.ofNat i
  | k + 1, i, w => if sHas w = true then sQui k (i + 1) (sStep w 0).1 else Int32.ofNat i
theorem x_quiet_loop : ∀ (k n i : Nat) (w : Wst) (S : Mem), i + k = 200 → k < n → Good w → RW S 169 w → ∃ S1, fx_quiet_13 n (Int32.ofNat i) S = some (sQui k i w, S1) ∧ Only (inW 169) S S1
  | _, 0, _, _, _, _, h, _, _ => absurd h (Nat.not_lt_zero _)
  | 0, n + 1, i, w, S, h, _, hg, hR => by
    have e : i = 200 := by omega
    subst e
    show ∃ S1, fx_quiet_13b (fx_quiet_13 n) (Int32.ofNat 200) S = _ ∧ _
    unfold fx_quiet_13b
    rw [if_pos (by decide), w_has_ok hR hg.1, obs]
    show ∃ S1, _ = some (if sHas w = true then -2 else Int32.ofNat 200, S1) ∧ _
    by_cases e : sHas w = true
    · rw [if_pos e, if_neg n10, if_pos e]
      exact ⟨S, rfl, Only.refl⟩
    · rw [if_neg e, if_pos rfl, if_neg e]
      exact ⟨S, rfl, Only.refl⟩
  | k + 1, n + 1, i, w, S, h, hn, hg, hR => by
    have hs : sQui (k + 1) i w = if sHas w = true then sQui k (i + 1) (sStep w 0).1 else Int32.ofNat i := rfl
    obtain ⟨S1, q1, q2, q3, q4, q5⟩ := w_step_ok (Or.inr (Or.inl rfl) : IsW 169) hR hg
    rw [(step_q w (S 169 12) 0).1] at q2
    show ∃ S1, fx_quiet_13b (fx_quiet_13 n) (Int32.ofNat i) S = _ ∧ _
    unfold fx_quiet_13b
    rw [hs, if_neg (fun q => by rw [show (200 : Int32) = Int32.ofNat 200 from rfl, n_le (by decide) (by omega)] at q; omega), q1, bd_some]
    by_cases e : sHas w = true
    · obtain ⟨S2, p1, p2⟩ := x_quiet_loop k n (i + 1) (sStep w 0).1 S1 (by omega) (by omega) (sStep_good hg) q2
      rw [if_pos e, if_neg n10, if_pos e, n_succ]
      exact ⟨S2, p1, q3.trans p2⟩
    · rw [if_neg e, if_pos rfl, if_neg e]
      exact ⟨S1, rfl, q3⟩
theorem m_quiet_end {en : Int32} {w : Wst} {Y : Mem} {f : Nat → Int32} {v : Int32} (hR : RM en f w) (hg : Good w) : fm_quiet_37 v (gM Y f) = some (if sHas w = true then -2 else v, gM Y (tk (Y 699) f)) := by
  unfold fm_quiet_37
  rw [m_has_ok hR hg.1, obs, load_ok, obs, obs]
  by_cases e : sHas w = true
  · rw [if_pos e, if_neg n10, if_pos e]
  · rw [if_neg e, if_pos rfl, if_neg e]
theorem m_quiet_loop {en : Int32} : ∀ (k n i : Nat) (w : Wst) (Y : Mem) (f : Nat → Int32), i + k = 200 → k < n → Good w → RM en f w → ∃ Y1 f1, fm_quiet_13 n (Int32.ofNat i) (gM Y f) = some (sQui k i w, gM Y1 (tk (Y1 699) f1)) ∧ OE Y Y1
  | _, 0, _, _, _, _, _, h, _, _ => absurd h (Nat.not_lt_zero _)
  | 0, n + 1, i, w, Y, f, h, _, hg, hR => by
    have e : i = 200 := by omega
    subst e
    show ∃ Y1 f1, fm_quiet_13b (fm_quiet_13 n) (Int32.ofNat 200) (gM Y f) = some (if sHas w = true then -2 else Int32.ofNat 200, gM Y1 (tk (Y1 699) f1)) ∧ _
    unfold fm_quiet_13b
    rw [m_has_ok hR hg.1, obs, m_quiet_end hR hg, if_pos (show (200 : Int32) ≤ Int32.ofNat 200 by decide)]
    refine ⟨Y, f, ?_, OE.refl Y⟩
    split <;> rfl
  | k + 1, n + 1, i, w, Y, f, h, hn, hg, hR => by
    have hs : sQui (k + 1) i w = if sHas w = true then sQui k (i + 1) (sStep w 0).1 else Int32.ofNat i := rfl
    show ∃ Y1 f1, fm_quiet_13b (fm_quiet_13 n) (Int32.ofNat i) (gM Y f) = _ ∧ _
    unfold fm_quiet_13b
    rw [hs, m_has_ok hR hg.1, obs]
    by_cases e : sHas w = true
    · obtain ⟨Y1, f1, q1, q2, q3, q4, q5⟩ := m_step_ok (S := Y) hR hg e
      obtain ⟨Y2, f2, p1, p2⟩ := m_quiet_loop k n (i + 1) (sStep w 0).1 Y1 f1 (by omega) (by omega) (sStep_good hg) q2
      rw [if_pos e, if_neg n10, if_neg (fun q => by rw [show (200 : Int32) = Int32.ofNat 200 from rfl, n_le (by decide) (by omega)] at q; omega), q1, obs, n_succ, if_pos e]
      exact ⟨Y2, f2, p1, q3.trans p2⟩
    · rw [if_neg e, if_pos rfl, m_quiet_end hR hg, if_neg e, if_neg e]
      exact ⟨Y, f, rfl, OE.refl Y⟩
theorem e_quiet (h : REL S w ik bl hd) : ∃ r S1 S2, fx_quiet S = some (r, S1) ∧ fm_quiet S1 = some (r, S2) ∧ REL S2 w ik bl hd := by
  have hg := h.2.2.1
  obtain ⟨S1, q1, q2, q3⟩ := think_start h
  obtain ⟨S2, p1, p2⟩ := x_quiet_loop 200 LF 0 w S1 (by decide) (by decide) hg q2
  have o2 := q3.trans p2
  obtain ⟨l1, l2⟩ := look_1 h o2
  have hX : RM (wI w 10) ((xup S2 699 (tk (S2 698) (S2 699))) 698) w := by
    rw [xup_ne (by decide)]
    exact l2
  obtain ⟨Y, f, m1, m2⟩ := m_quiet_loop 200 LF 0 w (xup S2 699 (tk (S2 698) (S2 699))) ((xup S2 699 (tk (S2 698) (S2 699))) 698) (by decide) (by decide) hg hX
  rw [gM_eta] at m1
  unfold fx_quiet fm_quiet
  rw [q1, obs]
  refine ⟨_, S2, gM Y (tk (Y 699) f), p1, ?_, think_rel h (think_only o2).1 (think_only o2).2 m2⟩
  rw [save_ok, obs]
  exact m1
end
