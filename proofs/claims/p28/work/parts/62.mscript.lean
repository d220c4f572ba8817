/-! 62: texts done: the reference; both -/
theorem can_neg {w : Wst} {v1 v2 v3 v4 v5 : Int32} (z : ¬ sCan w v1 v2 v3 v4 v5 = 0) : sCan w v1 v2 v3 v4 v5 < 0 := by
  unfold sCan at z ⊢
  split
  · rename_i g1
    rw [if_pos g1] at z
    split
    · rename_i g2
      rw [if_pos g2] at z
      split
      · decide
      · rename_i g3
        rw [if_neg g3] at z
        exact absurd rfl z
    · decide
  · decide
theorem steps_le : ∀ (k : Nat) (w : Wst), (sSteps k w).2 ≤ k
  | 0, _ => Nat.le_refl _
  | k + 1, w => by
    have hs : sSteps (k + 1) w = if wI w 10 = 0 then ((sSteps k (wSI (sStep w 0).1 10 (sHow (sStep w 0).1))).1, (sSteps k (wSI (sStep w 0).1 10 (sHow (sStep w 0).1))).2 + 1) else (w, 0) := rfl
    rw [hs]
    split
    · exact Nat.succ_le_succ (steps_le k _)
    · exact Nat.zero_le _
theorem run_le (k : Nat) (w : Wst) : (sRun w k).2 ≤ k := steps_le k _
theorem m_does_ok {S : Mem} {f : Nat → Int32} {w : Wst} {c : Int32} {ns : List Int32} (hR : RM (wI w 10) f w) (hg : Good w) (ho : okLine c ns) (h115 : c = 115 → ∃ j, j ≤ 99 ∧ ns.getD 0 0 = Int32.ofNat j) (ht : ∀ j v, ns[j]? = some v → S 716 j = v) : ∃ x S1 f1, fm_does c (gM S f) = some (x, gM S1 f1) ∧ OE S S1 ∧ ((x = 1 ∧ (xLine w c ns).2 = true ∧ RM (wI (xLine w c ns).1 10) f1 (xLine w c ns).1) ∨ (x = 0 ∧ (xLine w c ns).2 = false)) := by
  obtain ⟨hc, hlen, hv⟩ := ho
  have h12 := hg.1.1
  have h5 := cn_le (c := c)
  have hc0 := cn_pos c
  have T : ∀ i, i < ns.length → ald (gM S f) 716 (Int32.ofNat i) = some (ns.getD i 0) := fun i hi => by
    rw [ald_n (by rw [lnM]; omega) (by rw [lnM]; decide), gM_off (by decide), ht i _ (getD_of hi)]
  unfold fm_does
  by_cases c1 : c = 97
  · have hl5 : ns.length = 5 := by rw [hlen, c1]; rfl
    have t0 : ald (gM S f) 716 0 = some (ns.getD 0 0) := T 0 (by omega)
    have t1 : ald (gM S f) 716 1 = some (ns.getD 1 0) := T 1 (by omega)
    have t2 : ald (gM S f) 716 2 = some (ns.getD 2 0) := T 2 (by omega)
    have t3 : ald (gM S f) 716 3 = some (ns.getD 3 0) := T 3 (by omega)
    have t4 : ald (gM S f) 716 4 = some (ns.getD 4 0) := T 4 (by omega)
    have num : ∀ i, i < 5 → ∃ j, j ≤ 99 ∧ ns.getD i 0 = Int32.ofNat j := fun i hi => (hv i _ (getD_of (by omega))).2 (by rw [c1]; unfold gF; simp)
    have fin : ∀ v1 : Int32, v1 = (if ns.getD 0 0 = 99 then -1 else ns.getD 0 0) → ∃ x S1 f1, fm_does_27 v1 (gM S f) = some (x, gM S1 f1) ∧ OE S S1 ∧ ((x = 1 ∧ (xLine w c ns).2 = true ∧ RM (wI (xLine w c ns).1 10) f1 (xLine w c ns).1) ∨ (x = 0 ∧ (xLine w c ns).2 = false)) := fun v1 hv1 => by
      have ex : xLine w c ns = (sCame w v1 (ns.getD 1 0) (ns.getD 2 0) (ns.getD 3 0) (ns.getD 4 0), decide (sCan w v1 (ns.getD 1 0) (ns.getD 2 0) (ns.getD 3 0) (ns.getD 4 0) = 0)) := by
        unfold xLine
        rw [if_pos c1, ← hv1]
      have no : (¬ ((¬ ns.getD 2 0 < 0 ∧ ¬ 2 < ns.getD 2 0) ∧ (¬ ns.getD 3 0 < 0 ∧ ¬ 9 < ns.getD 3 0) ∧ (¬ ns.getD 4 0 < 1 ∧ ¬ 50 < ns.getD 4 0))) → (xLine w c ns).2 = false := fun q => by
        rw [ex]
        refine decide_eq_false fun z => ?_
        have e : sCan w v1 (ns.getD 1 0) (ns.getD 2 0) (ns.getD 3 0) (ns.getD 4 0) = -1 := if_neg fun p => q p.2.2
        rw [e] at z
        exact absurd z (by decide)
      unfold fm_does_27
      rw [t2, obs, in_ok, obs]
      by_cases g2 : ¬ ns.getD 2 0 < 0 ∧ ¬ 2 < ns.getD 2 0
      · rw [if_pos g2, if_neg n10, t3, obs, in_ok, obs]
        by_cases g3 : ¬ ns.getD 3 0 < 0 ∧ ¬ 9 < ns.getD 3 0
        · rw [if_pos g3, if_neg n10, t4, obs, in_ok, obs]
          by_cases g4 : ¬ ns.getD 4 0 < 1 ∧ ¬ 50 < ns.getD 4 0
          · obtain ⟨b2, k2, e2⟩ := num 2 (by decide)
            obtain ⟨b3, k3, e3⟩ := num 3 (by decide)
            obtain ⟨b4, k4, e4⟩ := num 4 (by decide)
            have l2 : b2 ≤ 2 := by
              have := g2.2
              rw [e2, show (2 : Int32) = Int32.ofNat 2 from rfl, n_lt (by decide) (by omega)] at this
              omega
            have l3 : b3 ≤ 9 := by
              have := g3.2
              rw [e3, show (9 : Int32) = Int32.ofNat 9 from rfl, n_lt (by decide) (by omega)] at this
              omega
            have l4 : b4 ≤ 50 := by
              have := g4.2
              rw [e4, show (50 : Int32) = Int32.ofNat 50 from rfl, n_lt (by decide) (by omega)] at this
              omega
            have eV : (1000 * ns.getD 2 0) + (100 * ns.getD 3 0) + ns.getD 4 0 = Int32.ofNat (1000 * b2 + 100 * b3 + b4) := by
              rw [e2, e3, e4, show (1000 : Int32) = Int32.ofNat 1000 from rfl, show (100 : Int32) = Int32.ofNat 100 from rfl, n_mul, n_mul, n_add, n_add]
            have V1 : Int32.ofNat (1000 * b2 + 100 * b3 + b4) / 1000 = ns.getD 2 0 := by
              rw [show (1000 : Int32) = Int32.ofNat 1000 from rfl, idiv_n (by omega) (by decide) (by decide), e2]
              congr 1
              omega
            have V2 : irm (Int32.ofNat (1000 * b2 + 100 * b3 + b4) / 100) 10 = ns.getD 3 0 := by
              rw [show (100 : Int32) = Int32.ofNat 100 from rfl, idiv_n (by omega) (by decide) (by decide), show (10 : Int32) = Int32.ofNat 10 from rfl, irm_nat (by omega) (by decide) (by decide), e3]
              congr 1
              omega
            have V3 : irm (Int32.ofNat (1000 * b2 + 100 * b3 + b4)) 100 = ns.getD 4 0 := by
              rw [show (100 : Int32) = Int32.ofNat 100 from rfl, irm_nat (by omega) (by decide) (by decide), e4]
              congr 1
              omega
            obtain ⟨f1, m1, m2⟩ := m_born_ok (S := S) (v1 := v1) (v2 := ns.getD 1 0) (v3 := Int32.ofNat (1000 * b2 + 100 * b3 + b4)) hR hg (nn0 (by omega))
            rw [V1, V2, V3] at m1 m2
            rw [if_pos g4, if_neg n10]
            unfold fm_does_77
            rw [if_neg n10, t1, obs, t2, obs, t3, obs, t4, obs, eV, m1, bd_some, ex]
            unfold sNo
            by_cases z : sCan w v1 (ns.getD 1 0) (ns.getD 2 0) (ns.getD 3 0) (ns.getD 4 0) = 0
            · rw [if_pos z, if_neg (n_neg (by omega))]
              refine ⟨1, S, f1, rfl, OE.refl S, Or.inl ⟨rfl, decide_eq_true z, ?_⟩⟩
              rw [came_10]
              exact m2
            · rw [if_neg z, if_pos (can_neg z)]
              exact ⟨0, S, f1, rfl, OE.refl S, Or.inr ⟨rfl, decide_eq_false z⟩⟩
          · rw [if_neg g4, if_pos rfl]
            unfold fm_does_77
            rw [if_pos rfl]
            exact ⟨0, S, f, rfl, OE.refl S, Or.inr ⟨rfl, no fun q => g4 q.2.2⟩⟩
        · rw [if_neg g3, if_pos rfl]
          unfold fm_does_77
          rw [if_pos rfl]
          exact ⟨0, S, f, rfl, OE.refl S, Or.inr ⟨rfl, no fun q => g3 q.2.1⟩⟩
      · rw [if_neg g2, if_pos rfl]
        unfold fm_does_77
        rw [if_pos rfl]
        exact ⟨0, S, f, rfl, OE.refl S, Or.inr ⟨rfl, no fun q => g2 q.1⟩⟩
    rw [if_pos c1, t0, obs]
    by_cases g : ns.getD 0 0 = 99
    · rw [if_pos g]
      exact fin (-1) (by rw [if_pos g])
    · rw [if_neg g, obs]
      exact fin _ (by rw [if_neg g])
  rw [if_neg c1]
  by_cases c2 : c = 109
  · have hl2 : ns.length = 2 := by rw [hlen, c2]; rfl
    have t0 : ald (gM S f) 716 0 = some (ns.getD 0 0) := T 0 (by omega)
    have t1 : ald (gM S f) 716 1 = some (ns.getD 1 0) := T 1 (by omega)
    obtain ⟨k, hk99, ek⟩ := (hv 0 _ (getD_of (by omega))).2 (by rw [c2]; decide)
    have ex : xLine w c ns = if nu (ns.getD 0 0) < wN w then (sSend w (nu (ns.getD 0 0)) (-1, ns.getD 1 0), true) else (w, false) := by
      unfold xLine
      rw [if_neg c1, if_pos c2]
    have enk : nu (ns.getD 0 0) = k := by rw [ek, nu_n (by omega)]
    have hm := hv 1 _ (getD_of (by omega))
    rw [if_pos c2, t0, obs, ex, enk, ek, m_isActor_ok hR hg.1 (by omega), obs]
    by_cases g : k < wN w
    · obtain ⟨f1, m1, m2, -⟩ := m_send_ok (S := S) (a := k) (m := (-1, ns.getD 1 0)) hR hg.1 g (MM_num hm.1)
      rw [if_pos g, if_neg n10, obs, t1, obs, m1, bd_some, bol_ok (v := 1) (Or.inr rfl), obs, if_pos g]
      refine ⟨1, S, f1, rfl, OE.refl S, Or.inl ⟨rfl, rfl, ?_⟩⟩
      have e10 := kp10 (sSend_kp w k (-1, ns.getD 1 0))
      show RM (wI (sSend w k (-1, ns.getD 1 0)) 10) f1 _
      rw [e10]
      exact m2
    · rw [if_neg g, if_pos rfl, bol_ok (v := 0) (Or.inl rfl), obs, if_neg g]
      exact ⟨0, S, f, rfl, OE.refl S, Or.inr ⟨rfl, rfl⟩⟩
  rw [if_neg c2]
  have c3 : c = 115 := (hc.resolve_left c1).resolve_left c2
  have hl1 : ns.length = 1 := by rw [hlen, c3]; rfl
  have t0 : ald (gM S f) 716 0 = some (ns.getD 0 0) := T 0 (by omega)
  have ex : xLine w c ns = if 1 ≤ ns.getD 0 0 then ((sRun w (nu (ns.getD 0 0))).1, true) else (w, false) := by
    unfold xLine
    rw [if_neg c1, if_neg c2]
  obtain ⟨k, hk99, ek⟩ := h115 c3
  rw [t0, obs, obs, ex, ek]
  by_cases g : k = 0
  · subst g
    rw [if_pos (by decide), if_neg (by decide)]
    exact ⟨0, S, f, rfl, OE.refl S, Or.inr ⟨rfl, rfl⟩⟩
  · obtain ⟨S1, f1, m1, m2, m3, m4⟩ := m_run_ok (S := S) (k := k) hR hg (by omega)
    have r2 := m2.i10 (v := S1 697 18) (run_good (k := k) hg).1
    unfold fm_run
    rw [if_neg (show ¬ Int32.ofNat k ≤ 0 from fun q => by rw [show (0 : Int32) = Int32.ofNat 0 from rfl, n_le (by omega) (by decide)] at q; omega), if_pos (show (1 : Int32) ≤ Int32.ofNat k from (n_le (a := 1) (by decide) (by omega)).mpr (by omega)), in_ok, if_pos ⟨(show ¬ Int32.ofNat k < 1 from fun q => by rw [show (1 : Int32) = Int32.ofNat 1 from rfl, n_lt (by omega) (by decide)] at q; omega), (show ¬ (200 : Int32) < Int32.ofNat k from fun q => by rw [show (200 : Int32) = Int32.ofNat 200 from rfl, n_lt (by decide) (by omega)] at q; omega)⟩, obs, if_neg n10, m1, bd_some, gM_off (by decide), gs_930, obs, bd_some, if_neg (n_neg (by have := run_le k w; omega)), nu_n (by omega)]
    refine ⟨1, S1, _, rfl, m3, Or.inl ⟨rfl, rfl, ?_⟩⟩
    show RM (wI (sRun w k).1 10) _ _
    rw [← m4]
    exact r2
/-- of the reference's cells: its row, what it reads with, what a step leaves -/
def eO (S S1 : Mem) : Prop := (∀ b, b ≠ 697 → b ≠ 698 → b ≠ 702 → b ≠ 716 → S1 b = S b) ∧ S1 697 4 = S 697 4
theorem eO.refl (S : Mem) : eO S S := ⟨fun _ _ _ _ _ => rfl, rfl⟩
theorem eO.trans {S S1 S2 : Mem} (h : eO S S1) (k : eO S1 S2) : eO S S2 := ⟨fun b q1 q2 q3 q4 => (k.1 b q1 q2 q3 q4).trans (h.1 b q1 q2 q3 q4), k.2.trans h.2⟩
theorem pO.e {S S1 : Mem} (h : pO S S1) : eO S S1 := ⟨fun b q1 _ _ q4 => h.1 b q1 q4, h.2 4 (by decide) (by decide)⟩
theorem OE.e {S S1 : Mem} {f g : Nat → Int32} (h : OE S S1) : eO (gM S f) (gM S1 g) := ⟨fun b q1 q2 q3 _ => by rw [gM_off q2, gM_off q2]; exact h.1 b q1 q3, by rw [gM_off (by decide), gM_off (by decide)]; exact h.2 4 (by decide) (by decide) (by decide) (by decide) (by decide)⟩
theorem m_back_all {n : Nat} {S : Mem} {v : Int32} : ∃ r S1, fm_script_41 (n + 1) v 0 S = some (r, S1) ∧ eO S S1 ∧ S1 697 11 = 0 ∧ S1 698 = tk (S 700) (S 698) := by
  have ht := take_ok (S := up2 S 697 11 0) (a := 700) (b := 698) (by decide) ln700 ln698
  have h : fm_script_41 (n + 1) v 0 S = some (((-2000)) - (v - 1), xup (up2 S 697 11 0) 698 (tk ((up2 S 697 11 0) 700) ((up2 S 697 11 0) 698))) := by
    show fm_script_41b (fm_script_41 n) v 0 S = _
    unfold fm_script_41b
    rw [if_pos rfl, obs, if_pos rfl, ht, obs]
  refine ⟨_, _, h, ⟨fun b q1 q2 _ _ => ?_, ?_⟩, ?_, ?_⟩
  · rw [xup_ne q2, up2_off q1]
  · rw [xup_ne (by decide), up2_nf (by decide)]
  · rw [xup_ne (by decide), up2_self]
  · rw [xup_self, up2_off (by decide), up2_off (by decide)]
theorem m_end {n k : Nat} {S : Mem} (h : S 697 11 ≤ S 697 19) : ∃ r, fm_script_41 (n + 1) (Int32.ofNat k) 1 S = some (r, up2 S 697 11 0) := by
  refine ⟨Int32.ofNat k, ?_⟩
  show fm_script_41b (fm_script_41 n) (Int32.ofNat k) 1 S = _
  unfold fm_script_41b
  rw [if_neg n10, if_pos h, obs, if_neg n10]
theorem m_all {bl : List Int32} (hl : bl.length ≤ 120) : ∀ (m n k p s : Nat) (w : Wst) (S : Mem) (l : List (Int32 × List Int32)), m + 2 < n → k + m < 2000 → (s + (if k = 0 then 0 else 1) = p) → MTp S bl → mG S s → RM (wI w 10) (S 698) w → Good w → lns false bl m p = some l → ∃ r S1, fm_script_41 n (Int32.ofNat k) 1 S = some (r, S1) ∧ eO S S1 ∧ S1 697 11 = 0 ∧ ((∃ w1, xAll w l = some w1 ∧ RM (wI w1 10) (S1 698) w1) ∨ (xAll w l = none ∧ ∃ g, S1 698 = tk (S 700) g))
  | _, 0, _, _, _, _, _, _, h, _, _, _, _, _, _, _ => absurd h (Nat.not_lt_zero _)
  | 0, n + 1, _, _, _, _, _, _, _, _, _, _, _, _, _, h => absurd h (by intro q; exact absurd q (by simp [lns]))
  | m + 1, n + 1, k, p, s, w, S, l, hn, hk, hsp, hT, hG, hR, hg, hs => by
    have hs0 : (rdLine false bl p).bind (fun r => if bl.length ≤ r.2.2 then some [(r.1, r.2.1)] else if bl[r.2.2]? = some 59 then (lns false bl m (r.2.2 + 1)).map fun l => (r.1, r.2.1) :: l else none) = some l := hs
    obtain ⟨n, rfl⟩ : ∃ n', n = n' + 1 := ⟨n - 1, by omega⟩
    cases hr : rdLine false bl p with
    | none =>
      rw [hr] at hs0
      exact absurd hs0 (by simp)
    | some r =>
      obtain ⟨c, ns, q⟩ := r
      obtain ⟨-, l2, l3, l4⟩ := rdLine_len hr
      have hok := rdLine_ok (rdLine_up hr)
      rw [hr, obs] at hs0
      have hs1 : (if bl.length ≤ q then some [(c, ns)] else if bl[q]? = some 59 then (lns false bl m (q + 1)).map fun l => (c, ns) :: l else none) = some l := hs0
      have h115 : c = 115 → ∃ j, j ≤ 99 ∧ ns.getD 0 0 = Int32.ofNat j := fun e => by
        obtain ⟨-, -, h3⟩ := rdLine_some hr
        obtain ⟨r1, -, -, r4⟩ := rdN_some _ _ _ _ _ h3
        have := cn_pos c
        exact (r4 0 _ (getD_of (by omega))).2 (by rw [e]; rfl)
      -- the line read from p on
      have oX : pO S (up2 S 697 19 (Int32.ofNat p)) := pO.up (Or.inl rfl)
      have GX : mG (up2 S 697 19 (Int32.ofNat p)) p := ⟨up2_self, by rw [up2_nf (by decide)]; exact hG.2⟩
      rcases m_line_ok (oX.tape hT) hl GX (by omega) with ⟨c', ns', q', S1, a1, a2, a3, a4, a5⟩ | ⟨a1, -⟩
      · rw [hr] at a1
        have e1 := Option.some.inj a1
        have ec : c = c' := congrArg Prod.fst e1
        have en : ns = ns' := congrArg (fun x => x.2.1) e1
        have eq : q = q' := congrArg (fun x => x.2.2) e1
        subst ec
        subst en
        subst eq
        have o1 := oX.trans a3
        have R1 : RM (wI w 10) (S1 698) w := by
          rw [o1.1 698 (by decide) (by decide)]
          exact hR
        obtain ⟨x, S2, f2, d1, d2, d3⟩ := m_does_ok (S := S1) R1 hg hok h115 a5
        rw [gM_eta] at d1
        have o2 : eO S (gM S2 f2) := by
          have := d2.e (f := S1 698) (g := f2)
          rw [gM_eta] at this
          exact o1.e.trans this
        have e11 : (gM S2 f2) 697 11 = Int32.ofNat bl.length := by
          rw [gM_off (by decide), d2.2 11 (by decide) (by decide) (by decide) (by decide) (by decide), (o1.tape hT).1]
        have T2 : MTp (gM S2 f2) bl := (o1.tape hT).congr (by rw [gM_off (by decide)]; exact d2.2 11 (by decide) (by decide) (by decide) (by decide) (by decide)) (by rw [gM_off (by decide)]; exact d2.1 703 (by decide) (by decide))
        have G2 : mG (gM S2 f2) q := ⟨by rw [gM_off (by decide), d2.2 19 (by decide) (by decide) (by decide) (by decide) (by decide)]; exact a4.1, by rw [gM_off (by decide), d2.2 20 (by decide) (by decide) (by decide) (by decide) (by decide)]; exact a4.2⟩
        have e700 : (gM S2 f2) 700 = S 700 := o2.1 700 (by decide) (by decide) (by decide) (by decide)
        have step : fm_script_41 (n + 2) (Int32.ofNat k) 1 S = fm_script_41 (n + 1) (Int32.ofNat (k + 1)) x (gM S2 f2) := by
          show fm_script_41b (fm_script_41 (n + 1)) (Int32.ofNat k) 1 S = _
          unfold fm_script_41b
          have hlt : ¬ S 697 11 ≤ S 697 19 := fun x => by
            rw [hT.1, hG.1, n_le (by omega) (by split at hsp <;> omega)] at x
            split at hsp <;> omega
          rw [if_neg n10, if_neg hlt, hG.1, n_succ]
          by_cases z : k = 0
          · subst z
            rw [if_pos rfl] at hsp
            have ep : s = p := by omega
            rw [if_pos (by decide), show Int32.ofNat s + 0 = Int32.ofNat p by rw [ep]; exact Int32.add_zero _, obs, a2, bd_some, d1, bd_some]
          · rw [if_neg z] at hsp
            rw [if_neg (show ¬ Int32.ofNat k ≤ 0 from fun q => by rw [show (0 : Int32) = Int32.ofNat 0 from rfl, n_le (by omega) (by decide)] at q; omega), n_succ, hsp, obs, a2, bd_some, d1, bd_some]
        rw [step]
        rcases d3 with ⟨x1, x2, x3⟩ | ⟨x1, x2⟩
        · subst x1
          by_cases e1 : bl.length ≤ q
          · rw [if_pos e1] at hs1
            have el : [(c, ns)] = l := Option.some.inj hs1
            obtain ⟨r, hr2⟩ := m_end (n := n) (k := k + 1) (S := gM S2 f2) (by rw [e11, G2.1]; exact (n_le (by omega) (by omega)).mpr e1)
            refine ⟨r, _, hr2, ⟨fun b q1 q2 q3 q4 => ?_, ?_⟩, up2_self, Or.inl ⟨(xLine w c ns).1, ?_, ?_⟩⟩
            · rw [up2_off q1]
              exact o2.1 b q1 q2 q3 q4
            · rw [up2_nf (by decide)]
              exact o2.2
            · rw [← el]
              show (if (xLine w c ns).2 = true then xAll (xLine w c ns).1 [] else none) = _
              rw [if_pos x2]
              rfl
            · rw [up2_off (by decide), gM_at]
              exact x3
          · rw [if_neg e1] at hs1
            split at hs1
            · cases hl2 : lns false bl m (q + 1) with
              | none =>
                rw [hl2] at hs1
                exact absurd hs1 (by simp)
              | some l2 =>
                rw [hl2] at hs1
                have el : (c, ns) :: l2 = l := Option.some.inj hs1
                obtain ⟨r, S3, f1, f2', f3, f4⟩ := m_all hl m (n + 1) (k + 1) (q + 1) q (xLine w c ns).1 (gM S2 f2) l2 (by omega) (by omega) (by rw [if_neg (by omega)]) T2 G2 (by rw [gM_at]; exact x3) (xLine_good hg hok) hl2
                have ex : xAll w l = xAll (xLine w c ns).1 l2 := by
                  rw [← el]
                  show (if (xLine w c ns).2 = true then xAll (xLine w c ns).1 l2 else none) = _
                  rw [if_pos x2]
                rw [e700] at f4
                refine ⟨r, S3, f1, o2.trans f2', f3, ?_⟩
                rw [ex]
                exact f4
            · exact absurd hs1 (by simp)
        · subst x1
          obtain ⟨r, S3, f1, f2', f3, f4⟩ := m_back_all (n := n) (S := gM S2 f2) (v := Int32.ofNat (k + 1))
          rw [e700] at f4
          refine ⟨r, S3, f1, o2.trans f2', f3, Or.inr ⟨?_, _, f4⟩⟩
          have first : ∃ l2, l = (c, ns) :: l2 := by
            split at hs1
            · exact ⟨[], (Option.some.inj hs1).symm⟩
            split at hs1
            · cases hl2 : lns false bl m (q + 1) with
              | none =>
                rw [hl2] at hs1
                exact absurd hs1 (by simp)
              | some l2 =>
                rw [hl2] at hs1
                exact ⟨l2, (Option.some.inj hs1).symm⟩
            · exact absurd hs1 (by simp)
          obtain ⟨l2, el⟩ := first
          rw [el]
          show (if (xLine w c ns).2 = true then xAll (xLine w c ns).1 l2 else none) = none
          rw [x2]
          rfl
      · rw [hr] at a1
        exact absurd a1 (by simp)
theorem m_script_ok {S : Mem} {bl : List Int32} {w : Wst} (hT : MTp S bl) (hl : bl.length ≤ 120) (hR : RM (wI w 10) (S 698) w) (hg : Good w) : ∃ r S1, fm_script S = some (r, S1) ∧ (∀ b, b ≠ 697 → b ≠ 698 → b ≠ 700 → b ≠ 702 → b ≠ 716 → S1 b = S b) ∧ S1 697 4 = S 697 4 ∧ S1 697 11 = 0 ∧ ((lns false bl 120 0 = none ∧ RM (wI w 10) (S1 698) w) ∨ (∃ l, lns false bl 120 0 = some l ∧ ((∃ w1, xAll w l = some w1 ∧ RM (wI w1 10) (S1 698) w1) ∨ (xAll w l = none ∧ RM (wI w 10) (S1 698) w)))) := by
  have em : lns false bl 122 0 = lns false bl 120 0 := lns_more 122 120 0 (by omega) (by omega) (Nat.zero_le _)
  unfold fm_script
  rcases m_form_ok hT hl with ⟨l, S1, a1, a2, a3, h20⟩ | ⟨a1, S1, a2, a3⟩
  · have ht := take_ok (S := S1) (a := 698) (b := 700) (by decide) ln698 ln700
    have e698 : S1 698 = S 698 := a3.1 698 (by decide) (by decide)
    rw [em] at a1
    obtain ⟨X, hX⟩ : ∃ X, X = up2 (xup S1 700 (tk (S1 698) (S1 700))) 697 19 0 := ⟨_, rfl⟩
    have X698 : X 698 = S 698 := by rw [hX, up2_off (by decide), xup_ne (by decide), e698]
    have X700 : X 700 = tk (S 698) (S1 700) := by rw [hX, up2_off (by decide), xup_self, e698]
    have X20 : X 697 20 = S1 697 20 := by rw [hX, up2_nf (by decide), xup_ne (by decide)]
    have XT : MTp X bl := (a3.tape hT).congr (by rw [hX, up2_nf (by decide), xup_ne (by decide)]) (by rw [hX, up2_off (by decide), xup_ne (by decide)])
    rw [a2, bd_some, if_neg n10, ht, obs, obs, ← hX]
    have XG : mG X 0 := ⟨by rw [hX, up2_self]; rfl, by rw [X20, h20]⟩
    obtain ⟨r, S2, b1, b2, b3, b4⟩ := m_all hl 120 LF 0 0 0 w X l (by decide) (by decide) rfl XT XG (by rw [X698]; exact hR) hg a1
    refine ⟨r, S2, b1, fun b q1 q2 q3 q4 q5 => ?_, ?_, b3, Or.inr ⟨l, a1, ?_⟩⟩
    · rw [b2.1 b q1 q2 q4 q5, hX, up2_off q1, xup_ne q3, a3.1 b q1 q5]
    · rw [b2.2, hX, up2_nf (by decide), xup_ne (by decide), a3.2 4 (by decide) (by decide)]
    · rcases b4 with b4 | ⟨b4, g, b5⟩
      · exact Or.inl b4
      · refine Or.inr ⟨b4, ?_⟩
        rw [b5, X700]
        exact RM_tk (RM_tk hR hg.1) hg.1
  · rw [em] at a1
    rw [a2, bd_some, if_pos rfl, obs]
    refine ⟨_, _, rfl, fun b q1 q2 q3 q4 q5 => ?_, ?_, up2_self, Or.inl ⟨a1, ?_⟩⟩
    · rw [up2_off q1]
      exact a3.1 b q1 q5
    · rw [up2_nf (by decide)]
      exact a3.2 4 (by decide) (by decide)
    · rw [up2_off (by decide), a3.1 698 (by decide) (by decide)]
      exact hR
section
variable {S : Mem} {w : Wst} {ik : Option Wst} {bl : List Int32} {hd : Nat → Hd}
theorem e_script (h : REL S w ik bl hd) : ∃ r r2 S1 S2 w', fx_script S = some (r, S1) ∧ fm_script S1 = some (r2, S2) ∧ REL S2 w' ik [] hd := by
  have hg := h.2.2.1
  have hl := h.2.2.2.2.1
  obtain ⟨r, S1, q1, q2, q3, q4⟩ := x_script_ok h.1.2.2.1 hl h.1.1 hg
  have off : ∀ b, (b = 0 ∨ inW 169 b ∨ inW 337 b ∨ 679 ≤ b) → S1 b = S b := fun b hb => by
    have hb2 : ¬ inW 1 b ∧ ¬ inW 505 b ∧ b ≠ 673 ∧ b ≠ 674 ∧ b ≠ 676 ∧ b ≠ 677 := by
      unfold inW at hb ⊢
      omega
    exact q2 b hb2.1 hb2.2.1 hb2.2.2.1 hb2.2.2.2.1 hb2.2.2.2.2.1 hb2.2.2.2.2.2
  have r1 : RM (wI w 10) (S1 698) w := by
    rw [off 698 (by omega)]
    exact h.2.1.1
  have t1 : MTp S1 bl := h.2.1.2.2.1.congr (by rw [off 697 (by omega)]) (off 703 (by omega))
  obtain ⟨r2, S2, p1, p2, p3, p4, p5⟩ := m_script_ok t1 hl r1 hg
  -- a world for both
  have key : ∃ w', RW S1 1 w' ∧ RM (wI w' 10) (S2 698) w' ∧ Good w' ∧ wN w ≤ wN w' := by
    rcases p5 with ⟨m1, m2⟩ | ⟨l, m1, m2⟩
    · rcases q4 with ⟨-, c2⟩ | ⟨l, c1, c2⟩
      · exact ⟨w, c2, m2, hg, Nat.le_refl _⟩
      · obtain ⟨v, v1, v2⟩ := lns_dn 120 0 l c1 m1
        have hb := xAll_bad v2 l w v1
        rcases c2 with ⟨w1, c3, -⟩ | ⟨-, c3⟩
        · rw [hb] at c3
          exact absurd c3 (by simp)
        · exact ⟨w, c3, m2, hg, Nat.le_refl _⟩
    · have hu := lns_up 120 0 l m1
      rcases q4 with ⟨c1, -⟩ | ⟨l', c1, c2⟩
      · rw [hu] at c1
        exact absurd c1 (by simp)
      · rw [hu] at c1
        have el := Option.some.inj c1
        subst el
        rcases c2 with ⟨w1, c3, c4⟩ | ⟨c3, c4⟩
        · rcases m2 with ⟨w2, m3, m4⟩ | ⟨m3, -⟩
          · rw [c3] at m3
            have ew := Option.some.inj m3
            subst ew
            obtain ⟨g1, g2⟩ := xAll_good l w w1 hg (lns_ok 120 0 l hu) c3
            exact ⟨w1, c4, m4, g1, g2⟩
          · rw [c3] at m3
            exact absurd m3 (by simp)
        · rcases m2 with ⟨w2, m3, -⟩ | ⟨-, m4⟩
          · rw [c3] at m3
            exact absurd m3 (by simp)
          · exact ⟨w, c4, m4, hg, Nat.le_refl _⟩
  obtain ⟨w', k1, k2, k3, k4⟩ := key
  refine ⟨r, r2, S1, S2, w', q1, p1, ?_⟩
  -- the tape emptied, then the world
  obtain ⟨X, hX⟩ : ∃ X : Mem, X = fun b => if 673 ≤ b ∧ b < 679 then S1 b else if b = 697 then upd (S 697) 11 0 else S b := ⟨_, rfl⟩
  have Xo : ∀ b, (b < 673 ∨ 679 ≤ b) → b ≠ 697 → X b = S b := fun b n1 n2 => by
    rw [hX]
    show (if 673 ≤ b ∧ b < 679 then S1 b else if b = 697 then upd (S 697) 11 0 else S b) = S b
    rw [if_neg (by omega), if_neg n2]
  have Xt : ∀ b, 673 ≤ b → b < 679 → X b = S1 b := fun b n1 n2 => by
    rw [hX]
    exact if_pos ⟨n1, n2⟩
  have X697 : X 697 = upd (S 697) 11 0 := by
    rw [hX]
    show (if 673 ≤ 697 ∧ 697 < 679 then S1 697 else if 697 = 697 then upd (S 697) 11 0 else S 697) = _
    rw [if_neg (by decide), if_pos rfl]
  have hX1 : REL X w ik [] hd := h.tape (fun b n1 n2 => Xo b n2 (by omega)) (by rw [X697, upd_n (by decide)]) (fun b n1 => Xo b (by omega) (by omega)) (RN.len0 (by rw [Xt 674 (by decide) (by decide)]; exact q3)) ⟨by rw [X697, upd_s]; rfl, fun i hi => absurd hi (Nat.not_lt_zero _)⟩ (Nat.zero_le _) (fun q hq => absurd hq List.not_mem_nil)
  have Y697 : (up2 S1 697 11 0) 697 = X 697 := by
    funext j
    rw [X697]
    by_cases e : j = 11
    · rw [e, up2_self, upd_s]
    · rw [up2_nf e, upd_n e, off 697 (by omega)]
  refine hX1.world (S1 := up2 S1 697 11 0) (k1.congr k3.1.1 fun b q => up2_off (by have := q.2; omega)) (fun b hb => ?_) ⟨?_, ?_, fun b hb => ?_⟩ k2 k3 k4
  · by_cases e : b = 697
    · rw [e]
      exact Y697
    · rw [up2_off e]
      by_cases e2 : 673 ≤ b ∧ b < 679
      · rw [Xt b e2.1 e2.2]
      · rw [Xo b (by omega) e]
        rcases hb with q | q | q
        · exact off b (Or.inl q)
        · exact off b (Or.inr (Or.inr (Or.inl q)))
        · exact off b (Or.inr (Or.inr (Or.inr (by omega))))
  · rw [p3, up2_nf (by decide)]
  · rw [p4, up2_self]
  · rw [up2_off (by omega)]
    exact p2 b (by omega) (by omega) (by omega) (by omega) (by omega)
end
