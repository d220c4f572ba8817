/-! 44: the reference: failures -/
variable {en : Int32}
theorem m_noted_loop {S : Mem} {p : Nat} {l : List Int32} {T W : Int32} (hp : p < 12) (hc : l.length ≤ 10) : ∀ (m n k : Nat) (g : Nat → Int32), k + m = l.length → m < n → g 925 = T → g (77 * p + 4) = W → (∀ i, i < ((l.take k).filter fun t => !decide (t < T - W)).length → ((l.take k).filter fun t => !decide (t < T - W))[i]? = some (g (77 * p + 65 + i))) → (∀ i, k ≤ i → i < l.length → l[i]? = some (g (77 * p + 65 + i))) → ∃ g1, fm_noted_14 n (Int32.ofNat p) 1 (Int32.ofNat ((l.take k).filter fun t => !decide (t < T - W)).length) (Int32.ofNat l.length) (Int32.ofNat k) (gM S g) = some (Int32.ofNat (l.filter fun t => !decide (t < T - W)).length, gM S g1) ∧ g1 (77 * p + 64) = Int32.ofNat (l.filter fun t => !decide (t < T - W)).length ∧ LNm g1 (77 * p + 65) (l.filter fun t => !decide (t < T - W)) ∧ ∀ j, (j < 77 * p + 64 ∨ 77 * p + 77 ≤ j) → g1 j = g j
  | _, 0, _, _, _, h, _, _, _, _ => absurd h (Nat.not_lt_zero _)
  | 0, n + 1, k, g, h, _, _, _, h1, h2 => by
    have hk : k = l.length := by omega
    subst hk
    rw [List.take_length] at h1 ⊢
    have hfl := List.length_filter_le (fun t : Int32 => !decide (t < T - W)) l
    show ∃ g1, fm_noted_14b (fm_noted_14 n) _ _ _ _ (Int32.ofNat l.length) (gM S g) = _ ∧ _
    unfold fm_noted_14b
    rw [if_pos ((n_le (by omega) (by omega)).mpr (Nat.le_refl _)), if_neg (by decide), st_64 hp, obs]
    exact ⟨_, rfl, upd_s, LNm.of fun i hi => by rw [upd_n (by omega)]; exact h1 i hi, fun j hj => upd_n (by omega)⟩
  | m + 1, n + 1, k, g, h, hn, hT, hW, h1, h2 => by
    have hk : k < l.length := by omega
    have hx := h2 k (Nat.le_refl _) hk
    have hfl : ((l.take k).filter fun t => !decide (t < T - W)).length ≤ k := by
      have := List.length_filter_le (fun t : Int32 => !decide (t < T - W)) (l.take k)
      rw [List.length_take] at this
      omega
    show ∃ g1, fm_noted_14b (fm_noted_14 n) _ _ _ _ (Int32.ofNat k) (gM S g) = _ ∧ _
    unfold fm_noted_14b
    rw [if_neg (fun q => by rw [n_le (by omega) (by omega)] at q; omega), i65, at_v hp (by omega), obs, g_925, obs, at_4 hp, obs, hT, hW, show 77 * p + (65 + k) = 77 * p + 65 + k by omega]
    have ht := take_s hx
    by_cases e : g (77 * p + 65 + k) < T - W
    · have e2 : (l.take (k + 1)).filter (fun t => !decide (t < T - W)) = (l.take k).filter fun t => !decide (t < T - W) := by
        rw [ht, List.filter_append]
        simp [e]
      rw [if_pos e, n_succ]
      rw [← e2] at h1 ⊢
      exact m_noted_loop hp hc m n (k + 1) g (by omega) (by omega) hT hW h1 (fun i g1 g2 => h2 i (by omega) g2)
    · have e2 : (l.take (k + 1)).filter (fun t => !decide (t < T - W)) = ((l.take k).filter fun t => !decide (t < T - W)) ++ [g (77 * p + 65 + k)] := by
        rw [ht, List.filter_append]
        congr 1
        simp [e]
      obtain ⟨L, hL⟩ : ∃ L, L = ((l.take k).filter fun t => !decide (t < T - W)).length := ⟨_, rfl⟩
      rw [if_neg e, if_neg (by decide), i65, ← hL, st_v hp (by omega), obs, n_succ, n_succ, show 77 * p + (65 + L) = 77 * p + 65 + L by omega]
      rw [← hL] at hfl
      obtain ⟨p1, p2⟩ := press (V1 := fun i => upd g (77 * p + 65 + L) (g (77 * p + 65 + k)) (77 * p + 65 + i)) h1 h2 (by rw [← hL]; exact hfl) (by show upd g _ _ _ = _; rw [← hL, upd_s]) (fun i hi => by rw [← hL] at hi; exact upd_n (by omega))
      rw [← e2] at p1
      have e3 : L + 1 = ((l.take (k + 1)).filter fun t => !decide (t < T - W)).length := by
        rw [e2, List.length_append, hL]
        rfl
      rw [e3]
      obtain ⟨g1, q1, q2, q3, q4⟩ := m_noted_loop (S := S) hp hc m n (k + 1) (upd g (77 * p + 65 + L) (g (77 * p + 65 + k))) (by omega) (by omega) ((upd_n (by omega)).trans hT) ((upd_n (by omega)).trans hW) p1 p2
      exact ⟨g1, q1, q2, q3, fun j hj => (q4 j hj).trans (upd_n (by omega))⟩
theorem m_over_ok {S : Mem} {f : Nat → Int32} {w : Wst} {p : Nat} (hR : RM en f w) (hI : Inv w) (hp : p < wN w) : ∃ f1, fm_isOverBudget (Int32.ofNat p) (gM S f) = some (if sOver w p = true then 1 else 0, gM S f1) ∧ RM en f1 (sNote w p) := by
  have h12 := hI.1
  have hA := hR.2.2.1 p hp
  have hx := hI.fit hp
  obtain ⟨k, hk, ek⟩ := (hI.2.1 p hp).2.2.2.1
  obtain ⟨g1, q1, q2, q3, q4⟩ := m_noted_loop (S := S) (p := p) (T := wI w 6) (W := aI (wA w p) 4) (by omega) hx.2.2.2.2 (aNot (wA w p)).length LF 0 f (Nat.zero_add _) (by have := hx.2.2.2.2; show _ < 3000; omega) hR.2.1.1 hA.1.2.2.2.2.1 (fun i hi => absurd hi (Nat.not_lt_zero _)) (fun i _ hi => hA.2.2.2.2.2.2.to i hi)
  have hfl := List.length_filter_le (fun t : Int32 => !decide (t < wI w 6 - aI (wA w p) 4)) (aNot (wA w p))
  obtain ⟨L, hL⟩ : ∃ L, L = ((aNot (wA w p)).filter fun t => !decide (t < wI w 6 - aI (wA w p) 4)).length := ⟨_, rfl⟩
  have hl10 := hx.2.2.2.2
  rw [← hL] at q1 q2 hfl
  have hs : sOver w p = decide (k < L + 1) := by
    unfold sOver
    rw [note_self, ek, nu_n (by omega)]
    show decide (k < (_ ++ [_]).length) = _
    rw [List.length_append, ← hL]
    rfl
  refine ⟨upd (upd g1 (77 * p + 65 + L) (wI w 6)) (77 * p + 64) (Int32.ofNat (L + 1)), ?_, ?_⟩
  · have h14 : fm_noted (Int32.ofNat p) 1 (gM S f) = some (Int32.ofNat L, gM S g1) := by
      unfold fm_noted
      rw [at_64 (by omega), obs, hA.2.2.2.2.2.1]
      exact q1
    have e3 : upd (upd g1 (77 * p + 65 + L) (wI w 6)) (77 * p + 64) (Int32.ofNat (L + 1)) (77 * p + 3) = Int32.ofNat k := by
      rw [upd_n (by omega), upd_n (by omega), q4 _ (by omega), hA.1.2.2.2.1]
      exact ek
    unfold fm_isOverBudget
    rw [h14, bd_some, g_925, obs, q4 925 (by omega), hR.2.1.1, i65, st_v (by omega) (by omega), obs, n_succ, st_64 (by omega), obs, at_3 (by omega), obs, show 77 * p + (65 + L) = 77 * p + 65 + L by omega, e3, hs]
    by_cases g : L + 1 ≤ k
    · rw [if_pos ((n_le (by omega) (by omega)).mpr g), if_neg (by simp only [decide_eq_true_eq]; omega)]
    · rw [if_neg (fun q => g ((n_le (by omega) (by omega)).mp q)), if_pos (by simp only [decide_eq_true_eq]; omega)]
  · refine hR.act hI (by omega) (hA.notes hx ?_ ?_ fun j hj => ?_) fun j hj => ?_
    · rw [upd_s, List.length_append, ← hL]
      rfl
    · refine q3.snoc (fun i hi => ?_) ?_
      · rw [← hL] at hi
        rw [upd_n (by omega), upd_n (by omega)]
      · rw [← hL, upd_n (by omega), upd_s]
    · rw [upd_n (by omega), upd_n (by omega), q4 _ (by omega)]
    · rw [upd_n (by omega), upd_n (by omega), q4 _ (by omega)]
/-! the chain -/
def CH (S : Mem) (l : List Msg) : Prop := S 697 9 = Int32.ofNat l.length ∧ ∀ i m, l[i]? = some m → S 702 (2 * i) = m.1 ∧ S 702 (2 * i + 1) = m.2
/-- beside the row of numbers: the chain and three fields alone -/
def OM (S S1 : Mem) : Prop := (∀ b, b ≠ 697 → b ≠ 702 → S1 b = S b) ∧ ∀ k, k ≠ 5 → k ≠ 6 → k ≠ 9 → S1 697 k = S 697 k
theorem OM.refl (S : Mem) : OM S S := ⟨fun _ _ _ => rfl, fun _ _ _ _ => rfl⟩
theorem OM.trans {S S1 S2 : Mem} (h : OM S S1) (k : OM S1 S2) : OM S S2 := ⟨fun b q1 q2 => (k.1 b q1 q2).trans (h.1 b q1 q2), fun j q1 q2 q3 => (k.2 j q1 q2 q3).trans (h.2 j q1 q2 q3)⟩
theorem OM.f697 {S : Mem} {k : Nat} {v : Int32} (h : k = 5 ∨ k = 6 ∨ k = 9) : OM S (up2 S 697 k v) := ⟨fun b q _ => up2_off q, fun j q1 q2 q3 => up2_nf (by rcases h with h | h | h <;> omega)⟩
theorem OM.c702 {S : Mem} {k : Nat} {v : Int32} : OM S (up2 S 702 k v) := ⟨fun b _ q => up2_off q, fun j _ _ _ => up2_ne (by decide)⟩
theorem c702 {S : Mem} {f : Nat → Int32} {k : Nat} {v : Int32} (h : k < 26) : ast (gM S f) 702 (Int32.ofNat k) v = some (gM (up2 S 702 k v) f) := by
  have hl : ln 702 = 26 := by decide +kernel
  rw [ast_n (by rw [hl]; exact h) (by rw [hl]; decide), gM_up2 (by decide)]
theorem l702 {S : Mem} {f : Nat → Int32} {k : Nat} (h : k < 26) : ald (gM S f) 702 (Int32.ofNat k) = some (S 702 k) := by
  have hl : ln 702 = 26 := by decide +kernel
  rw [ald_n (by rw [hl]; exact h) (by rw [hl]; decide), gM_off (by decide)]
theorem CH.snoc {S : Mem} {l : List Msg} {m : Msg} (h : CH S l) : CH (up2 (up2 (up2 S 702 (2 * l.length) m.1) 702 (2 * l.length + 1) m.2) 697 9 (Int32.ofNat (l.length + 1))) (l ++ [m]) := by
  refine ⟨?_, fun i q hq => ?_⟩
  · rw [up2_self, List.length_append]
    rfl
  · have hU : ∀ j, up2 (up2 (up2 S 702 (2 * l.length) m.1) 702 (2 * l.length + 1) m.2) 697 9 (Int32.ofNat (l.length + 1)) 702 j = up2 (up2 S 702 (2 * l.length) m.1) 702 (2 * l.length + 1) m.2 702 j := fun j => up2_ne (by decide)
    rw [hU, hU]
    rcases snoc_at hq with ⟨e1, e2⟩ | ⟨e1, e2⟩
    · rw [up2_nf (by omega), up2_nf (by omega), up2_nf (by omega), up2_nf (by omega)]
      exact h.2 i q e2
    · rw [e1, e2, up2_nf (by omega), up2_self, up2_self]
      exact ⟨rfl, rfl⟩
/-- the end of the way up -/
def mEnd (t : Int32) (X : Mem) : Option Mem := (ast X 698 993 (X 697 9)).bind fun S1 => fm_fails_132 LF t 0 S1
theorem m_climb_0 {n : Nat} {t : Int32} {X : Mem} : fm_fails_34 (n + 1) t 0 X = mEnd t X := by
  show fm_fails_34b (fm_fails_34 n) t 0 X = _
  unfold fm_fails_34b mEnd
  rw [if_pos rfl]
theorem m_climb_ok : ∀ (m n t : Nat) (w : Wst) (l : List Msg) (S : Mem) (f : Nat → Int32), t < m → t + 2 < n → sLive w t = true → IT w → BudX w t → l.length + t ≤ 12 → 1 ≤ l.length → CH S l → RM en f w → ∃ S1 f1, fm_fails_34 n (Int32.ofNat t) 1 (gM S f) = mEnd (Int32.ofNat (sClimb m w l t).2.2) (gM S1 f1) ∧ RM en f1 (sClimb m w l t).1 ∧ CH S1 (sClimb m w l t).2.1 ∧ OM S S1 ∧ S1 697 5 = S 697 5 ∧ S1 697 6 = S 697 6 ∧ S1 702 1 = S 702 1
  | 0, _, _, _, _, _, _, h, _, _, _, _, _, _, _, _ => absurd h (Nat.not_lt_zero _)
  | _ + 1, 0, _, _, _, _, _, _, h, _, _, _, _, _, _, _ => absurd h (Nat.not_lt_zero _)
  | m + 1, n + 1, t, w, l, S, f, h, hn, hl, hT, hB, hc, h1, hC, hR => by
    have ht := (sLive_lt hl).1
    have h12 := hT.1.1
    have hA := hR.2.2.1 t ht
    obtain ⟨n, rfl⟩ : ∃ n', n = n' + 1 := ⟨n - 1, by omega⟩
    have hs : sClimb (m + 1) w l t = if t = 0 then (w, l, t) else if sOver w (par w t) = true then sClimb m (sNote w (par w t)) (l ++ [(Int32.ofNat (par w t), 9)]) (par w t) else (sNote w (par w t), l, t) := rfl
    show ∃ S1 f1, fm_fails_34b (fm_fails_34 (n + 1)) (Int32.ofNat t) 1 (gM S f) = _ ∧ _
    unfold fm_fails_34b
    rw [hs, if_neg (by decide), at_0 (by omega), obs, hA.1.1]
    by_cases e : t = 0
    · subst e
      rw [if_pos rfl, par_root hT.1 ht, if_pos (by decide)]
      unfold fm_fails_66
      rw [if_pos rfl, m_climb_0]
      exact ⟨S, f, rfl, hR, hC, OM.refl S, rfl, rfl, rfl⟩
    · have hp := par_live hT.2 hl (by omega)
      obtain ⟨hp1, hp2⟩ := par_ok hT.1 ht (by omega)
      have h9 := par_free hT hB hl (by omega)
      have hN := note_it hT hp h9
      obtain ⟨f1, k1, k2⟩ := m_over_ok (S := S) hR hT.1 (sLive_lt hp).1
      rw [if_neg e, hp2, if_neg (n_neg (by omega)), k1, bd_some]
      by_cases g : sOver w (par w t) = true
      · rw [if_pos g, if_neg (by decide), if_pos g]
        obtain ⟨S3, f3, j1, j2, j3, j4, j5, j6, j7⟩ := m_climb_ok m (n + 1) (par w t) (sNote w (par w t)) (l ++ [(Int32.ofNat (par w t), 9)]) (up2 (up2 (up2 S 702 (2 * l.length) (Int32.ofNat (par w t))) 702 (2 * l.length + 1) 9) 697 9 (Int32.ofNat (l.length + 1))) f1 (by omega) (by omega) (by rw [note_live]; exact hp) hN (note_over hB) (by
          rw [List.length_append]
          show l.length + 1 + _ ≤ 12
          omega) (by
          rw [List.length_append]
          omega) hC.snoc k2
        refine ⟨S3, f3, ?_, j2, j3, (OM.c702.trans (OM.c702.trans (OM.f697 (Or.inr (Or.inr rfl))))).trans j4, ?_, ?_, ?_⟩
        · unfold fm_fails_66
          rw [if_neg (by decide), gM_off (by decide), hC.1, im2, c702 (by omega), obs, gM_off (by decide), up2_ne (by decide), hC.1, im2, n_succ, c702 (by omega), obs, gM_off (by decide), up2_ne (by decide), up2_ne (by decide), hC.1, n_succ, gM_up2 (by decide), obs]
          exact j1
        · rw [j5, up2_nf (by decide), up2_ne (by decide), up2_ne (by decide)]
        · rw [j6, up2_nf (by decide), up2_ne (by decide), up2_ne (by decide)]
        · rw [j7, up2_ne (by decide), up2_nf (by omega), up2_nf (by omega)]
      · rw [if_neg g, if_pos rfl, if_neg g]
        unfold fm_fails_66
        rw [if_pos rfl, m_climb_0]
        exact ⟨S, f1, rfl, k2, hC, OM.refl S, rfl, rfl, rfl⟩
/-! the causes told -/
/-- behind the causes -/
def mDo (t : Int32) (X : Mem) : Option Mem := (fm_at t 0 X).bind fun x1 => if 0 ≤ x1 then ((fm_at x1 2 X).bind fun x2 => fm_fails_240 LF t x1 x2 0 X) else ((fm_stops 14 t X).bind fun S1 => some S1)
theorem m_cau_loop {S : Mem} {l : List Msg} {t : Int32} (hC : CH S l) (hl : l.length ≤ 12) : ∀ (m n k : Nat) (f : Nat → Int32), k + m = l.length → m < n → (∀ i q, i < k → l.reverse[i]? = some q → f (994 + 2 * i) = q.1 ∧ f (994 + 2 * i + 1) = q.2) → ∃ f1, fm_fails_132 n t (Int32.ofNat k) (gM S f) = mDo t (gM S f1) ∧ (∀ i q, l.reverse[i]? = some q → f1 (994 + 2 * i) = q.1 ∧ f1 (994 + 2 * i + 1) = q.2) ∧ ∀ j, j < 994 → f1 j = f j
  | _, 0, _, _, _, h, _ => absurd h (Nat.not_lt_zero _)
  | 0, n + 1, k, f, h, _, hd => by
    show ∃ f1, fm_fails_132b (fm_fails_132 n) t (Int32.ofNat k) (gM S f) = _ ∧ _
    unfold fm_fails_132b
    rw [gM_off (by decide), hC.1, if_pos ((n_le (by omega) (by omega)).mpr (by omega))]
    exact ⟨f, rfl, fun i q hq => hd i q (by have := (List.getElem?_eq_some_iff.mp hq).1; rw [List.length_reverse] at this; omega) hq, fun _ _ => rfl⟩
  | m + 1, n + 1, k, f, h, hn, hd => by
    have hk : k < l.length := by omega
    have hx : l[l.length - 1 - k]? = some l[l.length - 1 - k] := List.getElem?_eq_getElem (by omega)
    have hx2 := hC.2 _ _ hx
    have hr : l.reverse[k]? = some l[l.length - 1 - k] := by
      rw [List.getElem?_reverse hk]
      exact hx
    have e1 : (2 : Int32) * ((Int32.ofNat l.length - 1) - Int32.ofNat k) = Int32.ofNat (2 * (l.length - 1 - k)) := by
      rw [show (1 : Int32) = Int32.ofNat 1 from rfl, n_sub (by omega), n_sub (by omega), im2]
    obtain ⟨f1, k1, k2, k3⟩ := m_cau_loop (t := t) hC hl m n (k + 1) (upd (upd f (994 + 2 * k) l[l.length - 1 - k].1) (994 + 2 * k + 1) l[l.length - 1 - k].2) (by omega) (by omega) (fun i q hi hq => by
      by_cases e : i = k
      · subst e
        rw [hr] at hq
        rw [← Option.some.inj hq, upd_n (by omega), upd_s, upd_s]
        exact ⟨rfl, rfl⟩
      · rw [upd_n (by omega), upd_n (by omega), upd_n (by omega), upd_n (by omega)]
        exact hd i q (by omega) hq)
    refine ⟨f1, ?_, k2, fun j hj => ?_⟩
    · show fm_fails_132b (fm_fails_132 n) t (Int32.ofNat k) (gM S f) = _
      unfold fm_fails_132b
      rw [gM_off (by decide), hC.1, if_neg (fun q => by rw [n_le (by omega) (by omega)] at q; omega), e1, l702 (by omega), obs, hx2.1, i994d, gs (by omega), obs, gM_off (by decide), hC.1, e1, n_succ, l702 (by omega), obs, hx2.2, n_succ, gs (by omega), obs, n_succ]
      exact k1
    · rw [k3 j hj, upd_n (by omega), upd_n (by omega)]
theorem m_rests_ok {t p : Nat} {st : Int32} (h0 : 0 < t) : ∀ (k n c : Nat) (w : Wst) (S : Mem) (f : Nat → Int32), c + k = wN w → k < n → IT w → t < wN w → par w t = p → aI (wA w p) 2 = st → RM en f w → ∃ S1 f1, fm_fails_240 n (Int32.ofNat t) (Int32.ofNat p) st (Int32.ofNat c) (gM S f) = some (gM S1 f1) ∧ RM en f1 (sRests t k c w (S 697 6)).1 ∧ OM S S1 ∧ S1 697 5 = S 697 5 ∧ S1 697 6 = (sRests t k c w (S 697 6)).2 ∧ S1 702 = S 702
  | _, 0, _, _, _, _, _, h, _, _, _, _, _ => absurd h (Nat.not_lt_zero _)
  | 0, n + 1, c, w, S, f, hc, _, hT, ht, _, _, hR => by
    have h12 := hT.1.1
    show ∃ S1 f1, fm_fails_240b (fm_fails_240 n) _ _ _ (Int32.ofNat c) (gM S f) = _ ∧ _
    unfold fm_fails_240b
    rw [g_924, obs, hR.1, if_pos ((n_le (by omega) (by omega)).mpr (by omega))]
    exact ⟨S, f, rfl, hR, OM.refl S, rfl, rfl, rfl⟩
  | k + 1, n + 1, c, w, S, f, hc, hn, hT, ht, hp, hst, hR => by
    have h12 := hT.1.1
    have hs : sRests t (k + 1) c w (S 697 6) = if sWith w t c = true then sRests t k (c + 1) (sRestart w c) (S 697 6 ||| (1 <<< (Int32.ofNat c &&& 31))) else sRests t k (c + 1) w (S 697 6) := rfl
    have hw : sWith w t c = (sLC w c p && (decide (c = t) || decide (st = 1) || (decide (st = 2) && decide (t < c)))) := by
      show (sLC w c (par w t) && (decide (c = t) || decide (aI (wA w (par w t)) 2 = 1) || (decide (aI (wA w (par w t)) 2 = 2) && decide (t < c)))) = _
      rw [hp, hst]
    have hyes : sWith w t c = true → ∃ S1 f1, ((fm_restarts (Int32.ofNat c) (gM S f)).bind fun S1 => fm_fails_240 n (Int32.ofNat t) (Int32.ofNat p) st (Int32.ofNat (c + 1)) S1) = some (gM S1 f1) ∧ RM en f1 (sRests t k (c + 1) (sRestart w c) (S 697 6 ||| (1 <<< (Int32.ofNat c &&& 31)))).1 ∧ OM S S1 ∧ S1 697 5 = S 697 5 ∧ S1 697 6 = (sRests t k (c + 1) (sRestart w c) (S 697 6 ||| (1 <<< (Int32.ofNat c &&& 31)))).2 ∧ S1 702 = S 702 := fun e => by
      have hcl := (sLC_of (with_lc e)).1
      obtain ⟨f1, k1, k2⟩ := m_restart_ok (S := S) hT hcl hR
      obtain ⟨r1, -⟩ := restart_it hT hcl
      have hS := rs_shr w c
      obtain ⟨S2, f2, m1, m2, m3, m4, m5, m6⟩ := m_rests_ok (p := p) (st := st) h0 k n (c + 1) (sRestart w c) (up2 S 697 6 (S 697 6 ||| (1 <<< (Int32.ofNat c &&& 31)))) f1 (by rw [hS.1]; omega) (by omega) r1 (by rw [hS.1]; exact ht) (by rw [par_congr fun b => hS.2.1 b 0 (by decide) (by decide)]; exact hp) (by rw [hS.2.1 p 2 (by decide) (by decide)]; exact hst) k2
      rw [up2_self] at m2 m5
      rw [up2_nf (by decide)] at m4
      rw [up2_off (by decide)] at m6
      rw [k1, obs]
      exact ⟨S2, f2, m1, m2, (OM.f697 (Or.inr (Or.inl rfl))).trans m3, m4, m5, m6⟩
    have hno : ∃ S1 f1, fm_fails_240 n (Int32.ofNat t) (Int32.ofNat p) st (Int32.ofNat (c + 1)) (gM S f) = some (gM S1 f1) ∧ RM en f1 (sRests t k (c + 1) w (S 697 6)).1 ∧ OM S S1 ∧ S1 697 5 = S 697 5 ∧ S1 697 6 = (sRests t k (c + 1) w (S 697 6)).2 ∧ S1 702 = S 702 := m_rests_ok h0 k n (c + 1) w S f (by omega) (by omega) hT ht hp hst hR
    show ∃ S1 f1, fm_fails_240b (fm_fails_240 n) _ _ _ (Int32.ofNat c) (gM S f) = _ ∧ _
    unfold fm_fails_240b
    rw [hs, g_924, obs, hR.1, if_neg (fun q => by rw [n_le (by omega) (by omega)] at q; omega), m_isLC_ok hR hT.1 (by omega), n_succ, obs]
    by_cases e : sLC w c p = true
    · rw [if_pos e, if_neg (show ¬ (1 : Int32) = 0 by decide)]
      by_cases g : c = t
      · have hy : sWith w t c = true := by rw [hw, e]; simp [g]
        rw [if_pos ((n_inj (by omega) (by omega)).mpr g), if_pos hy]
        exact hyes hy
      · rw [if_neg (show ¬ Int32.ofNat c = Int32.ofNat t from fun q => g ((n_inj (by omega) (by omega)).mp q))]
        by_cases g2 : st = 1
        · have hy : sWith w t c = true := by rw [hw]; simp [e, g2]
          rw [if_pos g2, if_pos hy]
          exact hyes hy
        · rw [if_neg g2]
          by_cases g3 : st = 2
          · rw [if_pos g3]
            by_cases g4 : c ≤ t
            · have hy : ¬ sWith w t c = true := by rw [hw]; simp [g, g2]; omega
              rw [if_pos ((n_le (by omega) (by omega)).mpr g4), if_neg hy]
              exact hno
            · have hy : sWith w t c = true := by rw [hw]; simp [e, g3]; omega
              rw [if_neg (show ¬ Int32.ofNat c ≤ Int32.ofNat t from fun q => g4 ((n_le (by omega) (by omega)).mp q)), if_pos hy]
              exact hyes hy
          · have hy : ¬ sWith w t c = true := by rw [hw]; simp [g, g2, g3]
            rw [if_neg g3, if_neg hy]
            exact hno
    · have hy : ¬ sWith w t c = true := by rw [hw]; simp [e]
      rw [if_neg e, if_pos (show (0 : Int32) = 0 from rfl), if_neg hy]
      have hi : ∀ (q : Prop) [Decidable q] (x : Option Mem), (if q then x else x) = x := fun q _ x => by split <;> rfl
      rw [hi, hi, hi, hi]
      exact hno
theorem m_fails_ok {S : Mem} {f : Nat → Int32} {w : Wst} {a : Nat} {why : Int32} (hR : RM en f w) (h : Good w) (hl : sLive w a = true) : ∃ S1 f1, fm_fails (Int32.ofNat a) why (gM S f) = some (gM S1 f1) ∧ RM en f1 (sFail w a why (S 697 6)).1 ∧ OM S S1 ∧ S1 697 5 = 1 ∧ S1 697 6 = (sFail w a why (S 697 6)).2 ∧ S1 702 1 = why := by
  have h12 := h.1.1
  have ha := (sLive_lt hl).1
  have hq : ∀ m ∈ [((Int32.ofNat a, why) : Msg)], okN 12 m.1 := fun m hm => by
    rw [List.mem_singleton.mp hm]
    exact okN_of (by omega)
  obtain ⟨g1, g2, g3, g4, g5, g6⟩ := climb_ok 12 a w [(Int32.ofNat a, why)] (by omega) hl ⟨h.1, h.2.1⟩ (h.2.2.x a) (by show 1 + a ≤ 12; omega) hq
  let S0 : Mem := up2 (up2 (up2 (up2 (up2 S 697 5 1) 697 9 0) 702 0 (Int32.ofNat a)) 702 1 why) 697 9 1
  have o0 : OM S S0 := ((OM.f697 (Or.inl rfl)).trans (OM.f697 (Or.inr (Or.inr rfl)))).trans ((OM.c702.trans OM.c702).trans (OM.f697 (Or.inr (Or.inr rfl))))
  have s5 : S0 697 5 = 1 := by
    show up2 (up2 (up2 (up2 (up2 S 697 5 1) 697 9 0) 702 0 (Int32.ofNat a)) 702 1 why) 697 9 1 697 5 = 1
    rw [up2_nf (by decide), up2_ne (by decide), up2_ne (by decide), up2_nf (by decide), up2_self]
  have s6 : S0 697 6 = S 697 6 := by
    show up2 (up2 (up2 (up2 (up2 S 697 5 1) 697 9 0) 702 0 (Int32.ofNat a)) 702 1 why) 697 9 1 697 6 = S 697 6
    rw [up2_nf (by decide), up2_ne (by decide), up2_ne (by decide), up2_nf (by decide), up2_nf (by decide)]
  have s1 : S0 702 1 = why := by
    show up2 (up2 (up2 (up2 (up2 S 697 5 1) 697 9 0) 702 0 (Int32.ofNat a)) 702 1 why) 697 9 1 702 1 = why
    rw [up2_ne (by decide), up2_self]
  have hC : CH S0 [(Int32.ofNat a, why)] := by
    refine ⟨up2_self, fun i q hq2 => ?_⟩
    have hi : i = 0 := by
      have := (List.getElem?_eq_some_iff.mp hq2).1
      have h1 : i < 1 := this
      omega
    subst hi
    rw [List.getElem?_cons_zero] at hq2
    rw [← Option.some.inj hq2]
    refine ⟨?_, s1⟩
    show up2 (up2 (up2 (up2 (up2 S 697 5 1) 697 9 0) 702 0 (Int32.ofNat a)) 702 1 why) 697 9 1 702 0 = Int32.ofNat a
    rw [up2_ne (by decide), up2_nf (by decide), up2_self]
  obtain ⟨S1, f1, k1, k2, k3, k4, k5, k6, k7⟩ := m_climb_ok 12 LF a w [(Int32.ofNat a, why)] S0 f (by omega) (by show a + 2 < 3000; omega) hl ⟨h.1, h.2.1⟩ (h.2.2.x a) (by show 1 + a ≤ 12; omega) (Nat.le_refl _) hC hR
  have hstart : fm_fails (Int32.ofNat a) why (gM S f) = fm_fails_34 LF (Int32.ofNat a) 1 (gM S0 f) := by
    unfold fm_fails
    rw [obs, gM_up2 (by decide), obs, gM_up2 (by decide), show (0 : Int32) = Int32.ofNat 0 from rfl, c702 (by decide), obs, show ast (gM (up2 (up2 (up2 S 697 5 1) 697 9 (Int32.ofNat 0)) 702 0 (Int32.ofNat a)) f) 702 1 why = _ from c702 (k := 1) (by decide), obs, gM_up2 (by decide), obs]
    rfl
  rw [hstart, k1]
  unfold sFail
  generalize sClimb 12 w [(Int32.ofNat a, why)] a = r at *
  have e697 : (gM S1 f1) 697 9 = Int32.ofNat r.2.1.length := by rw [gM_off (by decide)]; exact k3.1
  obtain ⟨f2, m1, m2, m3⟩ := m_cau_loop (t := Int32.ofNat r.2.2) k3 g5 r.2.1.length LF 0 (upd f1 993 (Int32.ofNat r.2.1.length)) (Nat.zero_add _) (by show _ < 3000; omega) (fun i q hi => absurd hi (Nat.not_lt_zero _))
  have hend : mEnd (Int32.ofNat r.2.2) (gM S1 f1) = mDo (Int32.ofNat r.2.2) (gM S1 f2) := by
    unfold mEnd
    rw [e697, gs_993, obs]
    exact m1
  have hc := cau_it g1 g5 g6
  have r2 : RM en f2 (wSC r.1 r.2.1) := k2.cau g1.1 ⟨by rw [m3 993 (by decide), upd_s], m2⟩ fun k hk => by rw [m3 k (by omega), upd_n (by omega)]
  have hlt := (sLive_lt g3).1
  have hrn : wN r.1 ≤ 12 := by omega
  have e0 : f2 (77 * r.2.2 + 0) = aI (wA r.1 r.2.2) 0 := (r2.2.2.1 r.2.2 hlt).1.1
  rw [hend]
  show ∃ S2 f3, mDo (Int32.ofNat r.2.2) (gM S1 f2) = some (gM S2 f3) ∧ RM en f3 (if r.2.2 = 0 then (sStop 12 (wSC r.1 r.2.1) 0, S 697 6) else sRests r.2.2 (wN (wSC r.1 r.2.1)) 0 (wSC r.1 r.2.1) (S 697 6)).1 ∧ OM S S2 ∧ S2 697 5 = 1 ∧ S2 697 6 = (if r.2.2 = 0 then (sStop 12 (wSC r.1 r.2.1) 0, S 697 6) else sRests r.2.2 (wN (wSC r.1 r.2.1)) 0 (wSC r.1 r.2.1) (S 697 6)).2 ∧ S2 702 1 = why
  unfold mDo
  rw [at_0 (by omega), obs, e0]
  by_cases e : r.2.2 = 0
  · rw [e] at g3 hlt ⊢
    rw [par_root g1.1 hlt, if_neg (by decide), if_pos rfl]
    obtain ⟨f3, j1, j2⟩ := m_stop_ok (S := S1) hc g3 r2
    rw [j1, obs]
    exact ⟨S1, f3, rfl, j2, o0.trans k4, k5.trans s5, k6.trans s6, k7.trans s1⟩
  · obtain ⟨p1, p2⟩ := par_ok g1.1 hlt (by omega)
    rw [if_neg e, p2, if_pos (by rw [show (0 : Int32) = Int32.ofNat 0 from rfl, n_le (by decide) (by omega)]; omega), at_2 (by omega), obs, (r2.2.2.1 (par r.1 r.2.2) (by show par r.1 r.2.2 < wN r.1; omega)).1.2.2.1]
    obtain ⟨S3, f3, j1, j2, j3, j4, j5, j6⟩ := m_rests_ok (t := r.2.2) (p := par r.1 r.2.2) (st := aI (wA r.1 (par r.1 r.2.2)) 2) (by omega) (wN (wSC r.1 r.2.1)) LF 0 (wSC r.1 r.2.1) S1 f2 (Nat.zero_add _) (by show wN r.1 < 3000; omega) hc hlt rfl rfl r2
    rw [k6, s6] at j2 j5
    exact ⟨S3, f3, j1, j2, (o0.trans k4).trans j3, j4.trans (k5.trans s5), j5, by rw [j6]; exact k7.trans s1⟩
