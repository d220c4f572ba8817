/-! 72: what isFair finds -/
def tS (l : List Tmr) : Nat → Nat → Nat
  | 0, _ => 0
  | k + 1, c => (l.filter fun q => q.1 == Int32.ofNat c).length + tS l k (c + 1)
theorem tS_nil : ∀ k c, tS [] k c = 0
  | 0, _ => rfl
  | k + 1, c => by
    show 0 + tS [] k (c + 1) = 0
    rw [tS_nil k (c + 1)]
theorem tS_cons {t : Tmr} {l : List Tmr} {b : Nat} (hb : b < 2 ^ 31) (ht : t.1 = Int32.ofNat b) : ∀ k c, c + k ≤ 2 ^ 31 → tS (t :: l) k c = (if c ≤ b ∧ b < c + k then 1 else 0) + tS l k c
  | 0, c, _ => by
    show 0 = (if c ≤ b ∧ b < c + 0 then 1 else 0) + 0
    rw [if_neg (by omega)]
  | k + 1, c, h => by
    show ((t :: l).filter fun q => q.1 == Int32.ofNat c).length + tS (t :: l) k (c + 1) = (if c ≤ b ∧ b < c + (k + 1) then 1 else 0) + ((l.filter fun q => q.1 == Int32.ofNat c).length + tS l k (c + 1))
    rw [tS_cons hb ht k (c + 1) (by omega)]
    by_cases e : b = c
    · rw [List.filter_cons_of_pos (p := fun q : Tmr => q.1 == Int32.ofNat c) (show (t.1 == Int32.ofNat c) = true by rw [ht, e]; exact beq_self_eq_true _), List.length_cons, if_neg (show ¬ (c + 1 ≤ b ∧ b < c + 1 + k) by omega), if_pos (show c ≤ b ∧ b < c + (k + 1) by omega)]
      omega
    · rw [List.filter_cons_of_neg (p := fun q : Tmr => q.1 == Int32.ofNat c) (show ¬ (t.1 == Int32.ofNat c) = true from fun q => by rw [ht] at q; exact e ((n_inj hb (by omega)).mp (eq_of_beq q)))]
      by_cases g : c ≤ b ∧ b < c + (k + 1)
      · rw [if_pos g, if_pos (by omega)]
        omega
      · rw [if_neg g, if_neg (by omega)]
        omega
theorem tS_all {n : Nat} (hn : n ≤ 12) : ∀ (l : List Tmr), (∀ t ∈ l, okN n t.1) → tS l n 0 = l.length
  | [], _ => tS_nil n 0
  | t :: l, h => by
    obtain ⟨b, hb, e⟩ := h t List.mem_cons_self
    rw [tS_cons (by omega) e n 0 (by omega), if_pos (by omega), tS_all hn l fun q hq => h q (List.mem_cons_of_mem _ hq), List.length_cons]
    omega
theorem cnt_some (p : Nat → Bool) : ∀ k c, cnt p k c ≠ 0 → ∃ b, p b = true
  | 0, _, h => absurd rfl h
  | k + 1, c, h => by
    by_cases e : p c = true
    · exact ⟨c, e⟩
    · refine cnt_some p k (c + 1) fun g => h ?_
      show (if p c = true then 1 else 0) + cnt p k (c + 1) = 0
      rw [if_neg e, g]
section
variable {S : Mem} {w : Wst} {ik : Option Wst}
theorem xf_dead (h : RX S w ik) (hF : FW w) {a : Nat} (ha : a < wN w) (e : ¬ sLive w a = true) : (aMail (wA w a)).length = 0 ∧ (aStash (wA w a)).length = 0 ∧ (aWat (wA w a)).length = 0 ∧ tmOf w a = 0 ∧ ntOf w a = 0 ∧ (aStk (wA w a)).length = 1 := by
  obtain ⟨hI, hT, -⟩ := h.2.2.2.1
  have h12 := hI.1
  have e6 : aI (wA w a) 6 = 0 := (hI.b ha).resolve_right fun q => e (sLive_of ha q)
  obtain ⟨m1, m2⟩ := hT.2.2 a ha e6
  obtain ⟨s1, s2, s3⟩ := hF.1 a ha e
  have hf : (wT w).filter (fun q => q.1 == Int32.ofNat a) = [] := List.filter_eq_nil_iff.mpr fun t ht q => by
    have q2 : (t.1 == Int32.ofNat a) = true := q
    have := hT.2.1 t ht
    rw [eq_of_beq q2, nu_n (by omega)] at this
    exact e this
  refine ⟨by rw [m1]; rfl, by rw [s1]; rfl, by rw [s2]; rfl, ?_, ?_, s3⟩
  · unfold tmOf
    rw [hf]
    rfl
  · unfold ntOf
    rw [m2]
    rfl
theorem xf_171 (h : RX S w ik) (hF : FW w) {a : Nat} (ha : a < wN w) (k9 : Int32 → Int32 → Int32 → Int32 → Mem → Option Int32) (v1 v2 v3 s v5 : Int32) (hv : v5 = if sLive w a = true then 1 else 0) : fl_isFair_171 k9 v1 v2 v3 (Int32.ofNat a) v5 s s S = fl_isFair_270 k9 LF v1 v2 v3 (Int32.ofNat a) 0 S := by
  have hI := h.2.2.2.1.1
  obtain ⟨o0, o3, o5, o7, o8, o9, o10, o11, o12⟩ := xc_of h ha
  unfold fl_isFair_171
  rw [if_pos rfl]
  by_cases e : sLive w a = true
  · have hb : Int32.ofNat (ntOf w a) ≤ aI (wA w a) 3 := by
      obtain ⟨k, hk, e3⟩ := (hI.2.1 a ha).2.2.2.1
      have hB := h.2.2.2.1.2.2 a ha
      rw [e3, nu_n (by omega)] at hB
      have hl : ntOf w a ≤ (aNot (wA w a)).length := List.length_filter_le _ _
      rw [e3, n_le (by omega) (by omega)]
      omega
    rw [if_pos e] at hv
    subst hv
    rw [if_neg n10, if_neg n10, o12, obs, o3, obs, if_pos hb]
  · obtain ⟨d1, d2, d3, d4, d5, d6⟩ := xf_dead h hF ha e
    rw [if_neg e] at hv
    subst hv
    rw [if_pos rfl, o8, obs, o9, obs, o10, obs, o11, obs, o12, obs, d1, d2, d3, d4, d5, if_pos (by decide), o7, obs, d6, if_pos (by decide), if_pos rfl]
theorem xf_48 (h : RX S w ik) (hF : FW w) {a : Nat} (ha : a < wN w) (k9 : Int32 → Int32 → Int32 → Int32 → Mem → Option Int32) (v2 v3 s0 s1 v5 : Int32) (hv : v5 = if sLive w a = true then 1 else 0) : fl_isFair_48 k9 v2 v3 (Int32.ofNat a) v5 s0 s1 S = fl_isFair_270 k9 LF (s1 + s0) (v2 + Int32.ofNat (aMail (wA w a)).length) (v3 + Int32.ofNat (tmOf w a)) (Int32.ofNat a) 0 S := by
  obtain ⟨hI, hT, -⟩ := h.2.2.2.1
  obtain ⟨o0, o3, o5, o7, o8, o9, o10, o11, o12⟩ := xc_of h ha
  have h12 := hI.1
  have m12 := hI.mail ha
  have s6 : (aStash (wA w a)).length ≤ 6 := (hI.fit ha).2.2.1
  have t5 := (hI.2.1 a ha).2.2.2.2.2.2.1
  have c12 : ¬ (12 : Int32) < Int32.ofNat (aMail (wA w a)).length := fun q => by
    rw [show (12 : Int32) = Int32.ofNat 12 from rfl, n_lt (by decide) (by omega)] at q
    omega
  have c6 : ¬ (6 : Int32) < Int32.ofNat (aStash (wA w a)).length := fun q => by
    rw [show (6 : Int32) = Int32.ofNat 6 from rfl, n_lt (by decide) (by omega)] at q
    omega
  have c1 : ¬ Int32.ofNat (aStk (wA w a)).length < 1 := fun q => by
    rw [show (1 : Int32) = Int32.ofNat 1 from rfl, n_lt (by omega) (by decide)] at q
    omega
  have c5 : ¬ (5 : Int32) < Int32.ofNat (aStk (wA w a)).length := fun q => by
    rw [show (5 : Int32) = Int32.ofNat 5 from rfl, n_lt (by decide) (by omega)] at q
    omega
  unfold fl_isFair_48
  rw [o8, obs, o11, obs, o0, obs, obs, if_neg c12, o9, obs, if_neg c6, o7, obs, if_neg c1, obs, if_neg c5]
  by_cases ea : a = 0
  · subst ea
    have p0 : aI (wA w 0) 0 = -1 := par_root hI ha
    rw [if_pos p0]
    by_cases z : v5 = 0
    · rw [if_pos z, if_neg (show ¬ (0 : Int32) ≤ -2 by decide), if_pos (show Int32.ofNat 0 = 0 by decide)]
      exact xf_171 h hF ha k9 _ _ _ 1 v5 hv
    · rw [if_neg z, if_pos (show (-2 : Int32) < 0 by decide), if_neg (show ¬ (0 : Int32) ≤ -2 by decide), if_pos (show Int32.ofNat 0 = 0 by decide)]
      exact xf_171 h hF ha k9 _ _ _ 1 v5 hv
  · obtain ⟨q1, q2⟩ := par_ok hI ha (by omega)
    have hx : (if aI (wA w a) 0 = -1 then (-2 : Int32) else aI (wA w a) 0) = Int32.ofNat (par w a) := by
      rw [q2, if_neg (fun g => n_neg (show par w a < 2 ^ 31 by omega) (by rw [g]; decide))]
    have ne0 : ¬ Int32.ofNat a = 0 := fun q => by
      rw [show (0 : Int32) = Int32.ofNat 0 from rfl, n_inj (by omega) (by decide)] at q
      exact ea q
    rw [hx]
    by_cases z : v5 = 0
    · rw [if_pos z, if_pos (nn0 (by omega)), if_neg ne0]
      exact xf_171 h hF ha k9 _ _ _ 0 v5 hv
    · have hl : sLive w a = true := Classical.byContradiction fun g => z (by rw [hv, if_neg g])
      have hp := par_live hT hl (by omega)
      have o5p := (xc_of h (sLive_lt hp).1).2.2.1
      rw [if_pos hp] at o5p
      rw [if_neg z, if_neg (n_neg (by omega)), o5p, obs, if_neg n10, if_pos (nn0 (by omega)), if_neg ne0]
      exact xf_171 h hF ha k9 _ _ _ 0 v5 hv
theorem xf_270 (h : RX S w ik) (hF : FW w) {a : Nat} (ha : a < wN w) (k9 : Int32 → Int32 → Int32 → Int32 → Mem → Option Int32) (v1 v2 v3 : Int32) : ∀ (m n i : Nat), i + m = (aWat (wA w a)).length → m < n → fl_isFair_270 k9 n v1 v2 v3 (Int32.ofNat a) (Int32.ofNat i) S = k9 v1 v2 v3 (Int32.ofNat (a + 1)) S
  | _, 0, _, _, g => absurd g (Nat.not_lt_zero _)
  | 0, n + 1, i, e, _ => by
    obtain ⟨o0, o3, o5, o7, o8, o9, o10, o11, o12⟩ := xc_of h ha
    have hlen := (h.2.2.2.1.1.fit ha).2.2.2.1
    show fl_isFair_270b k9 (fl_isFair_270 k9 n) v1 v2 v3 (Int32.ofNat a) (Int32.ofNat i) S = _
    unfold fl_isFair_270b
    rw [o10, obs, if_pos ((n_le (by omega) (by omega)).mpr (by omega)), n_succ]
  | m + 1, n + 1, i, e, hn => by
    obtain ⟨o0, o3, o5, o7, o8, o9, o10, o11, o12⟩ := xc_of h ha
    have hI := h.2.2.2.1.1
    have h12 := hI.1
    have hlen := (hI.fit ha).2.2.2.1
    have hi : i < (aWat (wA w a)).length := by omega
    have hq := List.getElem?_eq_getElem hi
    have hmem : (aWat (wA w a))[i] ∈ aWat (wA w a) := List.getElem_mem hi
    obtain ⟨b1, b2⟩ := okN_nn ((hI.wat ha).2 _ hmem) (by omega)
    have hl := hF.2 a ha _ hmem
    have o5b := (xc_of h b1).2.2.1
    rw [if_pos hl, ← b2] at o5b
    show fl_isFair_270b k9 (fl_isFair_270 k9 n) v1 v2 v3 (Int32.ofNat a) (Int32.ofNat i) S = _
    unfold fl_isFair_270b
    rw [o10, obs, if_neg (fun g => by rw [n_le (by omega) (by omega)] at g; omega), xc_watcher h ha hq, obs, o5b, obs, if_pos rfl, n_succ]
    exact xf_270 h hF ha k9 v1 v2 v3 m n (i + 1) (by omega) (by omega)
theorem xf_9 (h : RX S w ik) (hF : FW w) : ∀ (m n a c1 c3 : Nat) (v2 : Int32), a + m = wN w → m < n → fl_isFair_9 n (Int32.ofNat c1) v2 (Int32.ofNat c3) (Int32.ofNat a) S = fl_isFair_317 LF (Int32.ofNat (c1 + cnt (sLive w) m a)) (sMail w m a v2) (Int32.ofNat (c3 + tS (wT w) m a)) 0 S
  | _, 0, _, _, _, _, _, g => absurd g (Nat.not_lt_zero _)
  | 0, n + 1, a, c1, c3, v2, e, _ => by
    have h12 := h.2.2.2.1.1.1
    show fl_isFair_9b (fl_isFair_9 n) (Int32.ofNat c1) v2 (Int32.ofNat c3) (Int32.ofNat a) S = _
    unfold fl_isFair_9b
    rw [(xc_count h).1, obs, if_pos ((n_le (by omega) (by omega)).mpr (by omega))]
    rfl
  | m + 1, n + 1, a, c1, c3, v2, e, hn => by
    have h12 := h.2.2.2.1.1.1
    have ha : a < wN w := by omega
    have hlen := (h.2.2.2.1.1.fit ha).2.2.2.1
    have key : fl_isFair_9b (fl_isFair_9 n) (Int32.ofNat c1) v2 (Int32.ofNat c3) (Int32.ofNat a) S = fl_isFair_270 (fl_isFair_9 n) LF (Int32.ofNat (c1 + if sLive w a = true then 1 else 0)) (v2 + Int32.ofNat (aMail (wA w a)).length) (Int32.ofNat (c3 + tmOf w a)) (Int32.ofNat a) 0 S := by
      unfold fl_isFair_9b
      rw [(xc_count h).1, obs, if_neg (fun g => by rw [n_le (by omega) (by omega)] at g; omega), (xc_of h ha).2.2.1, obs]
      by_cases e1 : sLive w a = true
      · rw [if_pos e1, if_pos e1, if_pos rfl, ← n_succ, ← n_add]
        exact xf_48 h hF ha _ _ _ 1 _ 1 (if_pos e1).symm
      · rw [if_neg e1, if_neg e1, if_neg (show ¬ (0 : Int32) = 1 by decide), ← n_add, ← n_add]
        exact xf_48 h hF ha _ _ _ 0 _ 0 (if_neg e1).symm
    have k2 := xf_270 h hF ha (fl_isFair_9 n) (Int32.ofNat (c1 + if sLive w a = true then 1 else 0)) (v2 + Int32.ofNat (aMail (wA w a)).length) (Int32.ofNat (c3 + tmOf w a)) (aWat (wA w a)).length LF 0 (Nat.zero_add _) (by show _ < 3000; omega)
    refine key.trans (k2.trans ?_)
    rw [xf_9 h hF m n (a + 1) _ _ _ (by omega) (by omega), Nat.add_assoc, Nat.add_assoc]
    rfl
theorem xf_317 (h : RX S w ik) {T : Nat} (hT31 : T < 2 ^ 31) (hF : FT T w) : ∀ (m n i : Nat), i + m = (wT w).length → m < n → fl_isFair_317 n (Int32.ofNat (cnt (sLive w) (wN w) 0)) (sMail w (wN w) 0 0) (Int32.ofNat (wT w).length) (Int32.ofNat i) S = some 1
  | _, 0, _, _, g => absurd g (Nat.not_lt_zero _)
  | 0, n + 1, i, e, _ => by
    obtain ⟨hI, hT, -⟩ := h.2.2.2.1
    have h12 := hI.1
    have t10 := hI.2.2.1.1
    have l30 := hI.2.2.2.1.1
    obtain ⟨q0, q1, q2, q3, q4, q5, q6, q8⟩ := xc_count h
    show fl_isFair_317b (fl_isFair_317 n) _ _ _ (Int32.ofNat i) S = _
    unfold fl_isFair_317b
    rw [if_pos ((n_le (by omega) (by omega)).mpr (by omega)), q1, obs, if_pos rfl, q2, obs, if_pos rfl, q3, obs, if_pos rfl, if_neg (fun g => by rw [show (10 : Int32) = Int32.ofNat 10 from rfl, n_lt (by decide) (by omega)] at g; omega), q8, obs, if_neg (fun g => by rw [show (30 : Int32) = Int32.ofNat 30 from rfl, n_lt (by decide) (by omega)] at g; omega), q0, obs]
    by_cases z : Int32.ofNat (wN w) = 0
    · rw [if_pos z]
    · rw [if_neg z, obs]
      by_cases y : Int32.ofNat (cnt (sLive w) (wN w) 0) = 0
      · rw [if_pos y]
      · obtain ⟨b, hb⟩ := cnt_some (sLive w) (wN w) 0 fun g => y (by rw [g]; rfl)
        have hr := root_live hI hT hb
        have o5 := (xc_of h (sLive_lt hr).1).2.2.1
        rw [if_pos hr] at o5
        have o5' : fx_of 0 5 S = some 1 := o5
        rw [if_neg y, o5', obs, if_pos rfl]
  | m + 1, n + 1, i, e, hn => by
    obtain ⟨hI, hT, -⟩ := h.2.2.2.1
    have t10 := hI.2.2.1.1
    have hs := hI.2.2.1.2.1
    have hi : i < (wT w).length := by omega
    have ht := List.getElem?_eq_getElem hi
    obtain ⟨t0, f1, f2, f3⟩ := hF
    obtain ⟨d, d1, d2, d3⟩ := f3 _ (List.getElem_mem hi)
    have q6 := (xc_count h).2.2.2.2.2.2.1
    rw [f2] at q6
    have x8 := xc_timer h ht
    show fl_isFair_317b (fl_isFair_317 n) _ _ _ (Int32.ofNat i) S = _
    unfold fl_isFair_317b
    rw [if_neg (fun g => by rw [n_le (by omega) (by omega)] at g; omega), x8, obs, q6, obs, d3, if_neg (fun g => by rw [n_lt (by omega) (by omega)] at g; omega)]
    have nx : fl_isFair_317 n (Int32.ofNat (cnt (sLive w) (wN w) 0)) (sMail w (wN w) 0 0) (Int32.ofNat (wT w).length) (Int32.ofNat i + 1) S = some 1 := by
      rw [n_succ]
      exact xf_317 h hT31 ⟨t0, f1, f2, f3⟩ m n (i + 1) (by omega) (by omega)
    by_cases z : i = 0
    · rw [if_pos (show Int32.ofNat i ≤ 0 by rw [z]; decide)]
      exact nx
    · have hj : i - 1 < (wT w).length := by omega
      have hj2 := List.getElem?_eq_getElem hj
      have x9 := xc_timer h hj2
      have e1 : Int32.ofNat i - 1 = Int32.ofNat (i - 1) := n_sub (b := 1) (by omega)
      have hle := List.pairwise_iff_getElem.mp hs (i - 1) i hj hi (by omega)
      rw [d3] at hle
      rw [if_neg (fun g => by rw [show (0 : Int32) = Int32.ofNat 0 from rfl, n_le (by omega) (by decide)] at g; omega), obs, e1, x9, obs, if_pos hle]
      exact nx
theorem xf_fair {T : Nat} (hT : T < 2 ^ 31) (h : RX S w ik) (hF : FA T w) : fl_isFair S = some 1 := by
  have hI := h.2.2.2.1.1
  have h12 := hI.1
  have t10 := hI.2.2.1.1
  have h1 := xf_9 h hF.1 (wN w) LF 0 0 0 0 (Nat.zero_add _) (by show _ < 3000; omega)
  rw [Nat.zero_add, Nat.zero_add, tS_all h12 (wT w) fun t ht => (hI.2.2.1.2.2 t ht).1] at h1
  unfold fl_isFair
  refine (show fl_isFair_9 LF 0 0 0 0 S = _ from h1).trans ?_
  exact xf_317 h hT hF.2 (wT w).length LF 0 (Nat.zero_add _) (by show _ < 3000; omega)
end
