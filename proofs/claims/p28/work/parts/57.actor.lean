/-! 57: calls: an actor more -/
/-- whether one may come: 0, or the answer -/
def sCan (w : Wst) (v1 v2 v3 v4 v5 : Int32) : Int32 :=
  if ((v1 = -1 ∧ wN w = 0) ∨ (¬ v1 < 0 ∧ nu v1 < wN w)) ∧ (¬ v2 < 0 ∧ ¬ 9 < v2) ∧ (¬ v3 < 0 ∧ ¬ 2 < v3) ∧ (¬ v4 < 0 ∧ ¬ 9 < v4) ∧ (¬ v5 < 1 ∧ ¬ 50 < v5) then
    (if v1 = -1 ∨ sLive w (nu v1) = true then (if wN w = 12 then -3 else 0) else -5)
  else -1
def aBorn (v1 v2 v3 v4 v5 : Int32) : Act := (fun k => if k = 0 then v1 else if k = 1 then v2 else if k = 2 then v3 else if k = 3 then v4 else if k = 4 then v5 else if k = 5 then 0 else 1, [v2], [], [], [], [])
def sBorn (w : Wst) (x : Act) : Wst := (wN w + 1, wI w, xup (wA w) (wN w) x, wT w, wL w, wC w)
/-- what comes of it -/
def sCame (w : Wst) (v1 v2 v3 v4 v5 : Int32) : Wst := if sCan w v1 v2 v3 v4 v5 = 0 then sBorn w (aBorn v1 v2 v3 v4 v5) else w
def sNo (w : Wst) (v1 v2 v3 v4 v5 : Int32) : Int32 := if sCan w v1 v2 v3 v4 v5 = 0 then Int32.ofNat (wN w) else sCan w v1 v2 v3 v4 v5
theorem okN_in {v : Int32} {n : Nat} (hn : n < 2 ^ 31) (h1 : ¬ v < 0) (h2 : ¬ Int32.ofNat n < v) : okN (n + 1) v := by
  rcases nn_cases v with hv | ⟨k, hk, rfl⟩
  · exact absurd hv h1
  · rw [n_lt hn hk] at h2
    exact ⟨k, by omega, rfl⟩
theorem one_pos {v : Int32} (h : ¬ v < 1) : ¬ v < 0 ∧ v ≠ 0 := by
  have h0 : (0 : Int32).toInt = 0 := by decide
  have h1 : (1 : Int32).toInt = 1 := by decide
  rw [Int32.lt_iff_toInt_lt, h1] at h
  refine ⟨fun q => ?_, fun q => ?_⟩
  · rw [Int32.lt_iff_toInt_lt, h0] at q
    omega
  · rw [q, h0] at h
    omega
theorem okA.more {n b : Nat} {x : Act} (h : okA n b x) : okA (n + 1) b x := by
  obtain ⟨h1, h2, h3, h4, h5, h6, h7, ⟨h8, h8b⟩, ⟨h9, h9b⟩, ⟨h10, h10b⟩, h11⟩ := h
  exact ⟨h1, h2, h3, h4, h5, h6, h7, ⟨h8, fun m hm => (h8b m hm).mono (Nat.le_succ n)⟩, ⟨h9, fun m hm => ⟨(h9b m hm).1.mono (Nat.le_succ n), (h9b m hm).2⟩⟩, ⟨h10, fun q hq => (h10b q hq).mono (Nat.le_succ n)⟩, h11⟩
theorem born_old {w : Wst} {x : Act} {b : Nat} (h : b < wN w) : wA (sBorn w x) b = wA w b := xup_n (by omega)
theorem born_new {w : Wst} {x : Act} : wA (sBorn w x) (wN w) = x := xup_s
theorem born_live {w : Wst} {x : Act} {b : Nat} (h : sLive w b = true) : sLive (sBorn w x) b = true := by
  obtain ⟨h1, h2⟩ := sLive_lt h
  refine sLive_of (Nat.lt_succ_of_lt h1) ?_
  rw [born_old h1]
  exact h2
theorem okPar_lt {b : Nat} {v : Int32} (h : okPar b v) (h0 : 0 < b) (hb : b < 2 ^ 31) : nu v < b := by
  rcases h with ⟨h1, -⟩ | ⟨k, hk, rfl⟩
  · omega
  · rw [nu_n (by omega)]
    exact hk
theorem born_good {w : Wst} {v1 v2 v3 v4 v5 : Int32} (hg : Good w) (hc : sCan w v1 v2 v3 v4 v5 = 0) : Good (sBorn w (aBorn v1 v2 v3 v4 v5)) := by
  obtain ⟨⟨i1, i2, ⟨i3, i3b, i3c⟩, i4, i5, i6⟩, ⟨t1, t2, t3⟩, hB⟩ := hg
  unfold sCan at hc
  split at hc
  · rename_i q
    obtain ⟨q1, ⟨q2, q2b⟩, ⟨q3, q3b⟩, ⟨q4, q4b⟩, q5, q5b⟩ := q
    split at hc
    · rename_i ql
      split at hc
      · exact absurd hc (by decide)
      · rename_i q12
        have hn : wN w < 12 := by omega
        obtain ⟨p5, p5b⟩ := one_pos q5
        have hpar : okPar (wN w) v1 := by
          rcases q1 with ⟨e1, e2⟩ | ⟨e1, e2⟩
          · exact Or.inl ⟨e2, e1⟩
          · refine Or.inr ⟨nu v1, e2, ?_⟩
            exact n_of (Int32.not_lt.mp e1)
        refine ⟨⟨Nat.succ_le_of_lt hn, fun b hb => ?_, ⟨i3, i3b, fun t ht => ⟨(i3c t ht).1.mono (Nat.le_succ _), (i3c t ht).2⟩⟩, i4, i5, i6⟩, ⟨fun b hb h6 h0 => ?_, fun t ht => born_live (t2 t ht), fun b hb h6 => ?_⟩, fun b hb => ?_⟩
        · by_cases e : b = wN w
          · subst e
            rw [born_new]
            exact ⟨hpar, okN_in (n := 9) (by decide) q2 q2b, okN_in (n := 2) (by decide) q3 q3b, okN_in (n := 9) (by decide) q4 q4b, ⟨okN_in (n := 50) (by decide) p5 q5b, p5b⟩, Or.inr rfl, ⟨Nat.le_refl _, by show 1 ≤ 5; decide, fun q hq => by rw [List.mem_singleton.mp hq]; exact okN_in (n := 9) (by decide) q2 q2b⟩, ⟨Nat.zero_le _, fun m hm => absurd hm List.not_mem_nil⟩, ⟨Nat.zero_le _, fun m hm => absurd hm List.not_mem_nil⟩, ⟨List.nodup_nil, fun m hm => absurd hm List.not_mem_nil⟩, Nat.zero_le _⟩
          · have hb2 : b < wN w := by
              have : b < wN w + 1 := hb
              omega
            rw [born_old hb2]
            exact (i2 b hb2).more
        · by_cases e : b = wN w
          · subst e
            rw [born_new]
            show sLive _ (nu v1) = true
            rcases q1 with ⟨e1, e2⟩ | ⟨e1, e2⟩
            · omega
            · refine born_live (ql.resolve_left fun q => ?_)
              rw [q] at e1
              exact e1 (by decide)
          · have hb2 : b < wN w := by
              have : b < wN w + 1 := hb
              omega
            rw [born_old hb2] at h6 ⊢
            exact born_live (t1 b hb2 h6 h0)
        · by_cases e : b = wN w
          · subst e
            rw [born_new] at h6
            exact absurd (show (1 : Int32) = 0 from h6) (by decide)
          · have hb2 : b < wN w := by
              have : b < wN w + 1 := hb
              omega
            rw [born_old hb2] at h6 ⊢
            exact t3 b hb2 h6
        · by_cases e : b = wN w
          · subst e
            rw [born_new]
            exact Nat.zero_le _
          · have hb2 : b < wN w := by
              have : b < wN w + 1 := hb
              omega
            rw [born_old hb2]
            exact hB b hb2
    · exact absurd hc (by decide)
  · exact absurd hc (by decide)
theorem came_good {w : Wst} {v1 v2 v3 v4 v5 : Int32} (hg : Good w) : Good (sCame w v1 v2 v3 v4 v5) := by
  unfold sCame
  split
  · rename_i h
    exact born_good hg h
  · exact hg
theorem came_n {w : Wst} {v1 v2 v3 v4 v5 : Int32} : wN w ≤ wN (sCame w v1 v2 v3 v4 v5) := by
  unfold sCame
  split
  · exact Nat.le_succ _
  · exact Nat.le_refl _
theorem came_10 {w : Wst} {v1 v2 v3 v4 v5 : Int32} : wI (sCame w v1 v2 v3 v4 v5) 10 = wI w 10 := by
  unfold sCame
  split <;> rfl
/-! the class -/
theorem a_begin_ok {S : Mem} {A : Nat} {v1 v2 : Int32} (h5 : ln (A + 1 + 1) = 5) : ∃ S1, fa_begin A v1 v2 S = some S1 ∧ (S1 A 0 = v1 ∧ S1 A 1 = v2 ∧ S1 A 5 = 0 ∧ S1 A 6 = 1) ∧ RN S1 (A + 1) [v2] ∧ RP S1 (A + 3) [] ∧ RP S1 (A + 6) [] ∧ RN S1 (A + 9) [] ∧ RN S1 (A + 11) [] ∧ Only (inA A) S S1 := by
  obtain ⟨S7, hS7⟩ : ∃ S7, S7 = up2 (up2 (up2 (up2 (up2 (up2 (up2 S A 0 v1) A 1 v2) A 5 0) A 6 1) (A + 3) 2 0) (A + 6) 2 0) (A + 9) 1 0 := ⟨_, rfl⟩
  obtain ⟨S1, q1, q2, q3, q4⟩ := a_keep_raw (S := S7) h5
  have h7 : S7 A = up2 (up2 (up2 (up2 S A 0 v1) A 1 v2) A 5 0) A 6 1 A := by rw [hS7, up2_off (by omega), up2_off (by omega), up2_off (by omega)]
  have e0 : S1 A = S7 A := q4 A fun q => by
    rcases q with (q | q) | q <;> omega
  have e3 : S1 (A + 3) = S7 (A + 3) := q4 _ fun q => by
    rcases q with (q | q) | q <;> omega
  have e6 : S1 (A + 6) = S7 (A + 6) := q4 _ fun q => by
    rcases q with (q | q) | q <;> omega
  have e9 : S1 (A + 9) = S7 (A + 9) := q4 _ fun q => by
    rcases q with (q | q) | q <;> omega
  have x1 : S7 A 1 = v2 := by rw [h7, up2_nf (by decide), up2_nf (by decide), up2_self]
  refine ⟨S1, ?_, ⟨?_, ?_, ?_, ?_⟩, ?_, RP.len0 ?_, RP.len0 ?_, RN.len0 ?_, q3, fun b hb => ?_⟩
  · unfold fa_begin
    rw [obs, obs, obs, obs, obs, obs, obs, ← hS7, q1, obs]
  · rw [e0, h7, up2_nf (by decide), up2_nf (by decide), up2_nf (by decide), up2_self]
  · rw [e0, x1]
  · rw [e0, h7, up2_nf (by decide), up2_self]
  · rw [e0, h7, up2_self]
  · rw [x1] at q2
    exact q2
  · rw [e3, hS7, up2_off (by omega), up2_off (by omega), up2_self]
  · rw [e6, hS7, up2_off (by omega), up2_self]
  · rw [e9, hS7, up2_self]
  · have n : ∀ k, k < 13 → b ≠ A + k := fun k hk e => hb ⟨by omega, by omega⟩
    rw [q4 b fun q => by
      rcases q with (q | q) | q
      · exact n 1 (by decide) q
      · exact n 2 (by decide) q
      · exact n 11 (by decide) q, hS7, up2_off (n 9 (by decide)), up2_off (n 6 (by decide)), up2_off (n 3 (by decide)), up2_off (show b ≠ A from n 0 (by decide)), up2_off (show b ≠ A from n 0 (by decide)), up2_off (show b ≠ A from n 0 (by decide)), up2_off (show b ≠ A from n 0 (by decide))]
theorem w_born_94 {S : Mem} {w : Wst} {v1 v2 v3 v4 v5 : Int32} (hR : RW S 1 w) (hn : wN w < 12) : ∃ S1, fw_addActor_94 1 v1 v2 v3 v4 v5 S = some (Int32.ofNat (wN w), S1) ∧ RW S1 1 (sBorn w (aBorn v1 v2 v3 v4 v5)) ∧ Only (inW 1) S S1 := by
  obtain ⟨l1, -⟩ := lnA (Or.inl rfl : IsW 1) hn
  obtain ⟨A, hA⟩ : ∃ A, A = 1 + 12 + 13 * wN w := ⟨_, rfl⟩
  rw [← hA] at l1
  obtain ⟨S1, q1, ⟨a0, a1, a5, a6⟩, a7, a8, a9, a10, a11, qo⟩ := a_begin_ok (S := S) (A := A) (v1 := v1) (v2 := v2) l1
  have s1 : S1 1 = S 1 := qo 1 fun q => by have := q.1; omega
  obtain ⟨S5, hS5⟩ : ∃ S5, S5 = up2 (up2 (up2 (up2 S1 A 2 v3) A 3 v4) A 4 v5) 1 4 (Int32.ofNat (wN w) + 1) := ⟨_, rfl⟩
  have s41 : up2 (up2 (up2 S1 A 2 v3) A 3 v4) A 4 v5 1 = S 1 := by rw [up2_off (by omega), up2_off (by omega), up2_off (by omega), s1]
  have off : ∀ b, b ≠ A → b ≠ 1 → S5 b = S1 b := fun b n1 n2 => by rw [hS5, up2_off n2, up2_off n1, up2_off n1, up2_off n1]
  have off2 : ∀ b, ¬ inA A b → b ≠ 1 → S5 b = S b := fun b n1 n2 => (off b (fun e => n1 ⟨by omega, by omega⟩) n2).trans (qo b n1)
  have at1 : S5 1 4 = Int32.ofNat (wN w) + 1 := by rw [hS5, up2_self]
  refine ⟨S5, ?_, ⟨?_, fun k k1 k2 => ?_, fun a ha => ?_, ?_, ?_, ?_⟩, fun b hb => off2 b (fun q => hb ⟨by have := q.1; omega, by have := q.2; omega⟩) (fun e => hb ⟨by omega, by omega⟩)⟩
  · unfold fw_addActor_94
    rw [hR.1, if_neg (n_neg (by omega)), if_pos (show Int32.ofNat (wN w) < 12 from (n_lt (by omega) (by decide)).mpr hn), ix_n hn (by decide), obs, ← hA, q1, obs, obs, obs, obs, s41, hR.1, ← hS5, obs, at1, Int32.add_sub_cancel]
  · rw [at1, n_succ]
    rfl
  · rw [hS5, up2_nf (by omega), s41]
    exact hR.2.1 k k1 k2
  · by_cases e : a = wN w
    · subst e
      rw [born_new, ← hA]
      have cA : S5 A = up2 (up2 (up2 S1 A 2 v3) A 3 v4) A 4 v5 A := by rw [hS5, up2_off (by omega)]
      refine ⟨fun k hk => ?_, a7.congr (off _ (by omega) (by omega)) (off _ (by omega) (by omega)), a8.congr (off _ (by omega) (by omega)) (off _ (by omega) (by omega)) (off _ (by omega) (by omega)), a9.congr (off _ (by omega) (by omega)) (off _ (by omega) (by omega)) (off _ (by omega) (by omega)), a10.congr (off _ (by omega) (by omega)) (off _ (by omega) (by omega)), a11.congr (off _ (by omega) (by omega)) (off _ (by omega) (by omega))⟩
      have hk7 : k = 0 ∨ k = 1 ∨ k = 2 ∨ k = 3 ∨ k = 4 ∨ k = 5 ∨ k = 6 := by omega
      rw [cA]
      rcases hk7 with rfl | rfl | rfl | rfl | rfl | rfl | rfl
      · rw [up2_nf (by decide), up2_nf (by decide), up2_nf (by decide), a0]
        rfl
      · rw [up2_nf (by decide), up2_nf (by decide), up2_nf (by decide), a1]
        rfl
      · rw [up2_nf (by decide), up2_nf (by decide), up2_self]
        rfl
      · rw [up2_nf (by decide), up2_self]
        rfl
      · rw [up2_self]
        rfl
      · rw [up2_nf (by decide), up2_nf (by decide), up2_nf (by decide), a5]
        rfl
      · rw [up2_nf (by decide), up2_nf (by decide), up2_nf (by decide), a6]
        rfl
    · have ha2 : a < wN w := by
        have : a < wN w + 1 := ha
        omega
      rw [born_old ha2]
      exact (hR.2.2.1 a ha2).congr fun b b1 b2 => off2 b (fun q => by have := q.1; omega) (by omega)
  · exact hR.2.2.2.1.congr (off2 _ (fun q => by have := q.1; omega) (by omega)) (off2 _ (fun q => by have := q.1; omega) (by omega)) (off2 _ (fun q => by have := q.1; omega) (by omega)) (off2 _ (fun q => by have := q.1; omega) (by omega))
  · exact hR.2.2.2.2.1.congr (off2 _ (fun q => by have := q.1; omega) (by omega)) (off2 _ (fun q => by have := q.1; omega) (by omega)) (off2 _ (fun q => by have := q.1; omega) (by omega))
  · exact hR.2.2.2.2.2.congr (off2 _ (fun q => by have := q.1; omega) (by omega)) (off2 _ (fun q => by have := q.1; omega) (by omega)) (off2 _ (fun q => by have := q.1; omega) (by omega))
theorem w_born_25 {S : Mem} {w : Wst} {v1 v2 v3 v4 v5 s : Int32} (hR : RW S 1 w) (hg : Good w) (hs : ¬ s = 0 ↔ ((v1 = -1 ∧ wN w = 0) ∨ (¬ v1 < 0 ∧ nu v1 < wN w))) : ∃ S1, fw_addActor_25 1 v1 v2 v3 v4 v5 s S = some (sNo w v1 v2 v3 v4 v5, S1) ∧ RW S1 1 (sCame w v1 v2 v3 v4 v5) ∧ Only (inW 1) S S1 := by
  have h12 := hg.1.1
  have bad : (¬ (((v1 = -1 ∧ wN w = 0) ∨ (¬ v1 < 0 ∧ nu v1 < wN w)) ∧ (¬ v2 < 0 ∧ ¬ 9 < v2) ∧ (¬ v3 < 0 ∧ ¬ 2 < v3) ∧ (¬ v4 < 0 ∧ ¬ 9 < v4) ∧ (¬ v5 < 1 ∧ ¬ 50 < v5))) → ∃ S1, some ((-1 : Int32), S) = some (sNo w v1 v2 v3 v4 v5, S1) ∧ RW S1 1 (sCame w v1 v2 v3 v4 v5) ∧ Only (inW 1) S S1 := fun q => by
    have hc : sCan w v1 v2 v3 v4 v5 = -1 := if_neg q
    unfold sNo sCame
    rw [hc, if_neg (by decide), if_neg (by decide)]
    exact ⟨S, rfl, hR, Only.refl⟩
  unfold fw_addActor_25
  by_cases p : s = 0
  · rw [if_pos p]
    exact bad fun q => hs.mpr q.1 p
  rw [if_neg p]
  by_cases c1 : v2 < 0
  · rw [if_pos c1]
    exact bad fun q => q.2.1.1 c1
  rw [if_neg c1]
  by_cases c2 : 9 < v2
  · rw [if_pos c2]
    exact bad fun q => q.2.1.2 c2
  rw [if_neg c2]
  by_cases c3 : v3 < 0
  · rw [if_pos c3]
    exact bad fun q => q.2.2.1.1 c3
  rw [if_neg c3]
  by_cases c4 : 2 < v3
  · rw [if_pos c4]
    exact bad fun q => q.2.2.1.2 c4
  rw [if_neg c4]
  by_cases c5 : v4 < 0
  · rw [if_pos c5]
    exact bad fun q => q.2.2.2.1.1 c5
  rw [if_neg c5]
  by_cases c6 : 9 < v4
  · rw [if_pos c6]
    exact bad fun q => q.2.2.2.1.2 c6
  rw [if_neg c6]
  by_cases c7 : v5 < 1
  · rw [if_pos c7]
    exact bad fun q => q.2.2.2.2.1 c7
  rw [if_neg c7]
  by_cases c8 : v5 ≤ 50
  · have hq := hs.mp p
    have hc : sCan w v1 v2 v3 v4 v5 = if v1 = -1 ∨ sLive w (nu v1) = true then (if wN w = 12 then -3 else 0) else -5 := if_pos ⟨hq, ⟨c1, c2⟩, ⟨c3, c4⟩, ⟨c5, c6⟩, c7, Int32.not_lt.mpr c8⟩
    have fin : (v1 = -1 ∨ sLive w (nu v1) = true) → ∃ S1, fw_addActor_94 1 v1 v2 v3 v4 v5 S = some (sNo w v1 v2 v3 v4 v5, S1) ∧ RW S1 1 (sCame w v1 v2 v3 v4 v5) ∧ Only (inW 1) S S1 := fun ql => by
      rw [if_pos ql] at hc
      by_cases e : wN w = 12
      · rw [if_pos e] at hc
        unfold sNo sCame fw_addActor_94
        rw [hc, hR.1, e, if_neg (show ¬ Int32.ofNat 12 < 0 by decide), if_neg (show ¬ Int32.ofNat 12 < 12 by decide), if_neg (by decide), if_neg (by decide)]
        exact ⟨S, rfl, hR, Only.refl⟩
      · rw [if_neg e] at hc
        unfold sNo sCame
        rw [hc, if_pos rfl, if_pos rfl]
        exact w_born_94 hR (by omega)
    rw [if_pos c8]
    by_cases e : v1 = -1
    · rw [if_pos e]
      exact fin (Or.inl e)
    · rw [if_neg e]
      rcases hq with ⟨e1, -⟩ | ⟨e1, e2⟩
      · exact absurd e1 e
      · have ev : v1 = Int32.ofNat (nu v1) := n_of (Int32.not_lt.mp e1)
        have hl := w_isLive_ok hR h12 e2 (hg.1.b e2)
        rw [← ev] at hl
        rw [hl, obs]
        by_cases g : sLive w (nu v1) = true
        · rw [if_pos g, if_neg n10]
          exact fin (Or.inr g)
        · rw [if_neg g, if_pos rfl]
          rw [if_neg (fun q => q.elim e g)] at hc
          unfold sNo sCame
          rw [hc, if_neg (by decide), if_neg (by decide)]
          exact ⟨S, rfl, hR, Only.refl⟩
  · rw [if_neg c8]
    exact bad fun q => q.2.2.2.2.2 (Int32.not_le.mp c8)
theorem w_born_ok {S : Mem} {w : Wst} (v1 v2 v3 v4 v5 : Int32) (hR : RW S 1 w) (hg : Good w) : ∃ S1, fw_addActor 1 v1 v2 v3 v4 v5 S = some (sNo w v1 v2 v3 v4 v5, S1) ∧ RW S1 1 (sCame w v1 v2 v3 v4 v5) ∧ Only (inW 1) S S1 := by
  have h12 := hg.1.1
  unfold fw_addActor
  by_cases e : v1 = -1
  · have hneg : v1 < 0 := by rw [e]; decide
    rw [if_pos e, hR.1]
    by_cases z : wN w = 0
    · rw [if_pos (show Int32.ofNat (wN w) = 0 by rw [z]; rfl)]
      exact w_born_25 hR hg ⟨fun _ => Or.inl ⟨e, z⟩, fun _ => n10⟩
    · rw [if_neg (show ¬ Int32.ofNat (wN w) = 0 from fun q => z ((n_inj (by omega) (by decide)).mp q))]
      exact w_born_25 hR hg ⟨fun q => absurd rfl q, fun q _ => q.elim (fun q => z q.2) fun q => q.1 hneg⟩
  · rw [if_neg e]
    rcases nn_cases v1 with hv | ⟨k, hk, rfl⟩
    · rw [w_isActor_no hR (Or.inl hv), obs]
      exact w_born_25 hR hg ⟨fun q => absurd rfl q, fun q _ => q.elim (fun q => e q.1) fun q => q.1 hv⟩
    · rw [w_isActor_any hR hg.1 hk, obs]
      refine w_born_25 hR hg ⟨fun q => Or.inr ⟨n_neg hk, ?_⟩, fun q => ?_⟩
      · rw [nu_n hk]
        by_cases g : k < wN w
        · exact g
        · rw [if_neg g] at q
          exact absurd rfl q
      · rcases q with q | q
        · exact absurd q.1 e
        · have q2 := q.2
          rw [nu_n hk] at q2
          rw [if_pos q2]
          exact n10
/-! the reference -/
theorem m_rule_ok {S : Mem} {v : Int32} : fm_isRule v S = some (if (¬ v < 0 ∧ ¬ 2999 < v) ∧ (¬ irm v 100 < 1 ∧ ¬ 50 < irm v 100) then 1 else 0) := by
  unfold fm_isRule
  rw [in_ok, in_ok, obs, obs]
  by_cases h1 : ¬ v < 0 ∧ ¬ 2999 < v
  · rw [if_pos h1, if_neg n10]
    by_cases h2 : ¬ irm v 100 < 1 ∧ ¬ 50 < irm v 100
    · rw [if_pos h2, if_neg n10, if_pos ⟨h1, h2⟩]
    · rw [if_neg h2, if_pos rfl, if_neg (fun q => h2 q.2)]
  · rw [if_neg h1, if_pos rfl, if_neg (fun q => h1 q.1)]
theorem m_can_27 {S : Mem} {f : Nat → Int32} {w : Wst} {en v1 v2 v3 : Int32} (hR : RM en f w) (hg : Good w) (h3 : 0 ≤ v3) (hq : (v1 = -1 ∧ wN w = 0) ∨ (¬ v1 < 0 ∧ nu v1 < wN w)) : fm_canBe_27 v1 v2 v3 (gM S f) = some (sCan w v1 v2 (v3 / 1000) (irm (v3 / 100) 10) (irm v3 100)) := by
  have h12 := hg.1.1
  obtain ⟨r1, r2, r3, r4⟩ := rule_s h3
  have bad : (¬ ((¬ v2 < 0 ∧ ¬ 9 < v2) ∧ (¬ v3 < 0 ∧ ¬ 2999 < v3) ∧ (¬ irm v3 100 < 1 ∧ ¬ 50 < irm v3 100))) → (-1 : Int32) = sCan w v1 v2 (v3 / 1000) (irm (v3 / 100) 10) (irm v3 100) := fun q => (if_neg fun p => q ⟨p.2.1, ⟨Int32.not_lt.mpr h3, fun p2 => p.2.2.1.2 (r2.mpr p2)⟩, p.2.2.2.2⟩).symm
  unfold fm_canBe_27
  rw [in_ok, obs]
  by_cases c1 : ¬ v2 < 0 ∧ ¬ 9 < v2
  · rw [if_pos c1, if_neg n10, m_rule_ok, obs]
    by_cases c2 : (¬ v3 < 0 ∧ ¬ 2999 < v3) ∧ (¬ irm v3 100 < 1 ∧ ¬ 50 < irm v3 100)
    · have hc : sCan w v1 v2 (v3 / 1000) (irm (v3 / 100) 10) (irm v3 100) = if v1 = -1 ∨ sLive w (nu v1) = true then (if wN w = 12 then -3 else 0) else -5 := if_pos ⟨hq, c1, ⟨r1, fun q => c2.1.2 (r2.mp q)⟩, ⟨r3, r4⟩, c2.2⟩
      have e12 : (if Int32.ofNat (wN w) = 12 then some (-3 : Int32) else some 0) = some (if wN w = 12 then (-3 : Int32) else 0) := by
        by_cases e : wN w = 12
        · rw [if_pos e, if_pos (show Int32.ofNat (wN w) = 12 by rw [e]; rfl)]
        · rw [if_neg e, if_neg (show ¬ Int32.ofNat (wN w) = 12 from fun q => e ((n_inj (by omega) (by decide)).mp q))]
      rw [if_pos c2, if_neg n10, hc]
      rcases hq with ⟨e1, e2⟩ | ⟨e1, e2⟩
      · rw [if_pos (show v1 < 0 by rw [e1]; decide), g_924, obs, hR.1, if_pos (Or.inl e1)]
        exact e12
      · have ev : v1 = Int32.ofNat (nu v1) := n_of (Int32.not_lt.mp e1)
        have hl := m_isLive_ok (S := S) hR hg.1 e2
        rw [← ev] at hl
        rw [if_neg e1, hl, obs]
        by_cases g : sLive w (nu v1) = true
        · rw [if_pos g, if_neg n10, g_924, obs, hR.1, if_pos (Or.inr g)]
          exact e12
        · rw [if_neg g, if_pos rfl, if_neg (fun q => q.elim (fun q => e1 (by rw [q]; decide)) g)]
    · rw [if_neg c2, if_pos rfl, ← bad fun q => c2 q.2]
  · rw [if_neg c1, if_pos rfl, ← bad fun q => c1 q.1]
theorem m_can_ok {S : Mem} {f : Nat → Int32} {w : Wst} {en v1 v2 v3 : Int32} (hR : RM en f w) (hg : Good w) (h3 : 0 ≤ v3) : fm_canBe v1 v2 v3 (gM S f) = some (sCan w v1 v2 (v3 / 1000) (irm (v3 / 100) 10) (irm v3 100)) := by
  have h12 := hg.1.1
  have bad : (¬ ((v1 = -1 ∧ wN w = 0) ∨ (¬ v1 < 0 ∧ nu v1 < wN w))) → (-1 : Int32) = sCan w v1 v2 (v3 / 1000) (irm (v3 / 100) 10) (irm v3 100) := fun q => (if_neg fun p => q p.1).symm
  unfold fm_canBe
  by_cases e : v1 = -1
  · have hneg : v1 < 0 := by rw [e]; decide
    rw [if_pos e, g_924, obs, hR.1]
    by_cases z : wN w = 0
    · rw [if_pos (show Int32.ofNat (wN w) = 0 by rw [z]; rfl)]
      exact m_can_27 hR hg h3 (Or.inl ⟨e, z⟩)
    · rw [if_neg (show ¬ Int32.ofNat (wN w) = 0 from fun q => z ((n_inj (by omega) (by decide)).mp q)), ← bad fun q => q.elim (fun q => z q.2) fun q => q.1 hneg]
  · rw [if_neg e]
    rcases nn_cases v1 with hv | ⟨k, hk, rfl⟩
    · rw [m_isActor_no hR hv, obs, if_pos rfl, ← bad fun q => q.elim (fun q => e q.1) fun q => q.1 hv]
    · rw [m_isActor_ok hR hg.1 hk, obs]
      by_cases g : k < wN w
      · rw [if_pos g, if_neg n10]
        exact m_can_27 hR hg h3 (Or.inr ⟨n_neg hk, by rw [nu_n hk]; exact g⟩)
      · rw [if_neg g, if_pos rfl, ← bad fun q => q.elim (fun q => e q.1) fun q => g (by have := q.2; rwa [nu_n hk] at this)]
/-- below 0: no rule -/
theorem m_can_no {S : Mem} {f : Nat → Int32} {w : Wst} {en v1 v2 v3 : Int32} (hR : RM en f w) (hg : Good w) (h3 : ¬ 0 ≤ v3) : fm_canBe v1 v2 v3 (gM S f) = some (-1) := by
  have h12 := hg.1.1
  have h27 : fm_canBe_27 v1 v2 v3 (gM S f) = some (-1) := by
    unfold fm_canBe_27
    rw [in_ok, obs]
    by_cases c1 : ¬ v2 < 0 ∧ ¬ 9 < v2
    · rw [if_pos c1, if_neg n10, m_rule_ok, obs, if_neg (show ¬ ((¬ v3 < 0 ∧ ¬ 2999 < v3) ∧ (¬ irm v3 100 < 1 ∧ ¬ 50 < irm v3 100)) from fun q => q.1.1 (Int32.not_le.mp h3)), if_pos rfl]
    · rw [if_neg c1, if_pos rfl]
  unfold fm_canBe
  by_cases e : v1 = -1
  · rw [if_pos e, g_924, obs, h27]
    split <;> rfl
  · rw [if_neg e, h27]
    rcases nn_cases v1 with hv | ⟨k, hk, rfl⟩
    · rw [m_isActor_no hR hv, obs, if_pos rfl]
    · rw [m_isActor_ok hR hg.1 hk, obs]
      split
      · rw [if_neg n10]
      · rw [if_pos rfl]
def zR (g : Nat → Int32) (n j : Nat) : Nat → Int32 := fun k => if 77 * n ≤ k ∧ k < 77 * n + j then 0 else g k
theorem zR_step {g : Nat → Int32} {n j : Nat} : upd (zR g n j) (77 * n + j) 0 = zR g n (j + 1) := by
  funext k
  unfold upd zR
  by_cases e : k = 77 * n + j
  · rw [if_pos e, if_pos (by omega)]
  · rw [if_neg e]
    by_cases e2 : 77 * n ≤ k ∧ k < 77 * n + j
    · rw [if_pos e2, if_pos (by omega)]
    · rw [if_neg e2, if_neg (by omega)]
theorem zR_0 {g : Nat → Int32} {n : Nat} : zR g n 0 = g := by
  funext k
  exact if_neg (by omega)
def bF (z : Nat → Int32) (n : Nat) (v1 v2 v3 v4 v5 : Int32) : Nat → Int32 := upd (upd (upd (upd (upd (upd (upd (upd z (77 * n + 0) v1) (77 * n + 1) v2) (77 * n + 2) v3) (77 * n + 3) v4) (77 * n + 4) v5) (77 * n + 5) 1) (77 * n + 7) 1) (77 * n + 8) v2
theorem m_born_loop {S : Mem} {g : Nat → Int32} {n : Nat} {v1 v2 v3 : Int32} (hn : n < 12) : ∀ (m k j : Nat), j + m = 77 → m < k → fm_actor_35 k v1 v2 v3 (Int32.ofNat n) (Int32.ofNat j) (gM S (zR g n j)) = some (Int32.ofNat n, gM S (bF (zR g n 77) n v1 v2 (v3 / 1000) (irm (v3 / 100) 10) (irm v3 100)))
  | _, 0, _, _, h => absurd h (Nat.not_lt_zero _)
  | 0, k + 1, j, h, _ => by
    have e : j = 77 := by omega
    subst e
    show fm_actor_35b (fm_actor_35 k) v1 v2 v3 (Int32.ofNat n) (Int32.ofNat 77) _ = _
    unfold fm_actor_35b
    rw [if_pos (by decide), st_0 hn, obs, st_1 hn, obs, st_2 hn, obs, st_3 hn, obs, st_4 hn, obs, st_5 hn, obs, st_7 hn, obs, st_8 hn, obs]
    rfl
  | m + 1, k + 1, j, h, hk => by
    show fm_actor_35b (fm_actor_35 k) v1 v2 v3 (Int32.ofNat n) (Int32.ofNat j) _ = _
    unfold fm_actor_35b
    rw [if_neg (fun q => by rw [show (77 : Int32) = Int32.ofNat 77 from rfl, n_le (by decide) (by omega)] at q; omega), st_v hn (by omega), obs, zR_step, n_succ]
    exact m_born_loop hn m k (j + 1) (by omega) (by omega)
theorem bF_off {z : Nat → Int32} {n k : Nat} {v1 v2 v3 v4 v5 : Int32} (h : k < 77 * n ∨ 77 * n + 77 ≤ k) : bF z n v1 v2 v3 v4 v5 k = z k := by
  unfold bF
  rw [upd_n (by omega), upd_n (by omega), upd_n (by omega), upd_n (by omega), upd_n (by omega), upd_n (by omega), upd_n (by omega), upd_n (by omega)]
theorem bF_z {g : Nat → Int32} {n k : Nat} {v1 v2 v3 v4 v5 : Int32} (h : 8 < k) (h2 : k < 77) : bF (zR g n 77) n v1 v2 v3 v4 v5 (77 * n + k) = 0 := by
  unfold bF
  rw [upd_n (by omega), upd_n (by omega), upd_n (by omega), upd_n (by omega), upd_n (by omega), upd_n (by omega), upd_n (by omega), upd_n (by omega)]
  exact if_pos ⟨by omega, by omega⟩
theorem bF_act {g : Nat → Int32} {n : Nat} {v1 v2 v3 v4 v5 : Int32} : RMA (bF (zR g n 77) n v1 v2 v3 v4 v5) n (aBorn v1 v2 v3 v4 v5) := by
  have e8 : bF (zR g n 77) n v1 v2 v3 v4 v5 (77 * n + 8) = v2 := upd_s
  refine ⟨⟨?_, ?_, ?_, ?_, ?_, ?_, ?_⟩, ⟨?_, fun i q hq => ?_, e8⟩, ⟨bF_z (by decide) (by decide), fun i m hm => ?_⟩, ⟨bF_z (by decide) (by decide), fun i m hm => ?_⟩, ⟨bF_z (by decide) (by decide), fun i m hm => ?_⟩, ⟨bF_z (by decide) (by decide), fun i m hm => ?_⟩⟩
  · show bF _ _ _ _ _ _ _ _ = v1
    unfold bF
    rw [upd_n (by omega), upd_n (by omega), upd_n (by omega), upd_n (by omega), upd_n (by omega), upd_n (by omega), upd_n (by omega), upd_s]
  · show bF _ _ _ _ _ _ _ _ = v2
    unfold bF
    rw [upd_n (by omega), upd_n (by omega), upd_n (by omega), upd_n (by omega), upd_n (by omega), upd_n (by omega), upd_s]
  · show bF _ _ _ _ _ _ _ _ = v3
    unfold bF
    rw [upd_n (by omega), upd_n (by omega), upd_n (by omega), upd_n (by omega), upd_n (by omega), upd_s]
  · show bF _ _ _ _ _ _ _ _ = v4
    unfold bF
    rw [upd_n (by omega), upd_n (by omega), upd_n (by omega), upd_n (by omega), upd_s]
  · show bF _ _ _ _ _ _ _ _ = v5
    unfold bF
    rw [upd_n (by omega), upd_n (by omega), upd_n (by omega), upd_s]
  · show bF _ _ _ _ _ _ _ _ = 1
    unfold bF
    rw [upd_n (by omega), upd_n (by omega), upd_s]
  · show bF _ _ _ _ _ _ _ _ = 0
    unfold bF
    rw [upd_n (by omega), upd_n (by omega), upd_n (by omega), upd_n (by omega), upd_n (by omega), upd_n (by omega), upd_n (by omega), upd_n (by omega)]
    exact if_pos ⟨by omega, by omega⟩
  · show bF _ _ _ _ _ _ _ _ = Int32.ofNat 1
    unfold bF
    rw [upd_n (by omega), upd_s]
    rfl
  · have hi : i < 1 := (List.getElem?_eq_some_iff.mp hq).1
    have e : i = 0 := by omega
    subst e
    have e2 : v2 = q := Option.some.inj hq
    rw [← e2]
    exact e8
  · exact absurd (List.getElem?_eq_some_iff.mp hm).1 (Nat.not_lt_zero _)
  · exact absurd (List.getElem?_eq_some_iff.mp hm).1 (Nat.not_lt_zero _)
  · exact absurd (List.getElem?_eq_some_iff.mp hm).1 (Nat.not_lt_zero _)
  · exact absurd (List.getElem?_eq_some_iff.mp hm).1 (Nat.not_lt_zero _)
theorem m_born_ok {S : Mem} {f : Nat → Int32} {w : Wst} {en v1 v2 v3 : Int32} (hR : RM en f w) (hg : Good w) (h3 : 0 ≤ v3) : ∃ f1, fm_actor v1 v2 v3 (gM S f) = some (sNo w v1 v2 (v3 / 1000) (irm (v3 / 100) 10) (irm v3 100), gM S f1) ∧ RM en f1 (sCame w v1 v2 (v3 / 1000) (irm (v3 / 100) 10) (irm v3 100)) := by
  have h12 := hg.1.1
  have hI := hg.1
  unfold fm_actor sNo sCame
  rw [m_can_ok hR hg h3, obs]
  by_cases hc : sCan w v1 v2 (v3 / 1000) (irm (v3 / 100) 10) (irm v3 100) = 0
  · have hn : wN w < 12 := by
      have := (born_good hg hc).1.1
      have e : wN (sBorn w (aBorn v1 v2 (v3 / 1000) (irm (v3 / 100) 10) (irm v3 100))) = wN w + 1 := rfl
      omega
    have hl := m_born_loop (S := S) (g := upd f 924 (Int32.ofNat (wN w + 1))) (n := wN w) (v1 := v1) (v2 := v2) (v3 := v3) hn 77 LF 0 rfl (by decide)
    rw [zR_0] at hl
    rw [if_pos hc, if_pos hc, if_pos hc, g_924, obs, hR.1, gs_924, obs, n_succ]
    refine ⟨_, hl, ?_⟩
    obtain ⟨tl, t1, t2, t3, -⟩ := hR.tl hI
    obtain ⟨r1, ⟨e1, e2, e3, e4, e5, e6⟩, r3, -, r5, r6⟩ := hR
    have hF : ∀ k, (k < 77 * wN w ∨ 77 * wN w + 77 ≤ k) → k ≠ 924 → bF (zR (upd f 924 (Int32.ofNat (wN w + 1))) (wN w) 77) (wN w) v1 v2 (v3 / 1000) (irm (v3 / 100) 10) (irm v3 100) k = f k := fun k hk hk2 => by
      rw [bF_off hk]
      show (if _ then (0 : Int32) else upd f 924 _ k) = _
      rw [if_neg (by omega), upd_n hk2]
    refine ⟨?_, ⟨?_, ?_, ?_, ?_, ?_, ?_⟩, fun b hb => ?_, ⟨tl, t1.congr t3 fun k q1 q2 => hF k (by omega) (by omega), t2⟩, r5.congr hI.2.2.2.1.1 fun k q1 q2 => hF k (by omega) (by omega), r6.congr hI.2.2.2.2.1.1 fun k q1 q2 => hF k (by omega) (by omega)⟩
    · rw [bF_off (by omega)]
      show (if _ then (0 : Int32) else upd f 924 _ 924) = _
      rw [if_neg (by omega), upd_s]
      rfl
    · exact (hF _ (by omega) (by decide)).trans e1
    · exact (hF _ (by omega) (by decide)).trans e2
    · exact (hF _ (by omega) (by decide)).trans e3
    · exact (hF _ (by omega) (by decide)).trans e4
    · exact (hF _ (by omega) (by decide)).trans e5
    · exact (hF _ (by omega) (by decide)).trans e6
    · by_cases e : b = wN w
      · subst e
        rw [born_new]
        exact bF_act
      · have hb2 : b < wN w := by
          have : b < wN w + 1 := hb
          omega
        rw [born_old hb2]
        exact (r3 b hb2).congr (hI.fit hb2) fun k hk => hF _ (by omega) (by omega)
  · rw [if_neg hc, if_neg hc, if_neg hc]
    exact ⟨f, rfl, hR⟩
section
variable {S : Mem} {w : Wst} {ik : Option Wst} {bl : List Int32} {hd : Nat → Hd}
theorem e_actor (h : REL S w ik bl hd) (v1 v2 v3 : Int32) : ∃ r S1 S2 w', fx_actor v1 v2 v3 S = some (r, S1) ∧ fm_actor v1 v2 v3 S1 = some (r, S2) ∧ REL S2 w' ik bl hd := by
  have hg := h.2.2.1
  unfold fx_actor
  by_cases h3 : 0 ≤ v3
  · obtain ⟨S1, q1, q2, q3⟩ := w_born_ok v1 v2 (v3 / 1000) (irm (v3 / 100) 10) (irm v3 100) h.1.1 hg
    have hf := fr.of (Or.inl rfl) q3
    have hr : RM (wI w 10) (S1 698) w := by
      rw [hf 698 (by omega)]
      exact h.2.1.1
    obtain ⟨f1, k1, k2⟩ := m_born_ok (S := S1) (v1 := v1) (v2 := v2) hr hg h3
    rw [gM_eta] at k1
    rw [if_pos h3, q1, bd_some]
    refine ⟨_, S1, gM S1 f1, _, rfl, k1, h.world q2 hf mf_of ?_ (came_good hg) came_n⟩
    rw [gM_at, came_10]
    exact k2
  · have hr : RM (wI w 10) (S 698) w := h.2.1.1
    have k := m_can_no (S := S) (v1 := v1) (v2 := v2) hr hg h3
    rw [gM_eta] at k
    rw [if_neg h3]
    refine ⟨_, S, S, w, rfl, ?_, h⟩
    unfold fm_actor
    rw [k, obs, if_neg (by decide)]
end
