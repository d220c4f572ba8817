/-! 42: the reference: forgets, unwatches -/
variable {en : Int32}
theorem tIns_le {t q : Tmr} {l : List Tmr} (h : q.2.1 ≤ t.2.1) : tIns t (q :: l) = q :: tIns t l := by
  unfold tIns
  rw [List.takeWhile_cons_of_pos (by simpa using h), List.dropWhile_cons_of_pos (by simpa using h)]
  rfl
theorem tIns_gt {t q : Tmr} {l : List Tmr} (h : ¬ q.2.1 ≤ t.2.1) : tIns t (q :: l) = t :: q :: l := by
  unfold tIns
  rw [List.takeWhile_cons_of_neg (by simpa using h), List.dropWhile_cons_of_neg (by simpa using h)]
  rfl
theorem tIns_all {t : Tmr} {l : List Tmr} (h : ∀ q ∈ l, ¬ q.2.1 ≤ t.2.1) : tIns t l = t :: l := by
  cases l with
  | nil => rfl
  | cons q l => exact tIns_gt (h q List.mem_cons_self)
theorem tIns_filter (p : Tmr → Bool) (t : Tmr) : ∀ (l : List Tmr), tSorted l → (tIns t l).filter p = if p t = true then tIns t (l.filter p) else l.filter p
  | [], _ => by
    show [t].filter p = if p t = true then [t] else []
    by_cases e : p t = true
    · rw [if_pos e, List.filter_cons_of_pos e, List.filter_nil]
    · rw [if_neg e, List.filter_cons_of_neg e, List.filter_nil]
  | q :: l, hs => by
    have hs2 := List.pairwise_cons.mp hs
    have ih := tIns_filter p t l hs2.2
    by_cases h : q.2.1 ≤ t.2.1
    · rw [tIns_le h]
      by_cases g : p q = true
      · rw [List.filter_cons_of_pos g, List.filter_cons_of_pos g, ih]
        by_cases e : p t = true
        · rw [if_pos e, if_pos e, tIns_le h]
        · rw [if_neg e, if_neg e]
      · rw [List.filter_cons_of_neg g, List.filter_cons_of_neg g, ih]
    · have hall : ∀ r ∈ (q :: l).filter p, ¬ r.2.1 ≤ t.2.1 := fun r hr => by
        rcases List.mem_cons.mp (List.mem_filter.mp hr).1 with e | e
        · rw [e]
          exact h
        · exact fun q2 => h (Int32.le_trans (hs2.1 r e) q2)
      rw [tIns_gt h]
      by_cases e : p t = true
      · rw [if_pos e, List.filter_cons_of_pos e, tIns_all hall]
      · rw [if_neg e, List.filter_cons_of_neg e]
theorem tSort_filter (p : Tmr → Bool) (tl : List Tmr) : tSort (tl.filter p) = (tSort tl).filter p := by
  have h : ∀ (tl l : List Tmr), tSorted l → (tl.filter p).foldl (fun l t => tIns t l) (l.filter p) = (tl.foldl (fun l t => tIns t l) l).filter p := by
    intro tl
    induction tl with
    | nil => intro l _; rfl
    | cons t tl ih =>
      intro l hl
      show _ = (tl.foldl (fun l t => tIns t l) (tIns t l)).filter p
      rw [← ih (tIns t l) (tIns_sorted hl), tIns_filter p t l hl]
      by_cases e : p t = true
      · rw [List.filter_cons_of_pos e, if_pos e]
        rfl
      · rw [List.filter_cons_of_neg e, if_neg e]
  exact h tl [] List.Pairwise.nil
/-- three cells put from k's place to l's -/
def mv3 (g : Nat → Int32) (l k : Nat) : Nat → Int32 := upd (upd (upd g (932 + 3 * l) (g (932 + 3 * k))) (932 + 3 * l + 1) (g (932 + 3 * k + 1))) (932 + 3 * l + 2) (g (932 + 3 * k + 2))
theorem mv3_at {g : Nat → Int32} {l k : Nat} : tAt (mv3 g l k) l = tAt g k := by
  have e1 : mv3 g l k (932 + 3 * l) = g (932 + 3 * k) := by
    unfold mv3
    rw [upd_n (by omega), upd_n (by omega), upd_s]
  have e2 : mv3 g l k (932 + 3 * l + 1) = g (932 + 3 * k + 1) := by
    unfold mv3
    rw [upd_n (by omega), upd_s]
  have e3 : mv3 g l k (932 + 3 * l + 2) = g (932 + 3 * k + 2) := by
    unfold mv3
    rw [upd_s]
  unfold tAt
  rw [e1, e2, e3]
theorem mv3_off {g : Nat → Int32} {l k i : Nat} (h : i ≠ l) : tAt (mv3 g l k) i = tAt g i := by
  unfold tAt mv3
  rw [upd_n (by omega), upd_n (by omega), upd_n (by omega), upd_n (by omega), upd_n (by omega), upd_n (by omega), upd_n (by omega), upd_n (by omega), upd_n (by omega)]
theorem mv3_out {g : Nat → Int32} {l k j : Nat} (h : j < 932 + 3 * l ∨ 932 + 3 * l + 3 ≤ j) : mv3 g l k j = g j := by
  unfold mv3
  rw [upd_n (by omega), upd_n (by omega), upd_n (by omega)]
theorem fg_51_step {S : Mem} {g : Nat → Int32} {k20 : Int32 → Int32 → Int32 → Mem → Option Mem} {v : Int32} {l k c n : Nat} (hl : l < 10) (hk : k < 10) (hc : c < 3) : fm_forgets_51 k20 (n + 1) v (Int32.ofNat l) (Int32.ofNat k) (Int32.ofNat c) (gM S g) = fm_forgets_51 k20 n v (Int32.ofNat l) (Int32.ofNat k) (Int32.ofNat (c + 1)) (gM S (upd g (932 + 3 * l + c) (g (932 + 3 * k + c)))) := by
  show fm_forgets_51b k20 (fm_forgets_51 k20 n) v (Int32.ofNat l) (Int32.ofNat k) (Int32.ofNat c) (gM S g) = _
  unfold fm_forgets_51b
  rw [if_neg (fun q => by rw [show (3 : Int32) = Int32.ofNat 3 from rfl, n_le (by decide) (by omega)] at q; omega), i932t, n_add, gv (by omega), obs, i932t, n_add, gs (by omega), obs, n_succ]
theorem fg_51 {S : Mem} {g : Nat → Int32} {k20 : Int32 → Int32 → Int32 → Mem → Option Mem} {v : Int32} {l k : Nat} (hl : l < 10) (hk : k < 10) (hlk : l ≤ k) : fm_forgets_51 k20 LF v (Int32.ofNat l) (Int32.ofNat k) 0 (gM S g) = k20 v (Int32.ofNat l + 1) (Int32.ofNat k + 1) (gM S (mv3 g l k)) := by
  show fm_forgets_51 k20 (2996 + 1 + 1 + 1 + 1) v (Int32.ofNat l) (Int32.ofNat k) (Int32.ofNat 0) (gM S g) = _
  rw [fg_51_step hl hk (by decide), fg_51_step hl hk (by decide), fg_51_step hl hk (by decide)]
  show fm_forgets_51b k20 (fm_forgets_51 k20 2996) v (Int32.ofNat l) (Int32.ofNat k) (Int32.ofNat 3) _ = _
  unfold fm_forgets_51b
  rw [if_pos (by decide)]
  unfold mv3
  rw [Nat.add_zero, Nat.add_zero, upd_n (by omega), upd_n (by omega), upd_n (by omega)]
theorem m_fg_loop {S : Mem} {a : Nat} {tl : List Tmr} (ha : a < 12) (hc : tl.length ≤ 10) : ∀ (m n k : Nat) (g : Nat → Int32), k + m = tl.length → m < n → g 931 = Int32.ofNat tl.length → (∀ i, i < ((tl.take k).filter fun q => !(q.1 == Int32.ofNat a)).length → ((tl.take k).filter fun q => !(q.1 == Int32.ofNat a))[i]? = some (tAt g i)) → (∀ i, k ≤ i → i < tl.length → tl[i]? = some (tAt g i)) → ∃ g1, fm_forgets_20 n (Int32.ofNat a) (Int32.ofNat ((tl.take k).filter fun q => !(q.1 == Int32.ofNat a)).length) (Int32.ofNat k) (gM S g) = some (gM S g1) ∧ TM g1 (tl.filter fun q => !(q.1 == Int32.ofNat a)) ∧ ∀ j, (j < 931 ∨ 962 ≤ j) → g1 j = g j
  | _, 0, _, _, _, h, _, _, _ => absurd h (Nat.not_lt_zero _)
  | 0, n + 1, k, g, h, _, hs, h1, h2 => by
    have hk : k = tl.length := by omega
    subst hk
    rw [List.take_length] at h1 ⊢
    show ∃ g1, fm_forgets_20b (fm_forgets_20 n) _ _ (Int32.ofNat tl.length) (gM S g) = _ ∧ _
    unfold fm_forgets_20b
    rw [g_931, obs, hs, if_pos ((n_le (by omega) (by omega)).mpr (Nat.le_refl _)), gs_931, obs]
    refine ⟨_, rfl, ⟨upd_s, fun i hi => ?_⟩, fun j hj => upd_n (by omega)⟩
    unfold tAt
    rw [upd_n (by omega), upd_n (by omega), upd_n (by omega)]
    exact h1 i hi
  | m + 1, n + 1, k, g, h, hn, hs, h1, h2 => by
    have hk : k < tl.length := by omega
    have hx := h2 k (Nat.le_refl _) hk
    have hfl : ((tl.take k).filter fun q => !(q.1 == Int32.ofNat a)).length ≤ k := by
      have := List.length_filter_le (fun q : Tmr => !(q.1 == Int32.ofNat a)) (tl.take k)
      rw [List.length_take] at this
      omega
    show ∃ g1, fm_forgets_20b (fm_forgets_20 n) _ _ (Int32.ofNat k) (gM S g) = _ ∧ _
    unfold fm_forgets_20b
    rw [g_931, obs, hs, if_neg (fun q => by rw [n_le (by omega) (by omega)] at q; omega), i932t, gv (by omega), obs]
    have ht := take_s hx
    by_cases e : g (932 + 3 * k) = Int32.ofNat a
    · have e2 : (tl.take (k + 1)).filter (fun q => !(q.1 == Int32.ofNat a)) = (tl.take k).filter fun q => !(q.1 == Int32.ofNat a) := by
        rw [ht, List.filter_append]
        simp [tAt, e]
      rw [if_pos e, n_succ]
      rw [← e2] at h1 ⊢
      exact m_fg_loop ha hc m n (k + 1) g (by omega) (by omega) hs h1 (fun i g1 g2 => h2 i (by omega) g2)
    · have e2 : (tl.take (k + 1)).filter (fun q => !(q.1 == Int32.ofNat a)) = ((tl.take k).filter fun q => !(q.1 == Int32.ofNat a)) ++ [tAt g k] := by
        rw [ht, List.filter_append]
        congr 1
        simp [tAt, e]
      obtain ⟨L, hL⟩ : ∃ L, L = ((tl.take k).filter fun q => !(q.1 == Int32.ofNat a)).length := ⟨_, rfl⟩
      rw [← hL] at hfl
      rw [if_neg e, ← hL, fg_51 (by omega) (by omega) hfl, n_succ, n_succ]
      obtain ⟨p1, p2⟩ := press (V1 := tAt (mv3 g L k)) (x := tAt g k) h1 h2 (by rw [← hL]; exact hfl) (by rw [← hL]; exact mv3_at) (fun i hi => mv3_off (by rw [← hL] at hi; exact hi))
      rw [← e2] at p1
      have e3 : L + 1 = ((tl.take (k + 1)).filter fun q => !(q.1 == Int32.ofNat a)).length := by
        rw [e2, List.length_append, hL]
        rfl
      rw [e3]
      obtain ⟨g1, q1, q2, q3⟩ := m_fg_loop (S := S) ha hc m n (k + 1) (mv3 g L k) (by omega) (by omega) (by rw [mv3_out (by omega)]; exact hs) p1 p2
      exact ⟨g1, q1, q2, fun j hj => (q3 j hj).trans (mv3_out (by omega))⟩
theorem m_forget_ok {S : Mem} {f : Nat → Int32} {w : Wst} {a : Nat} (h : RM en f w) (hI : Inv w) (ha : a < wN w) : ∃ f1, fm_forgets (Int32.ofNat a) (gM S f) = some (gM S f1) ∧ RM en f1 (sForget w a) := by
  have h12 := hI.1
  have hA := h.2.2.1 a ha
  have hx := hI.fit ha
  let f' := upd (upd f (77 * a + 7) 1) (77 * a + 64) 0
  have hf : ∀ j, j ≠ 77 * a + 7 → j ≠ 77 * a + 64 → f' j = f j := fun j q1 q2 => (upd_n q2).trans (upd_n q1)
  have h7 : f' (77 * a + 7) = 1 := (upd_n (by omega)).trans upd_s
  have h64 : f' (77 * a + 64) = 0 := upd_s
  let f2 := upd f (77 * a + 7) 1
  have a1 : RMA f2 a (aSStk (wA w a) [aI (wA w a) 1]) := hA.stk hx upd_s (fun i q hq => by
    have hi := (List.getElem?_eq_some_iff.mp hq).1
    have hi0 : i = 0 := by
      have : i < 1 := hi
      omega
    subst hi0
    rw [List.getElem?_cons_zero] at hq
    rw [← Option.some.inj hq]
    exact (upd_n (by omega)).trans hA.2.1.2.2) ((upd_n (by omega)).trans hA.2.1.2.2) fun k q1 q2 => upd_n (by omega)
  have hx1 : fitA (aSStk (wA w a) [aI (wA w a) 1]) := ⟨by show 1 ≤ 5; decide, hx.2⟩
  have a2 : RMA f' a (aKeep (wA w a)) := a1.notes hx1 h64 LNm.nil fun k q => upd_n (by omega)
  have r1 : RM en f' (wSA w a (aKeep (wA w a))) := h.act hI (by omega) a2 fun k q => hf k (by omega) (by omega)
  have i1 : Inv (wSA w a (aKeep (wA w a))) := hI.act (okA_keep (hI.2.1 a ha))
  obtain ⟨tl, t1, t2, t3, -⟩ := r1.tl i1
  obtain ⟨g1, q1, q2, q3⟩ := m_fg_loop (S := S) (a := a) (by omega) t3 tl.length LF 0 f' (Nat.zero_add _) (by show _ < 3000; omega) t1.1 (fun i hi => absurd hi (Nat.not_lt_zero _)) (fun i _ hi => t1.2 i hi)
  refine ⟨g1, ?_, ?_⟩
  · unfold fm_forgets
    rw [st_7 (by omega), obs, st_64 (by omega), obs]
    exact q1
  · have := r1.tim i1 q2 q3
    rw [tSort_filter, ← t2] at this
    exact this
/-! unwatches -/
theorem LNm.of {f : Nat → Int32} {o : Nat} {l : List Int32} (h : ∀ i, i < l.length → l[i]? = some (f (o + i))) : LNm f o l := fun i q hq => by
  have := h i (List.getElem?_eq_some_iff.mp hq).1
  rw [hq] at this
  exact (Option.some.inj this).symm
theorem LNm.to {f : Nat → Int32} {o : Nat} {l : List Int32} (h : LNm f o l) (i : Nat) (hi : i < l.length) : l[i]? = some (f (o + i)) := by
  rw [h i l[i] (List.getElem?_eq_getElem hi)]
  exact List.getElem?_eq_getElem hi
theorem m_uw_loop {S : Mem} {a b : Nat} {l : List Int32} {k2 : Int32 → Int32 → Mem → Option Mem} (hb : b < 12) (hc : l.length ≤ 12) : ∀ (m n k : Nat) (g : Nat → Int32), k + m = l.length → m < n → (∀ i, i < ((l.take k).filter fun q => !(q == Int32.ofNat a)).length → ((l.take k).filter fun q => !(q == Int32.ofNat a))[i]? = some (g (77 * b + 52 + i))) → (∀ i, k ≤ i → i < l.length → l[i]? = some (g (77 * b + 52 + i))) → ∃ g1, fm_unwatches_28 k2 n (Int32.ofNat a) (Int32.ofNat b) (Int32.ofNat ((l.take k).filter fun q => !(q == Int32.ofNat a)).length) (Int32.ofNat l.length) (Int32.ofNat k) (gM S g) = k2 (Int32.ofNat a) (Int32.ofNat (b + 1)) (gM S g1) ∧ g1 (77 * b + 51) = Int32.ofNat (l.filter fun q => !(q == Int32.ofNat a)).length ∧ LNm g1 (77 * b + 52) (l.filter fun q => !(q == Int32.ofNat a)) ∧ ∀ j, (j < 77 * b + 51 ∨ 77 * b + 64 ≤ j) → g1 j = g j
  | _, 0, _, _, _, h, _, _ => absurd h (Nat.not_lt_zero _)
  | 0, n + 1, k, g, h, _, h1, h2 => by
    have hk : k = l.length := by omega
    subst hk
    rw [List.take_length] at h1 ⊢
    have hfl := List.length_filter_le (fun q : Int32 => !(q == Int32.ofNat a)) l
    show ∃ g1, fm_unwatches_28b k2 (fm_unwatches_28 k2 n) _ _ _ _ (Int32.ofNat l.length) (gM S g) = _ ∧ _
    unfold fm_unwatches_28b
    rw [if_pos ((n_le (by omega) (by omega)).mpr (Nat.le_refl _)), st_51 hb, obs, n_succ]
    exact ⟨_, rfl, upd_s, LNm.of fun i hi => by rw [upd_n (by omega)]; exact h1 i hi, fun j hj => upd_n (by omega)⟩
  | m + 1, n + 1, k, g, h, hn, h1, h2 => by
    have hk : k < l.length := by omega
    have hx := h2 k (Nat.le_refl _) hk
    have hfl : ((l.take k).filter fun q => !(q == Int32.ofNat a)).length ≤ k := by
      have := List.length_filter_le (fun q : Int32 => !(q == Int32.ofNat a)) (l.take k)
      rw [List.length_take] at this
      omega
    show ∃ g1, fm_unwatches_28b k2 (fm_unwatches_28 k2 n) _ _ _ _ (Int32.ofNat k) (gM S g) = _ ∧ _
    unfold fm_unwatches_28b
    rw [if_neg (fun q => by rw [n_le (by omega) (by omega)] at q; omega), i52, at_v hb (by omega), obs, show 77 * b + (52 + k) = 77 * b + 52 + k by omega]
    have ht := take_s hx
    by_cases e : g (77 * b + 52 + k) = Int32.ofNat a
    · have e2 : (l.take (k + 1)).filter (fun q => !(q == Int32.ofNat a)) = (l.take k).filter fun q => !(q == Int32.ofNat a) := by
        rw [ht, List.filter_append]
        simp [e]
      rw [if_pos e, n_succ]
      rw [← e2] at h1 ⊢
      exact m_uw_loop hb hc m n (k + 1) g (by omega) (by omega) h1 (fun i g1 g2 => h2 i (by omega) g2)
    · have e2 : (l.take (k + 1)).filter (fun q => !(q == Int32.ofNat a)) = ((l.take k).filter fun q => !(q == Int32.ofNat a)) ++ [g (77 * b + 52 + k)] := by
        rw [ht, List.filter_append]
        congr 1
        simp [e]
      obtain ⟨L, hL⟩ : ∃ L, L = ((l.take k).filter fun q => !(q == Int32.ofNat a)).length := ⟨_, rfl⟩
      rw [if_neg e, obs, i52, st_v hb (by omega), obs, n_succ, n_succ, ← hL, show 77 * b + (52 + L) = 77 * b + 52 + L by omega]
      rw [← hL] at hfl
      obtain ⟨p1, p2⟩ := press (V1 := fun i => upd g (77 * b + 52 + L) (g (77 * b + 52 + k)) (77 * b + 52 + i)) h1 h2 (by rw [← hL]; exact hfl) (by show upd g _ _ _ = _; rw [← hL, upd_s]) (fun i hi => by rw [← hL] at hi; exact upd_n (by omega))
      rw [← e2] at p1
      have e3 : L + 1 = ((l.take (k + 1)).filter fun q => !(q == Int32.ofNat a)).length := by
        rw [e2, List.length_append, hL]
        rfl
      rw [e3]
      obtain ⟨g1, q1, q2, q3, q4⟩ := m_uw_loop (S := S) (k2 := k2) hb hc m n (k + 1) (upd g (77 * b + 52 + L) (g (77 * b + 52 + k))) (by omega) (by omega) p1 p2
      exact ⟨g1, q1, q2, q3, fun j hj => (q4 j hj).trans (upd_n (by omega))⟩
theorem m_unw_loop {S : Mem} {w : Wst} {a : Nat} (hI : Inv w) (ha : a < 12) : ∀ (m n b : Nat) (f : Nat → Int32), b + m = wN w → m < n → RM en f (sUnw w a b) → ∃ f1, fm_unwatches_2 n (Int32.ofNat a) (Int32.ofNat b) (gM S f) = some (gM S f1) ∧ RM en f1 (sUnw w a (wN w))
  | _, 0, _, _, _, h, _ => absurd h (Nat.not_lt_zero _)
  | 0, n + 1, b, f, h, _, hR => by
    have h12 := hI.1
    have e : b = wN w := by omega
    subst e
    have h924 : f 924 = Int32.ofNat (wN w) := hR.1
    show ∃ f1, fm_unwatches_2b (fm_unwatches_2 n) _ (Int32.ofNat (wN w)) (gM S f) = _ ∧ _
    unfold fm_unwatches_2b
    rw [g_924, obs, h924, if_pos ((n_le (by omega) (by omega)).mpr (Nat.le_refl _))]
    exact ⟨f, rfl, hR⟩
  | m + 1, n + 1, b, f, h, hn, hR => by
    have h12 := hI.1
    have hb : b < wN w := by omega
    have hI2 : Inv (sUnw w a b) := sUnw_inv hI
    have hA := hR.2.2.1 b hb
    have hx := hI2.fit hb
    have h924 : f 924 = Int32.ofNat (wN w) := hR.1
    have hl := hx.2.2.2.1
    obtain ⟨g1, q1, q2, q3, q4⟩ := m_uw_loop (S := S) (a := a) (k2 := fm_unwatches_2 n) (by omega) hl (aWat (wA (sUnw w a b) b)).length LF 0 f (Nat.zero_add _) (by show _ < 3000; omega) (fun i hi => absurd hi (Nat.not_lt_zero _)) (fun i _ hi => hA.2.2.2.2.1.2.to i hi)
    have r1 : RM en g1 (sUnw w a (b + 1)) := by
      rw [← sUnw_S]
      exact hR.act hI2 (by omega) (hA.wat hx q2 q3 fun k g1 g2 => q4 _ (by omega)) fun k g1 => q4 k (by omega)
    obtain ⟨f1, k1, k2⟩ := m_unw_loop (S := S) hI ha m n (b + 1) g1 (by omega) (by omega) r1
    refine ⟨f1, ?_, k2⟩
    show fm_unwatches_2b (fm_unwatches_2 n) _ (Int32.ofNat b) (gM S f) = _
    unfold fm_unwatches_2b
    rw [g_924, obs, h924, if_neg (fun q => by rw [n_le (by omega) (by omega)] at q; omega), at_51 (by omega), obs, hA.2.2.2.2.1.1]
    exact q1.trans k1
theorem m_unwatch_ok {S : Mem} {f : Nat → Int32} {w : Wst} {a : Nat} (h : RM en f w) (hI : Inv w) (ha : a < 12) : ∃ f1, fm_unwatches (Int32.ofNat a) (gM S f) = some (gM S f1) ∧ RM en f1 (sUnwatch w a) := by
  have h12 := hI.1
  rw [← sUnw_0 w a] at h
  exact m_unw_loop (S := S) hI ha (wN w) LF 0 f (Nat.zero_add _) (by show _ < 3000; omega) h
