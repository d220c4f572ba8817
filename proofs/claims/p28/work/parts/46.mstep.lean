/-! 46: the reference: steps -/
variable {en : Int32}
theorem irm_nat {m n : Nat} (hm : m < 2 ^ 31) (hn : 0 < n) (hn2 : n < 2 ^ 31) : irm (Int32.ofNat m) (Int32.ofNat n) = Int32.ofNat (m % n) := by
  have hy : (Int32.ofNat n).toInt = n := n_int hn2
  have hx : (Int32.ofNat m).toInt = m := n_int hm
  have h1 : (irm (Int32.ofNat m) (Int32.ofNat n)).toInt = (m : Int) % (n : Int) := by
    rw [irm_int (by rw [hy]; omega), hy, hx, tmod_nn (by omega)]
  have h2 : m % n < n := Nat.mod_lt _ hn
  apply Int32.toInt_inj.mp
  rw [h1, n_int (by omega)]
  exact (Int.natCast_emod m n).symm
theorem next12 {w : Wst} {k : Nat} (hI : Inv w) (h1 : 1 ≤ k) (h2 : k ≤ 12) : irm ((wI w 5 + Int32.ofNat k) + 12) 12 = sNextK w k := by
  unfold sNextK
  rw [n12]
  have h : ∃ x, x ≤ 24 ∧ wI w 5 + Int32.ofNat k = Int32.ofNat x := by
    rcases hI.2.2.2.2.2 with e | ⟨j, hj, e⟩
    · obtain ⟨k', rfl⟩ : ∃ k', k = k' + 1 := ⟨k - 1, by omega⟩
      refine ⟨k', by omega, ?_⟩
      rw [e, Int32.add_comm, n_pred, n_sub1]
    · exact ⟨j + k, by omega, by rw [e, n_add]⟩
  obtain ⟨x, hx, e⟩ := h
  rw [e, n_add, irm_nat (by omega) (by decide) (by decide), irm_nat (by omega) (by decide) (by decide), Nat.add_mod_right]
def mN (q : Option Nat) : Int32 := match q with | some a => Int32.ofNat a | none => -2
theorem m_next_loop {S : Mem} {f : Nat → Int32} {w : Wst} (hR : RM en f w) (hI : Inv w) : ∀ (m n k : Nat), k + m = 13 → 1 ≤ k → m < n → fm_nextActor_2 n (Int32.ofNat k) (gM S f) = some (mN (sNext w m k))
  | _, 0, _, _, _, h => absurd h (Nat.not_lt_zero _)
  | 0, n + 1, k, h, _, _ => by
    have e : k = 13 := by omega
    subst e
    show fm_nextActor_2b (fm_nextActor_2 n) (Int32.ofNat 13) (gM S f) = _
    unfold fm_nextActor_2b
    rw [if_pos (by decide)]
    rfl
  | m + 1, n + 1, k, h, h1, hn => by
    have h12 := hI.1
    obtain ⟨j, hj, ej⟩ := nextK_ok hI h1 (by omega)
    have e5 : f 928 = wI w 5 := hR.2.1.2.2.2.1
    have ej2 : irm ((wI w 5 + Int32.ofNat k) + 12) 12 = Int32.ofNat j := (next12 hI h1 (by omega)).trans ej
    have hs : sNext w (m + 1) k = if sLive w (nu (sNextK w k)) = true ∧ 0 < (aMail (wA w (nu (sNextK w k)))).length then some (nu (sNextK w k)) else sNext w m (k + 1) := rfl
    have ih := m_next_loop (S := S) hR hI m n (k + 1) (by omega) (by omega) (by omega)
    show fm_nextActor_2b (fm_nextActor_2 n) (Int32.ofNat k) (gM S f) = _
    unfold fm_nextActor_2b
    rw [hs, ej, nu_n (by omega), if_neg (fun q => by rw [n12, n_lt (by decide) (by omega)] at q; omega), g_928, obs, e5, g_924, obs, hR.1, ej2, n_succ]
    by_cases g0 : j < wN w
    · rw [if_neg (fun q => by rw [n_le (by omega) (by omega)] at q; omega), m_isLive_ok hR hI g0, obs]
      by_cases e : sLive w j = true
      · have hA := hR.2.2.1 j g0
        have hm := hI.mail g0
        rw [if_pos e, if_neg (by decide), at_13 hj, obs, hA.2.2.1.1]
        by_cases g : 0 < (aMail (wA w j)).length
        · rw [if_neg (fun q => by rw [show (0 : Int32) = Int32.ofNat 0 from rfl, n_le (by omega) (by decide)] at q; omega), if_pos ⟨e, g⟩]
          rfl
        · rw [if_pos (by rw [show (0 : Int32) = Int32.ofNat 0 from rfl, n_le (by omega) (by decide)]; omega), if_neg (fun q => g q.2)]
          exact ih
      · rw [if_neg e, if_pos rfl, if_neg (fun q => e q.1)]
        exact ih
    · rw [if_pos ((n_le (by omega) (by omega)).mpr (by omega)), if_neg (fun q => by rw [kill_big g0] at q; exact absurd q.1 (by decide))]
      exact ih
theorem m_next_ok {S : Mem} {f : Nat → Int32} {w : Wst} (hR : RM en f w) (hI : Inv w) : fm_nextActor (gM S f) = some (mN (sDealer w)) := m_next_loop (S := S) hR hI 12 LF 1 (by decide) (by decide) (by decide)
theorem m_has_ok {S : Mem} {f : Nat → Int32} {w : Wst} (hR : RM en f w) (hI : Inv w) : fm_hasStep (gM S f) = some (if sHas w = true then 1 else 0) := by
  obtain ⟨tl, t1, t2, t3, t4⟩ := hR.tl hI
  unfold fm_hasStep sHas
  rw [m_next_ok hR hI, obs]
  cases hd : sDealer w with
  | some a =>
    have h12 := hI.1
    have := (sLive_lt (dealer_some hd).1).1
    rw [if_pos (show (0 : Int32) ≤ mN (some a) by show (0 : Int32) ≤ Int32.ofNat a; rw [show (0 : Int32) = Int32.ofNat 0 from rfl, n_le (by decide) (by omega)]; omega), if_pos (by simp)]
  | none =>
    rw [if_neg (show ¬ (0 : Int32) ≤ mN none by decide), g_931, obs, t1.1]
    by_cases e : 0 < (wT w).length
    · rw [if_neg (fun q => by rw [show (0 : Int32) = Int32.ofNat 0 from rfl, n_le (by omega) (by decide)] at q; omega), if_pos (by simp [e])]
    · rw [if_pos (by rw [show (0 : Int32) = Int32.ofNat 0 from rfl, n_le (by omega) (by decide)]; omega), if_neg (by simp [e])]
/-! the first timer -/
def ftOK (tl : List Tmr) (k : Nat) (best : Int32) : Prop := (k = 0 ∧ best = -2) ∨ ∃ i t, best = Int32.ofNat i ∧ i < k ∧ tl[i]? = some t ∧ tSort (tl.take k) = t :: tSort ((tl.take k).eraseIdx i)
theorem m_ft_loop {S : Mem} {f : Nat → Int32} {tl : List Tmr} (hT : TM f tl) (hl : tl.length ≤ 10) : ∀ (m n k : Nat) (best : Int32), k + m = tl.length → m < n → ftOK tl k best → ∃ b, fm_firstTimer_5 n best (Int32.ofNat k) (gM S f) = some b ∧ ftOK tl tl.length b
  | _, 0, _, _, _, h, _ => absurd h (Nat.not_lt_zero _)
  | 0, n + 1, k, best, h, _, hb => by
    have e : k = tl.length := by omega
    subst e
    show ∃ b, fm_firstTimer_5b (fm_firstTimer_5 n) best (Int32.ofNat tl.length) (gM S f) = _ ∧ _
    unfold fm_firstTimer_5b
    rw [g_931, obs, hT.1, if_pos ((n_le (by omega) (by omega)).mpr (Nat.le_refl _))]
    exact ⟨best, rfl, hb⟩
  | m + 1, n + 1, k, best, h, hn, hb => by
    have hk : k < tl.length := by omega
    have hx := hT.2 k hk
    have ht := take_s hx
    show ∃ b, fm_firstTimer_5b (fm_firstTimer_5 n) best (Int32.ofNat k) (gM S f) = _ ∧ _
    unfold fm_firstTimer_5b
    rw [g_931, obs, hT.1, if_neg (fun q => by rw [n_le (by omega) (by omega)] at q; omega), n_succ]
    rcases hb with ⟨h0, hbest⟩ | ⟨i, t, hbest, hi, hit, hsrt⟩
    · subst h0
      rw [hbest, if_pos (by decide)]
      refine m_ft_loop hT hl m n 1 (Int32.ofNat 0) (by omega) (by omega) (Or.inr ⟨0, tAt f 0, rfl, by decide, hx, ?_⟩)
      rw [ht]
      rfl
    · have hti : t = tAt f i := by
        have := hT.2 i (by omega)
        rw [hit] at this
        exact Option.some.inj this
      rw [hbest, if_neg (n_neg (by omega)), i932t1, gv (by omega), obs, i932t1, gv (by omega), obs]
      by_cases e : f (932 + 3 * i + 1) ≤ f (932 + 3 * k + 1)
      · rw [if_pos e]
        refine m_ft_loop hT hl m n (k + 1) (Int32.ofNat i) (by omega) (by omega) (Or.inr ⟨i, t, rfl, by omega, hit, ?_⟩)
        rw [ht, tSort_snoc, hsrt, List.eraseIdx_append_of_lt_length (by rw [List.length_take]; omega), tSort_snoc, tIns_le (by rw [hti]; exact e)]
      · rw [if_neg e]
        refine m_ft_loop hT hl m n (k + 1) (Int32.ofNat k) (by omega) (by omega) (Or.inr ⟨k, tAt f k, rfl, by omega, hx, ?_⟩)
        have hlen : (tl.take k).length = k := by
          rw [List.length_take]
          omega
        rw [ht, tSort_snoc, List.eraseIdx_append_of_length_le (by omega), hlen, Nat.sub_self]
        show tIns (tAt f k) (tSort (tl.take k)) = tAt f k :: tSort (tl.take k ++ [])
        rw [List.append_nil, hsrt, tIns_gt (by rw [hti]; exact e)]
theorem m_ft_ok {S : Mem} {f : Nat → Int32} {tl : List Tmr} (hT : TM f tl) (hl : tl.length ≤ 10) (h0 : 0 < tl.length) : ∃ i t, fm_firstTimer (gM S f) = some (Int32.ofNat i) ∧ i < tl.length ∧ tl[i]? = some t ∧ tSort tl = t :: tSort (tl.eraseIdx i) := by
  obtain ⟨b, h1, h2⟩ := m_ft_loop (S := S) hT hl tl.length LF 0 (-2) (Nat.zero_add _) (by show _ < 3000; omega) (Or.inl ⟨rfl, rfl⟩)
  rcases h2 with ⟨h2, -⟩ | ⟨i, t, e, hi, hit, hs⟩
  · omega
  · rw [List.take_length] at hs
    refine ⟨i, t, ?_, hi, hit, hs⟩
    rw [← e]
    exact h1
/-! cells shifted down -/
def shG (f : Nat → Int32) (lo hi d : Nat) : Nat → Int32 := fun j => if lo ≤ j ∧ j < hi then f (j + d) else f j
theorem shG_0 {f : Nat → Int32} {lo d : Nat} : shG f lo lo d = f := by
  funext j
  unfold shG
  rw [if_neg (by omega)]
theorem shG_step {f : Nat → Int32} {lo hi d : Nat} (h : lo ≤ hi) : upd (shG f lo hi d) hi (shG f lo hi d (hi + d)) = shG f lo (hi + 1) d := by
  have e : shG f lo hi d (hi + d) = f (hi + d) := by
    unfold shG
    rw [if_neg (by omega)]
  rw [e]
  funext j
  unfold upd shG
  by_cases e1 : j = hi
  · rw [if_pos e1, if_pos (by omega), e1]
  · rw [if_neg e1]
    by_cases e2 : lo ≤ j ∧ j < hi
    · rw [if_pos e2, if_pos (by omega)]
    · rw [if_neg e2, if_neg (by omega)]
theorem shG_in {f : Nat → Int32} {lo hi d j : Nat} (h1 : lo ≤ j) (h2 : j < hi) : shG f lo hi d j = f (j + d) := by
  unfold shG
  rw [if_pos ⟨h1, h2⟩]
theorem shG_out {f : Nat → Int32} {lo hi d j : Nat} (h : j < lo ∨ hi ≤ j) : shG f lo hi d j = f j := by
  unfold shG
  rw [if_neg (by omega)]
theorem m_185_loop {S : Mem} {f : Nat → Int32} {v3 v4 : Int32} {lo L : Nat} (hlo : 932 ≤ lo) (hL : L ≤ 9) (h931 : f 931 = Int32.ofNat L) : ∀ (m n k : Nat), k + m = 932 + 3 * L → m < n → lo ≤ k → fm_step_185 n v3 v4 (Int32.ofNat k) (gM S (shG f lo k 3)) = bd (fm_sends v3 (-1) v4 (gM S (shG f lo (932 + 3 * L) 3))) fun _ S1 => some S1
  | _, 0, _, _, h, _ => absurd h (Nat.not_lt_zero _)
  | 0, n + 1, k, h, _, hk => by
    have e : k = 932 + 3 * L := by omega
    subst e
    show fm_step_185b (fm_step_185 n) v3 v4 (Int32.ofNat (932 + 3 * L)) _ = _
    unfold fm_step_185b
    rw [g_931, obs, shG_out (by omega), h931, i932t, if_pos ((n_le (by omega) (by omega)).mpr (Nat.le_refl _))]
  | m + 1, n + 1, k, h, hn, hk => by
    show fm_step_185b (fm_step_185 n) v3 v4 (Int32.ofNat k) _ = _
    unfold fm_step_185b
    have e3 : ald (gM S (shG f lo k 3)) 698 (Int32.ofNat k + 3) = some (shG f lo k 3 (k + 3)) := by
      rw [show Int32.ofNat k + 3 = Int32.ofNat (k + 3) from n_add k 3]
      exact gv (by omega)
    rw [g_931, obs, shG_out (by omega), h931, i932t, if_neg (fun q => by rw [n_le (by omega) (by omega)] at q; omega), e3, obs, gs (by omega), obs, n_succ, shG_step hk]
    exact m_185_loop hlo hL h931 m n (k + 1) (by omega) (by omega) (by omega)
theorem erase_at {f : Nat → Int32} {tl : List Tmr} {i : Nat} (hT : TM f tl) (hi : i < tl.length) (hl : tl.length ≤ 10) {g : Nat → Int32} (hg : ∀ j, 932 ≤ j → j < 962 → g j = f j) : ∀ j, j < (tl.eraseIdx i).length → (tl.eraseIdx i)[j]? = some (tAt (shG g (932 + 3 * i) (932 + 3 * (tl.length - 1)) 3) j) := fun j hj => by
  rw [List.length_eraseIdx, if_pos hi] at hj
  rw [List.getElem?_eraseIdx]
  unfold tAt
  by_cases e : j < i
  · rw [if_pos e, shG_out (by omega), shG_out (by omega), shG_out (by omega), hg _ (by omega) (by omega), hg _ (by omega) (by omega), hg _ (by omega) (by omega)]
    exact hT.2 j (by omega)
  · rw [if_neg e, shG_in (by omega) (by omega), shG_in (by omega) (by omega), shG_in (by omega) (by omega), hg _ (by omega) (by omega), hg _ (by omega) (by omega), hg _ (by omega) (by omega), hT.2 (j + 1) (by omega)]
    rfl
/-! the log -/
theorem told_ok {S : Mem} {b : Int32} (h : okBody b) : fm_toldAs (bm b) S = some b := by
  unfold fm_toldAs
  rcases h with h | ⟨k, hk, rfl⟩
  · have h2 : okV b := h
    rw [bm_num h, if_pos]
    rw [Int32.lt_iff_toInt_lt]
    have : (1000 : Int32).toInt = 1000 := by decide
    have := h2.2
    omega
  · have hge : ¬ 1000 + Int32.ofNat k < 1000 := fun q => by
      rw [show (1000 : Int32) = Int32.ofNat 1000 from rfl, n_add, n_lt (by omega) (by decide)] at q
      omega
    rw [bm_death hk, if_neg hge, Int32.add_comm 1000, ← Int32.add_assoc, Int32.add_sub_cancel]
theorem m_logs61 {S : Mem} {f : Nat → Int32} {a L : Nat} {b : Int32} (hb : okBody b) (hL : f 962 = Int32.ofNat L) (hl : L < 30) : fm_logs_61 (Int32.ofNat a) (bm b) (gM S f) = some (gM (up2 S 697 7 (lgv (Int32.ofNat a, b))) (upd (upd f (963 + L) (lgv (Int32.ofNat a, b))) 962 (Int32.ofNat (L + 1)))) := by
  unfold fm_logs_61
  rw [told_ok hb, obs, gM_up2 (by decide), obs, g_962, obs, hL, i963, gM_off (by decide), up2_self, gs (by omega), obs, g_962, obs, upd_n (by omega), hL, n_succ, gs_962, obs]
  rfl
theorem m_logs15 {S : Mem} {f : Nat → Int32} {v1 v2 : Int32} (hL : f 962 = 30) : ∀ (m n k : Nat), k + m = 30 → 1 ≤ k → m < n → fm_logs_15 n v1 v2 (Int32.ofNat k) (gM S (shG f 963 (962 + k) 1)) = fm_logs_61 v1 v2 (gM S (upd (shG f 963 992 1) 962 29))
  | _, 0, _, _, _, h => absurd h (Nat.not_lt_zero _)
  | 0, n + 1, k, h, _, _ => by
    have e : k = 30 := by omega
    subst e
    show fm_logs_15b (fm_logs_15 n) v1 v2 (Int32.ofNat 30) _ = _
    unfold fm_logs_15b
    rw [if_pos (by decide), g_962, obs, shG_out (by omega), hL, gs_962, obs]
    rfl
  | m + 1, n + 1, k, h, h1, hn => by
    show fm_logs_15b (fm_logs_15 n) v1 v2 (Int32.ofNat k) _ = _
    unfold fm_logs_15b
    have e1 : Int32.ofNat (963 + k) - 1 = Int32.ofNat (962 + k) := by
      rw [show 963 + k = 962 + k + 1 by omega, n_sub1]
    rw [if_neg (fun q => by rw [show (30 : Int32) = Int32.ofNat 30 from rfl, n_le (by decide) (by omega)] at q; omega), i963, gv (by omega), obs, e1, gs (by omega), obs, n_succ, show 963 + k = 962 + k + 1 by omega, shG_step (by omega)]
    exact m_logs15 hL m n (k + 1) (by omega) (by omega) (by omega)
theorem m_logs_ok {S : Mem} {f : Nat → Int32} {w : Wst} {a : Nat} {b : Int32} (hR : RM en f w) (hI : Inv w) (hb : okBody b) : ∃ f1, fm_logs (Int32.ofNat a) (bm b) (gM S f) = some (gM (up2 S 697 7 (lgv (Int32.ofNat a, b))) f1) ∧ RM en f1 (wSL w ((if (wL w).length = 30 then (wL w).tail else wL w) ++ [(Int32.ofNat a, b)])) := by
  have hL := hR.2.2.2.2.1
  have hl := hI.2.2.2.1.1
  unfold fm_logs
  rw [g_962, obs, hL.1]
  by_cases e : (wL w).length = 30
  · have h30 : f 962 = 30 := by rw [hL.1, e]; rfl
    have h15 := m_logs15 (S := S) (v1 := Int32.ofNat a) (v2 := bm b) h30 29 LF 1 (by decide) (by decide) (by decide)
    rw [show 962 + 1 = 963 from rfl, shG_0] at h15
    rw [if_pos (by rw [e]; rfl), show fm_logs_15 LF (Int32.ofNat a) (bm b) 1 (gM S f) = _ from h15, m_logs61 (L := 29) (f := upd (shG f 963 992 1) 962 29) hb upd_s (by decide), if_pos e]
    refine ⟨_, rfl, hR.log hI ⟨?_, fun i m hm => ?_⟩ fun k q => ?_⟩
    · rw [upd_s, List.length_append, List.length_tail, e]
      rfl
    · have ht : (wL w).tail.length = 29 := by rw [List.length_tail, e]
      rcases snoc_at hm with ⟨q1, q2⟩ | ⟨q1, q2⟩
      · rw [ht] at q1
        rw [List.getElem?_tail] at q2
        rw [upd_n (by omega), upd_n (by omega), upd_n (by omega), shG_in (by omega) (by omega), show 963 + i + 1 = 963 + (i + 1) by omega]
        exact hL.2 (i + 1) m q2
      · rw [q1, q2, ht, upd_n (by omega), upd_s]
    · rw [upd_n (by omega), upd_n (by omega), upd_n (by omega), shG_out (by omega)]
  · rw [if_neg (show ¬ Int32.ofNat (wL w).length = 30 from fun q => e ((n_inj (b := 30) (by omega) (by decide)).mp q)), m_logs61 hb hL.1 (by omega), if_neg e]
    refine ⟨_, rfl, hR.log hI ⟨?_, fun i m hm => ?_⟩ fun k q => ?_⟩
    · rw [upd_s, List.length_append]
      rfl
    · rcases snoc_at hm with ⟨q1, q2⟩ | ⟨q1, q2⟩
      · rw [upd_n (by omega), upd_n (by omega)]
        exact hL.2 i m q2
      · rw [q1, q2, upd_n (by omega), upd_s]
    · rw [upd_n (by omega), upd_n (by omega)]
/-! a step -/
/-- but for five fields and the chain nothing beside the row of numbers changed -/
def OE (S S1 : Mem) : Prop := (∀ b, b ≠ 697 → b ≠ 702 → S1 b = S b) ∧ ∀ k, k ≠ 5 → k ≠ 6 → k ≠ 7 → k ≠ 9 → k ≠ 18 → S1 697 k = S 697 k
theorem OE.refl (S : Mem) : OE S S := ⟨fun _ _ _ => rfl, fun _ _ _ _ _ _ => rfl⟩
theorem OE.trans {S S1 S2 : Mem} (h : OE S S1) (k : OE S1 S2) : OE S S2 := ⟨fun b q1 q2 => (k.1 b q1 q2).trans (h.1 b q1 q2), fun j q1 q2 q3 q4 q5 => (k.2 j q1 q2 q3 q4 q5).trans (h.2 j q1 q2 q3 q4 q5)⟩
theorem OM.oe {S S1 : Mem} (h : OM S S1) : OE S S1 := ⟨h.1, fun k q1 q2 _ q4 _ => h.2 k q1 q2 q4⟩
theorem OE.f697 {S : Mem} {k : Nat} {v : Int32} (h : k = 5 ∨ k = 6 ∨ k = 7 ∨ k = 9 ∨ k = 18) : OE S (up2 S 697 k v) := ⟨fun b q _ => up2_off q, fun j q1 q2 q3 q4 q5 => up2_nf (by rcases h with h | h | h | h | h <;> omega)⟩
/-- what was dealt with in a step, as the reference keeps it -/
def sTold (w : Wst) : Int32 := match sDealer w with
  | some a => lgv (Int32.ofNat a, ((aMail (wA w a)).headD (0, 0)).2)
  | none => -2
def MStep (en : Int32) (S : Mem) (q : Option Mem) (w : Wst) : Prop := ∃ S1 f1, q = some (gM S1 f1) ∧ RM en f1 (sStep w 0).1 ∧ OE S S1 ∧ S1 697 5 = (if (sStep w 0).2.1 = true then 1 else S 697 5) ∧ S1 697 7 = sTold w
theorem m_45_loop {S : Mem} {f : Nat → Int32} {a L : Nat} {p n : Int32} (ha : a < 12) (hL : L ≤ 11) : ∀ (m k j : Nat), j + m = 2 * L → m < k → fm_step_45 k (Int32.ofNat a) p n (Int32.ofNat L) (Int32.ofNat j) (gM S (shG f (77 * a + 14) (77 * a + 14 + j) 2)) = ((fm_sets (Int32.ofNat a) 13 (Int32.ofNat L) (gM S (shG f (77 * a + 14) (77 * a + 14 + 2 * L) 2))).bind fun S1 => (ast S1 698 928 (Int32.ofNat a)).bind fun S2 => (ald S2 698 926).bind fun x1 => (ast S2 698 926 (x1 + 1)).bind fun S3 => (fm_logs (Int32.ofNat a) n S3).bind fun S4 => (fm_deals (Int32.ofNat a) p n S4).bind fun S5 => some S5)
  | _, 0, _, _, h => absurd h (Nat.not_lt_zero _)
  | 0, k + 1, j, h, _ => by
    have e : j = 2 * L := by omega
    subst e
    show fm_step_45b (fm_step_45 k) _ _ _ _ (Int32.ofNat (2 * L)) _ = _
    unfold fm_step_45b
    rw [im2, if_pos ((n_le (by omega) (by omega)).mpr (Nat.le_refl _))]
  | m + 1, k + 1, j, h, hk => by
    show fm_step_45b (fm_step_45 k) _ _ _ _ (Int32.ofNat j) _ = _
    unfold fm_step_45b
    have e2 : fm_at (Int32.ofNat a) ((14 + Int32.ofNat j) + 2) (gM S (shG f (77 * a + 14) (77 * a + 14 + j) 2)) = some (shG f (77 * a + 14) (77 * a + 14 + j) 2 (77 * a + 14 + j + 2)) := by
      rw [i14, show Int32.ofNat (14 + j) + 2 = Int32.ofNat (14 + j + 2) from n_add _ 2, at_v ha (by omega), show 77 * a + (14 + j + 2) = 77 * a + 14 + j + 2 by omega]
    rw [im2, if_neg (fun q => by rw [n_le (by omega) (by omega)] at q; omega), e2, obs, i14, st_v ha (by omega), obs, n_succ, show 77 * a + (14 + j) = 77 * a + 14 + j by omega, shG_step (by omega)]
    exact m_45_loop ha hL m k (j + 1) (by omega) (by omega)
theorem m_step_ok {S : Mem} {f : Nat → Int32} {w : Wst} (hR : RM en f w) (h : Good w) (hh : sHas w = true) : MStep en S (fm_step (gM S f)) w := by
  have hI := h.1
  have h12 := hI.1
  unfold fm_step
  rw [gM_up2 (by decide), obs, m_next_ok hR hI, obs]
  cases hd : sDealer w with
  | some a =>
    obtain ⟨hl, hm⟩ := dealer_some hd
    have ha := (sLive_lt hl).1
    have hA := hR.2.2.1 a ha
    have hx := hI.fit ha
    cases hml : aMail (wA w a) with
    | nil => rw [hml] at hm; exact absurd hm (by decide)
    | cons m l =>
      have hT := take_good h hl hml
      have hlT : sLive (sTake w a m) a = true := by rw [take_live]; exact hl
      have hmm : okM (wN w) m := (hI.2.1 a ha).2.2.2.2.2.2.2.1.2 m (by rw [hml]; exact List.mem_cons_self)
      have hM0 : MM m (f (77 * a + 14)) (f (77 * a + 15)) := hA.2.2.1.2 0 m (by rw [hml]; rfl)
      have hl11 : l.length ≤ 11 := by
        have := hx.2.1
        rw [hml, List.length_cons] at this
        omega
      have e13 : f (77 * a + 13) - 1 = Int32.ofNat l.length := by
        rw [hA.2.2.1.1, hml, List.length_cons, n_sub1]
      have h45 := m_45_loop (S := up2 S 697 7 (-2)) (f := f) (a := a) (L := l.length) (p := f (77 * a + 14)) (n := f (77 * a + 15)) (by omega) hl11 (2 * l.length) LF 0 (Nat.zero_add _) (by show _ < 3000; omega)
      rw [Nat.add_zero, shG_0] at h45
      -- the mailbox
      generalize hG : shG f (77 * a + 14) (77 * a + 14 + 2 * l.length) 2 = G at h45
      have a1 : RMA (upd G (77 * a + 13) (Int32.ofNat l.length)) a (aSMail (wA w a) l) := by
        refine hA.mail hx upd_s (fun i m' hm' => ?_) fun k q1 q2 => ?_
        · have hi := (List.getElem?_eq_some_iff.mp hm').1
          have := hA.2.2.1.2 (i + 1) m' (by rw [hml, List.getElem?_cons_succ]; exact hm')
          rw [upd_n (by omega), upd_n (by omega), ← hG, shG_in (by omega) (by omega), shG_in (by omega) (by omega)]
          rw [show 77 * a + 14 + 2 * i + 2 = 77 * a + 14 + 2 * (i + 1) by omega, show 77 * a + 14 + 2 * i + 1 + 2 = 77 * a + 14 + 2 * (i + 1) + 1 by omega]
          exact this
        · rw [← hG]
          by_cases e : k = 13
          · rcases q1 with q1 | q1 <;> omega
          · rw [upd_n (by omega), shG_out (by omega)]
      have r1 : RM en (upd G (77 * a + 13) (Int32.ofNat l.length)) (wSA w a (aSMail (wA w a) l)) := hR.act hI (by omega) a1 fun k q => by rw [upd_n (by omega), ← hG, shG_out (by omega)]
      have i1 : Inv (wSA w a (aSMail (wA w a) l)) := by
        obtain ⟨p1, p2, p3, p4, p5, p6, p7, p8, p9, p10, p11⟩ := hI.2.1 a ha
        refine hI.act ⟨p1, p2, p3, p4, p5, p6, p7, ⟨by show l.length ≤ 12; omega, fun q hq => p8.2 q (by rw [hml]; exact List.mem_cons_of_mem _ hq)⟩, p9, p10, p11⟩
      have r2 := r1.i5 (v := Int32.ofNat a) i1
      have i2 : Inv (wSI (wSA w a (aSMail (wA w a) l)) 5 (Int32.ofNat a)) := ⟨i1.1, i1.2.1, i1.2.2.1, i1.2.2.2.1, i1.2.2.2.2.1, Or.inr ⟨a, by omega, show upd (wI w) 5 (Int32.ofNat a) 5 = Int32.ofNat a from upd_s⟩⟩
      have r3 := r2.i7 (v := wI w 7 + 1) i2
      have i3 : Inv (wSI (wSI (wSA w a (aSMail (wA w a) l)) 5 (Int32.ofNat a)) 7 (wI w 7 + 1)) := i2.int8 (by decide)
      have e926 : upd (upd G (77 * a + 13) (Int32.ofNat l.length)) 928 (Int32.ofNat a) 926 = wI w 7 := r2.2.1.2.1
      have hn : f (77 * a + 15) = bm m.2 := hM0.1
      obtain ⟨f4, k1, k2⟩ := m_logs_ok (S := up2 S 697 7 (-2)) (a := a) (b := m.2) r3 i3 hmm.2
      have hw : wSL (wSI (wSI (wSA w a (aSMail (wA w a) l)) 5 (Int32.ofNat a)) 7 (wI w 7 + 1)) ((if (wL w).length = 30 then (wL w).tail else wL w) ++ [(Int32.ofNat a, m.2)]) = sTake w a m := by
        unfold sTake
        rw [hml]
        rfl
      have r4 : RM en f4 (sTake w a m) := by
        rw [← hw]
        exact k2
      obtain ⟨S5, f5, d1, d2, d3⟩ := m_deal_ok (S := up2 (up2 S 697 7 (-2)) 697 7 (lgv (Int32.ofNat a, m.2))) (w := sTake w a m) (a := a) (fr := m.1) (b := m.2) (p := f (77 * a + 14)) (n := f (77 * a + 15)) r4 hT hlT hmm hM0
      have hst : sTold w = lgv (Int32.ofNat a, m.2) := by
        unfold sTold
        rw [hd]
        dsimp only
        rw [hml]
        rfl
      have hrun : fm_step_45 LF (Int32.ofNat a) (f (77 * a + 14)) (f (77 * a + 15)) (f (77 * a + 13) - 1) 0 (gM (up2 S 697 7 (-2)) f) = some (gM S5 f5) := by
        rw [e13]
        refine Eq.trans h45 ?_
        rw [st_13 (by omega), obs, gs_928, obs, g_926, obs, e926, gs_926, obs]
        rw [hn] at d1 ⊢
        rw [k1, obs, d1, obs]
      rw [if_neg (show ¬ mN (some a) < 0 from n_neg (by omega)), show mN (some a) = Int32.ofNat a from rfl, at_14 (by omega), obs, at_15 (by omega), obs, at_13 (by omega), obs, hrun]
      refine ⟨S5, f5, rfl, ?_⟩
      rw [step_some hd hml, hst]
      have o0 : OE S (up2 (up2 S 697 7 (-2)) 697 7 (lgv (Int32.ofNat a, m.2))) := (OE.f697 (by omega)).trans (OE.f697 (by omega))
      by_cases e : (dealt w a m).2 = 0
      · obtain ⟨g1, g2⟩ := d2 e
        rw [if_pos e, g1]
        refine ⟨g2, o0, ?_, up2_self⟩
        show _ = if false = true then (1 : Int32) else S 697 5
        rw [if_neg Bool.false_ne_true, up2_nf (by decide), up2_nf (by decide)]
      · obtain ⟨g1, g2, g3, g4, g5⟩ := d3 e
        rw [if_neg e]
        refine ⟨?_, o0.trans g2.oe, ?_, ?_⟩
        · show RM en f5 (sFail (dealt w a m).1 a (dealt w a m).2 0).1
          rw [fail_q _ _ _ 0 (up2 (up2 S 697 7 (-2)) 697 7 (lgv (Int32.ofNat a, m.2)) 697 6)]
          exact g1
        · rw [g3, if_pos rfl]
        · rw [g2.2 7 (by decide) (by decide) (by decide), up2_self]
  | none =>
    obtain ⟨tl, t1, t2, t3, t4⟩ := hR.tl hI
    have hne : 0 < tl.length := by
      unfold sHas at hh
      rw [hd] at hh
      rw [t4]
      simpa using hh
    obtain ⟨i, t, h1, h2, h3, h4⟩ := m_ft_ok (S := up2 S 697 7 (-2)) t1 t3 hne
    have ht : wT w = t :: tSort (tl.eraseIdx i) := by rw [t2, h4]
    have hst : sTold w = -2 := by
      unfold sTold
      rw [hd]
    have hti : t = tAt f i := by
      have := t1.2 i h2
      rw [h3] at this
      exact Option.some.inj this
    have c0 : f (932 + 3 * i) = t.1 := by rw [hti]; rfl
    have c1 : f (932 + 3 * i + 1) = t.2.1 := by rw [hti]; rfl
    have c2 : f (932 + 3 * i + 2) = t.2.2 := by rw [hti]; rfl
    have e931 : upd f 925 t.2.1 931 - 1 = Int32.ofNat (tl.length - 1) := by
      rw [upd_n (by decide), t1.1]
      exact n_sub (b := 1) (by omega)
    generalize hF : upd (upd f 925 t.2.1) 931 (Int32.ofNat (tl.length - 1)) = F
    have hloop := m_185_loop (S := up2 S 697 7 (-2)) (f := F) (v3 := t.1) (v4 := t.2.2) (lo := 932 + 3 * i) (L := tl.length - 1) (by omega) (by omega) (by rw [← hF, upd_s]) (3 * (tl.length - 1) - 3 * i) LF (932 + 3 * i) (by omega) (by show _ < 3000; omega) (Nat.le_refl _)
    rw [shG_0] at hloop
    have r1 := hR.i6 (v := t.2.1) hI
    have i1 : Inv (wSI w 6 t.2.1) := hI.int8 (by decide)
    have r2 : RM en (shG F (932 + 3 * i) (932 + 3 * (tl.length - 1)) 3) (wST (wSI w 6 t.2.1) (tSort (tl.eraseIdx i))) := by
      refine r1.tim i1 ⟨?_, erase_at t1 h2 t3 fun j q1 q2 => ?_⟩ fun k q => ?_
      · rw [shG_out (by omega), ← hF, upd_s, List.length_eraseIdx, if_pos h2]
      · rw [← hF, upd_n (by omega), upd_n (by omega)]
      · rw [shG_out (by omega), ← hF, upd_n (by omega)]
    have hg := fire_good h ht
    have i2 : Inv (wST (wSI w 6 t.2.1) (tSort (tl.eraseIdx i))) := by
      refine i1.tim ?_ ?_ fun q hq => ?_
      · have := hI.2.2.1.1
        rw [ht] at this
        exact Nat.le_of_succ_le this
      · have := hI.2.2.1.2.1
        rw [ht] at this
        exact (List.pairwise_cons.mp this).2
      · exact hI.2.2.1.2.2 q (by rw [ht]; exact List.mem_cons_of_mem _ hq)
    have hok := hI.2.2.1.2.2 t (by rw [ht]; exact List.mem_cons_self)
    obtain ⟨j1, j2⟩ := okN_nn hok.1 (by omega)
    obtain ⟨f3, k1, k2, -⟩ := m_send_ok (S := up2 S 697 7 (-2)) (a := nu t.1) (m := (-1, t.2.2)) r2 i2 j1 (MM_num hok.2)
    rw [← j2] at k1
    refine ⟨up2 S 697 7 (-2), f3, ?_, ?_, OE.f697 (by omega), ?_, ?_⟩
    · rw [if_pos (show mN none < 0 by decide), h1, obs, i932t, gv (by omega), obs, c0, show Int32.ofNat (932 + 3 * i) + 2 = Int32.ofNat (932 + 3 * i + 2) from n_add _ 2, gv (by omega), obs, c2, show Int32.ofNat (932 + 3 * i) + 1 = Int32.ofNat (932 + 3 * i + 1) from n_add _ 1, gv (by omega), obs, c1, gs_925, obs, g_931, obs, e931, gs_931, obs, hF, hloop, k1, bd_some]
    · rw [step_cons hd ht]
      exact k2
    · rw [step_cons hd ht]
      show _ = if false = true then (1 : Int32) else S 697 5
      rw [if_neg Bool.false_ne_true, up2_nf (by decide)]
    · rw [up2_self, hst]
/-! runs -/
theorem m_isEnd_ok {S : Mem} {f : Nat → Int32} {w : Wst} {i n : Nat} (hR : RM en f w) (hI : Inv w) (hi : i < 2 ^ 31) (hn : n < 2 ^ 31) : fm_isEnd (Int32.ofNat i) (Int32.ofNat n) (gM S f) = some (if sHow w = 0 ∧ i ≠ n then 0 else 1, gM (up2 S 697 18 (sHow w)) f) := by
  have h12 := hI.1
  have key : ∀ v : Int32, (0 < v ↔ ¬ v = 0) → ((some (up2 (gM S f) 697 18 v)).bind fun S1 => if 0 < (S1 697 18) then (some ((1 : Int32), S1)) else (if Int32.ofNat i = Int32.ofNat n then (some (1, S1)) else (some (0, S1)))) = some (if v = 0 ∧ i ≠ n then 0 else 1, gM (up2 S 697 18 v) f) := fun v hv => by
    rw [gM_up2 (by decide), obs, gM_off (by decide), up2_self]
    by_cases e : v = 0
    · rw [if_neg (fun q => (hv.mp q) e)]
      by_cases g : i = n
      · rw [if_pos ((n_inj hi hn).mpr g), if_neg (fun q => q.2 g)]
      · rw [if_neg (fun q => g ((n_inj hi hn).mp q)), if_pos ⟨e, g⟩]
    · rw [if_pos (hv.mpr e), if_neg (fun q => e q.1)]
  have h24 : fm_isEnd_24 (Int32.ofNat i) (Int32.ofNat n) (gM S f) = some (if (if sHas w = true then (0 : Int32) else 1) = 0 ∧ i ≠ n then 0 else 1, gM (up2 S 697 18 (if sHas w = true then (0 : Int32) else 1)) f) := by
    unfold fm_isEnd_24
    rw [m_has_ok hR hI, obs]
    by_cases e : sHas w = true
    · rw [if_pos e, if_neg (by decide), if_pos e]
      exact key 0 (by decide)
    · rw [if_neg e, if_pos rfl, if_neg e]
      exact key 1 (by decide)
  unfold fm_isEnd sHow
  rw [g_924, obs, hR.1]
  by_cases e : 0 < wN w
  · rw [if_neg (fun q => by rw [show (0 : Int32) = Int32.ofNat 0 from rfl, n_le (by omega) (by decide)] at q; omega), show fm_isLive 0 (gM S f) = _ from m_isLive_ok (S := S) (a := 0) hR hI e, obs]
    by_cases g : sLive w 0 = true
    · rw [if_pos g, if_neg (show ¬ (1 : Int32) = 0 by decide), h24, if_neg (show ¬ (0 < wN w ∧ sLive w 0 = false) by simp [g])]
    · have h2 : 0 < wN w ∧ sLive w 0 = false := ⟨e, by simpa using g⟩
      rw [if_neg g, if_pos (show (0 : Int32) = 0 from rfl), if_pos h2]
      exact key 2 (by decide)
  · rw [if_pos (by rw [show (0 : Int32) = Int32.ofNat 0 from rfl, n_le (by omega) (by decide)]; omega), h24, if_neg (show ¬ (0 < wN w ∧ sLive w 0 = false) from fun q => e q.1)]
theorem how_has {w : Wst} (h : sHow w = 0) : sHas w = true := by
  unfold sHow at h
  split at h
  · exact absurd h (by decide)
  · split at h
    · assumption
    · exact absurd h (by decide)
theorem next10 (w : Wst) (v : Int32) : ∀ (m k : Nat), sNext (wSI w 10 v) m k = sNext w m k
  | 0, _ => rfl
  | m + 1, k => by
    show (if sLive w (nu (sNextK w k)) = true ∧ 0 < (aMail (wA w (nu (sNextK w k)))).length then some (nu (sNextK w k)) else sNext (wSI w 10 v) m (k + 1)) = (if sLive w (nu (sNextK w k)) = true ∧ 0 < (aMail (wA w (nu (sNextK w k)))).length then some (nu (sNextK w k)) else sNext w m (k + 1))
    rw [next10 w v m (k + 1)]
theorem has10 (w : Wst) (v : Int32) : sHas (wSI w 10 v) = sHas w := by
  unfold sHas sDealer
  rw [next10]
  rfl
theorem how10 (w : Wst) (v : Int32) : sHow (wSI w 10 v) = sHow w := by
  unfold sHow
  rw [has10]
  rfl
theorem how10u (w : Wst) : wI (wSI w 10 (sHow w)) 10 = sHow (wSI w 10 (sHow w)) := by
  rw [how10]
  show upd (wI w) 10 (sHow w) 10 = sHow w
  exact upd_s
theorem m_runs_loop : ∀ (k n j : Nat) (w : Wst) (S : Mem) (f : Nat → Int32), k + 1 < n → j + k < 2 ^ 31 → Good w → RM en f w → wI w 10 = sHow w → ∃ S1 f1, fm_runs_2 n (Int32.ofNat (j + k)) (Int32.ofNat j) (gM S f) = some (Int32.ofNat (j + (sSteps k w).2), gM S1 f1) ∧ RM en f1 (sSteps k w).1 ∧ OE S S1 ∧ S1 697 18 = wI (sSteps k w).1 10
  | _, 0, _, _, _, _, h, _, _, _, _ => absurd h (Nat.not_lt_zero _)
  | 0, n + 1, j, w, S, f, _, hj, hg, hR, h10 => by
    show ∃ S1 f1, fm_runs_2b (fm_runs_2 n) (Int32.ofNat (j + 0)) (Int32.ofNat j) (gM S f) = _ ∧ _
    unfold fm_runs_2b
    rw [m_isEnd_ok hR hg.1 (by omega) (by omega), bd_some, if_neg (show ¬ (sHow w = 0 ∧ j ≠ j + 0) from fun q => q.2 rfl), if_neg (show ¬ (1 : Int32) = 0 by decide)]
    refine ⟨_, f, rfl, hR, OE.f697 (by omega), ?_⟩
    rw [up2_self]
    exact h10.symm
  | k + 1, n + 1, j, w, S, f, hn, hj, hg, hR, h10 => by
    have hs : sSteps (k + 1) w = if wI w 10 = 0 then ((sSteps k (wSI (sStep w 0).1 10 (sHow (sStep w 0).1))).1, (sSteps k (wSI (sStep w 0).1 10 (sHow (sStep w 0).1))).2 + 1) else (w, 0) := rfl
    show ∃ S1 f1, fm_runs_2b (fm_runs_2 n) (Int32.ofNat (j + (k + 1))) (Int32.ofNat j) (gM S f) = _ ∧ _
    unfold fm_runs_2b
    rw [hs, h10, m_isEnd_ok hR hg.1 (by omega) (by omega), bd_some]
    by_cases e : sHow w = 0
    · obtain ⟨S1, f1, k1, k2, k3, k4, k5⟩ := m_step_ok (S := up2 S 697 18 (sHow w)) hR hg (how_has e)
      have hg1 := sStep_good (q := 0) hg
      obtain ⟨S2, f2, m1, m2, m3, m4⟩ := m_runs_loop k n (j + 1) (wSI (sStep w 0).1 10 (sHow (sStep w 0).1)) S1 f1 (by omega) (by omega) (Good.int8 hg1 (by decide)) k2.any10 (how10u _)
      rw [if_pos (show sHow w = 0 ∧ j ≠ j + (k + 1) from ⟨e, by omega⟩), if_pos (show (0 : Int32) = 0 from rfl), k1, obs, n_succ, if_pos e, show j + (k + 1) = j + 1 + k by omega, m1]
      refine ⟨S2, f2, ?_, m2, ((OE.f697 (by omega)).trans k3).trans m3, m4⟩
      show some (Int32.ofNat (j + 1 + _), gM S2 f2) = some (Int32.ofNat (j + (_ + 1)), gM S2 f2)
      rw [Nat.add_assoc, Nat.add_comm 1]
    · rw [if_neg (show ¬ (sHow w = 0 ∧ j ≠ j + (k + 1)) from fun q => e q.1), if_neg (show ¬ (1 : Int32) = 0 by decide), if_neg e]
      refine ⟨_, f, rfl, hR, OE.f697 (by omega), ?_⟩
      rw [up2_self]
      exact h10.symm
theorem m_run_ok {S : Mem} {f : Nat → Int32} {k : Nat} {w : Wst} (hR : RM en f w) (hg : Good w) (hk : k < 2990) : ∃ S1 f1, fm_runs (Int32.ofNat k) (gM S f) = some (Int32.ofNat (sRun w k).2, gM S1 f1) ∧ RM en f1 (sRun w k).1 ∧ OE S S1 ∧ S1 697 18 = wI (sRun w k).1 10 := by
  have := m_runs_loop k LF 0 (wSI w 10 (sHow w)) S f (by show k + 1 < 3000; omega) (by omega) (Good.int8 hg (by decide)) hR.any10 (how10u _)
  rw [Nat.zero_add, Nat.zero_add] at this
  exact this
