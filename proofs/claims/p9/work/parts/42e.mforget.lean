/-! 42, piece 4 -/
variable {en : Int32}
theorem m_fg_loop {S : Mem} {a : Nat} {tl : List Tmr} (ha : a < 12) (hc : tl.length ≤ 10) : ∀ (m n k : Nat) (g : Nat → Int32), k + m = tl.length → m < n → g 931 = Int32.ofNat tl.length → (∀ i, i < ((tl.take k).filter fun q => !(q.1 == Int32.ofNat a)).length → ((tl.take k).filter fun q => !(q.1 == Int32.ofNat a))[i]? = some (tAt g i)) → (∀ i, k ≤ i → i < tl.length → tl[i]? = some (tAt g i)) → ∃ g1, fm_forgets_20 n (Int32.ofNat a) (Int32.ofNat ((tl.take k).filter fun q => !(q.1 == Int32.ofNat a)).length) (Int32.ofNat k) (gM S g) = some (gM S g1) ∧ TM g1 (tl.filter fun q => !(q.1 == Int32.ofNat a)) ∧ ∀ j, (j < 931 ∨ 962 ≤ j) → g1 j = g j
  | _, 0, _, _, _, h, _, _, _ => absurd h (Nat.not_lt_zero _)
  | 0, n + 1, k, g, h, _, hs, h1, h2 => by
    have hk : k = tl.length := by omega
    subst hk
    rw [List.take_length] at h1 ⊢
    show ∃ g1, fm_forgets_20b (fm_forgets_20 n) _ _ (Int32.ofNat tl.length) (gM S g) = _ ∧ _
    unfold fm_forgets_20b
    rw [g_931, obs, hs, if_pos ((n_le (by omega) (by omega)).mpr (Nat.le_refl _)), gs_931, obs]
    refine ⟨_, rfl, ⟨upd_s, fun i hi => ?_⟩, fun j hj => upd_n (by omega)⟩
    unfold tAt
    rw [upd_n (by omega), upd_n (by omega), upd_n (by omega)]
    exact h1 i hi
  | m + 1, n + 1, k, g, h, hn, hs, h1, h2 => by
    have hk : k < tl.length := by omega
    have hx := h2 k (Nat.le_refl _) hk
    have hfl : ((tl.take k).filter fun q => !(q.1 == Int32.ofNat a)).length ≤ k := by
      have := List.length_filter_le (fun q : Tmr => !(q.1 == Int32.ofNat a)) (tl.take k)
      rw [List.length_take] at this
      omega
    show ∃ g1, fm_forgets_20b (fm_forgets_20 n) _ _ (Int32.ofNat k) (gM S g) = _ ∧ _
    unfold fm_forgets_20b
    rw [g_931, obs, hs, if_neg (fun q => by rw [n_le (by omega) (by omega)] at q; omega), i932t, gv (by omega), obs]
    have ht := take_s hx
    by_cases e : g (932 + 3 * k) = Int32.ofNat a
    · have e2 : (tl.take (k + 1)).filter (fun q => !(q.1 == Int32.ofNat a)) = (tl.take k).filter fun q => !(q.1 == Int32.ofNat a) := by
        rw [ht, List.filter_append]
        simp [tAt, e]
      rw [if_pos e, n_succ]
      rw [← e2] at h1 ⊢
      exact m_fg_loop ha hc m n (k + 1) g (by omega) (by omega) hs h1 (fun i g1 g2 => h2 i (by omega) g2)
    · have e2 : (tl.take (k + 1)).filter (fun q => !(q.1 == Int32.ofNat a)) = ((tl.take k).filter fun q => !(q.1 == Int32.ofNat a)) ++ [tAt g k] := by
        rw [ht, List.filter_append]
        congr 1
        simp [tAt, e]
      rw [if_neg e, fg_51 (by omega) (by omega) hfl, n_succ, n_succ]
      obtain ⟨p1, p2⟩ := press (V1 := tAt (mv3 g ((tl.take k).filter fun q => !(q.1 == Int32.ofNat a)).length k)) h1 h2 hfl mv3_at (fun i hi => mv3_off hi)
      rw [← e2] at p1
      have e3 : ((tl.take k).filter fun q => !(q.1 == Int32.ofNat a)).length + 1 = ((tl.take (k + 1)).filter fun q => !(q.1 == Int32.ofNat a)).length := by
        rw [e2, List.length_append]
        rfl
      rw [e3]
      obtain ⟨g1, q1, q2, q3⟩ := m_fg_loop (S := S) ha hc m n (k + 1) (mv3 g ((tl.take k).filter fun q => !(q.1 == Int32.ofNat a)).length k) (by omega) (by omega) (by rw [mv3_out (by omega)]; exact hs) p1 p2
      exact ⟨g1, q1, q2, fun j hj => (q3 j hj).trans (mv3_out (by omega))⟩
