/-! 42, piece 6 -/
variable {en : Int32}
/-! unwatches -/
theorem LNm.of {f : Nat → Int32} {o : Nat} {l : List Int32} (h : ∀ i, i < l.length → l[i]? = some (f (o + i))) : LNm f o l := fun i q hq => by
  have := h i (List.getElem?_eq_some_iff.mp hq).1
  rw [hq] at this
  exact (Option.some.inj this).symm
theorem LNm.to {f : Nat → Int32} {o : Nat} {l : List Int32} (h : LNm f o l) (i : Nat) (hi : i < l.length) : l[i]? = some (f (o + i)) := by
  rw [h i l[i] (List.getElem?_eq_getElem hi)]
  exact List.getElem?_eq_getElem hi
theorem m_uw_loop {S : Mem} {a b : Nat} {l : List Int32} {k2 : Int32 → Int32 → Mem → Option Mem} (hb : b < 12) (hc : l.length ≤ 12) : ∀ (m n k : Nat) (g : Nat → Int32), k + m = l.length → m < n → (∀ i, i < ((l.take k).filter fun q => !(q == Int32.ofNat a)).length → ((l.take k).filter fun q => !(q == Int32.ofNat a))[i]? = some (g (77 * b + 52 + i))) → (∀ i, k ≤ i → i < l.length → l[i]? = some (g (77 * b + 52 + i))) → ∃ g1, fm_unwatches_28 k2 n (Int32.ofNat a) (Int32.ofNat b) (Int32.ofNat ((l.take k).filter fun q => !(q == Int32.ofNat a)).length) (Int32.ofNat l.length) (Int32.ofNat k) (gM S g) = k2 (Int32.ofNat a) (Int32.ofNat (b + 1)) (gM S g1) ∧ g1 (77 * b + 51) = Int32.ofNat (l.filter fun q => !(q == Int32.ofNat a)).length ∧ LNm g1 (77 * b + 52) (l.filter fun q => !(q == Int32.ofNat a)) ∧ ∀ j, (j < 77 * b + 51 ∨ 77 * b + 64 ≤ j) → g1 j = g j
  | _, 0, _, _, _, h, _, _ => absurd h (Nat.not_lt_zero _)
  | 0, n + 1, k, g, h, _, h1, h2 => by
    have hk : k = l.length := by omega
    subst hk
    rw [List.take_length] at h1 ⊢
    have hfl := List.length_filter_le (fun q : Int32 => !(q == Int32.ofNat a)) l
    show ∃ g1, fm_unwatches_28b k2 (fm_unwatches_28 k2 n) _ _ _ _ (Int32.ofNat l.length) (gM S g) = _ ∧ _
    unfold fm_unwatches_28b
    rw [if_pos ((n_le (by omega) (by omega)).mpr (Nat.le_refl _)), st_51 hb, obs, n_succ]
    exact ⟨_, rfl, upd_s, LNm.of fun i hi => by rw [upd_n (by omega)]; exact h1 i hi, fun j hj => upd_n (by omega)⟩
  | m + 1, n + 1, k, g, h, hn, h1, h2 => by
    have hk : k < l.length := by omega
    have hx := h2 k (Nat.le_refl _) hk
    have hfl : ((l.take k).filter fun q => !(q == Int32.ofNat a)).length ≤ k := by
      have := List.length_filter_le (fun q : Int32 => !(q == Int32.ofNat a)) (l.take k)
      rw [List.length_take] at this
      omega
    show ∃ g1, fm_unwatches_28b k2 (fm_unwatches_28 k2 n) _ _ _ _ (Int32.ofNat k) (gM S g) = _ ∧ _
    unfold fm_unwatches_28b
    rw [if_neg (fun q => by rw [n_le (by omega) (by omega)] at q; omega), i52, at_v hb (by omega), obs, show 77 * b + (52 + k) = 77 * b + 52 + k by omega]
    have ht := take_s hx
    by_cases e : g (77 * b + 52 + k) = Int32.ofNat a
    · have e2 : (l.take (k + 1)).filter (fun q => !(q == Int32.ofNat a)) = (l.take k).filter fun q => !(q == Int32.ofNat a) := by
        rw [ht, List.filter_append]
        simp [e]
      rw [if_pos e, n_succ]
      rw [← e2] at h1 ⊢
      exact m_uw_loop hb hc m n (k + 1) g (by omega) (by omega) h1 (fun i g1 g2 => h2 i (by omega) g2)
    · have e2 : (l.take (k + 1)).filter (fun q => !(q == Int32.ofNat a)) = ((l.take k).filter fun q => !(q == Int32.ofNat a)) ++ [g (77 * b + 52 + k)] := by
        rw [ht, List.filter_append]
        congr 1
        simp [e]
      obtain ⟨L, hL⟩ : ∃ L, L = ((l.take k).filter fun q => !(q == Int32.ofNat a)).length := ⟨_, rfl⟩
      rw [if_neg e, obs, i52, st_v hb (by omega), obs, n_succ, n_succ, ← hL, show 77 * b + (52 + L) = 77 * b + 52 + L by omega]
      rw [← hL] at hfl
      obtain ⟨p1, p2⟩ := press (V1 := fun i => upd g (77 * b + 52 + L) (g (77 * b + 52 + k)) (77 * b + 52 + i)) h1 h2 (by rw [← hL]; exact hfl) (by show upd g _ _ _ = _; rw [← hL, upd_s]) (fun i hi => by rw [← hL] at hi; exact upd_n (by omega))
      rw [← e2] at p1
      have e3 : L + 1 = ((l.take (k + 1)).filter fun q => !(q == Int32.ofNat a)).length := by
        rw [e2, List.length_append, hL]
        rfl
      rw [e3]
      obtain ⟨g1, q1, q2, q3, q4⟩ := m_uw_loop (S := S) (k2 := k2) hb hc m n (k + 1) (upd g (77 * b + 52 + L) (g (77 * b + 52 + k))) (by omega) (by omega) p1 p2
      exact ⟨g1, q1, q2, q3, fun j hj => (q4 j hj).trans (upd_n (by omega))⟩
theorem m_unw_loop {S : Mem} {w : Wst} {a : Nat} (hI : Inv w) (ha : a < 12) : ∀ (m n b : Nat) (f : Nat → Int32), b + m = wN w → m < n → RM en f (sUnw w a b) → ∃ f1, fm_unwatches_2 n (Int32.ofNat a) (Int32.ofNat b) (gM S f) = some (gM S f1) ∧ RM en f1 (sUnw w a (wN w))
  | _, 0, _, _, _, h, _ => absurd h (Nat.not_lt_zero _)
  | 0, n + 1, b, f, h, _, hR => by
    have h12 := hI.1
    have e : b = wN w := by omega
    subst e
    have h924 : f 924 = Int32.ofNat (wN w) := hR.1
    show ∃ f1, fm_unwatches_2b (fm_unwatches_2 n) _ (Int32.ofNat (wN w)) (gM S f) = _ ∧ _
    unfold fm_unwatches_2b
    rw [g_924, obs, h924, if_pos ((n_le (by omega) (by omega)).mpr (Nat.le_refl _))]
    exact ⟨f, rfl, hR⟩
  | m + 1, n + 1, b, f, h, hn, hR => by
    have h12 := hI.1
    have hb : b < wN w := by omega
    have hI2 : Inv (sUnw w a b) := sUnw_inv hI
    have hA := hR.2.2.1 b hb
    have hx := hI2.fit hb
    have h924 : f 924 = Int32.ofNat (wN w) := hR.1
    have hl := hx.2.2.2.1
    obtain ⟨g1, q1, q2, q3, q4⟩ := m_uw_loop (S := S) (a := a) (k2 := fm_unwatches_2 n) (by omega) hl (aWat (wA (sUnw w a b) b)).length LF 0 f (Nat.zero_add _) (by show _ < 3000; omega) (fun i hi => absurd hi (Nat.not_lt_zero _)) (fun i _ hi => hA.2.2.2.2.1.2.to i hi)
    have r1 : RM en g1 (sUnw w a (b + 1)) := by
      rw [← sUnw_S]
      exact hR.act hI2 (by omega) (hA.wat hx q2 q3 fun k g1 g2 => q4 _ (by omega)) fun k g1 => q4 k (by omega)
    obtain ⟨f1, k1, k2⟩ := m_unw_loop (S := S) hI ha m n (b + 1) g1 (by omega) (by omega) r1
    refine ⟨f1, ?_, k2⟩
    show fm_unwatches_2b (fm_unwatches_2 n) _ (Int32.ofNat b) (gM S f) = _
    unfold fm_unwatches_2b
    rw [g_924, obs, h924, if_neg (fun q => by rw [n_le (by omega) (by omega)] at q; omega), at_51 (by omega), obs, hA.2.2.2.2.1.1]
    exact q1.trans k1
theorem m_unwatch_ok {S : Mem} {f : Nat → Int32} {w : Wst} {a : Nat} (h : RM en f w) (hI : Inv w) (ha : a < 12) : ∃ f1, fm_unwatches (Int32.ofNat a) (gM S f) = some (gM S f1) ∧ RM en f1 (sUnwatch w a) := by
  have h12 := hI.1
  rw [← sUnw_0 w a] at h
  exact m_unw_loop (S := S) hI ha (wN w) LF 0 f (Nat.zero_add _) (by show _ < 3000; omega) h
