/-! 55: calls: of, timer -/
section
variable {S : Mem} {w : Wst} {ik : Option Wst} {bl : List Int32} {hd : Nat → Hd}
theorem m_tof_loop {en : Int32} {a : Nat} {tl : List Tmr} (hT : TM (S 698) tl) (hl : tl.length ≤ 10) : ∀ (m n k c : Nat), k + m = tl.length → m < n → fm_timersOf_4 n (Int32.ofNat a) (Int32.ofNat c) (Int32.ofNat k) S = some (Int32.ofNat (c + ((tl.drop k).filter fun q => q.1 == Int32.ofNat a).length))
  | _, 0, _, _, _, h => absurd h (Nat.not_lt_zero _)
  | 0, n + 1, k, c, h, _ => by
    show fm_timersOf_4b (fm_timersOf_4 n) _ _ (Int32.ofNat k) S = _
    unfold fm_timersOf_4b
    rw [v931, obs, hT.1, if_pos ((n_le (by omega) (by omega)).mpr (by omega)), List.drop_eq_nil_of_le (by omega)]
    rfl
  | m + 1, n + 1, k, c, h, hn => by
    have hk : k < tl.length := by omega
    have hx := hT.2 k hk
    rw [List.getElem?_eq_getElem hk] at hx
    have hx2 := Option.some.inj hx
    show fm_timersOf_4b (fm_timersOf_4 n) _ _ (Int32.ofNat k) S = _
    unfold fm_timersOf_4b
    rw [v931, obs, hT.1, if_neg (fun q => by rw [n_le (by omega) (by omega)] at q; omega), i932t, v_v (by omega), obs, n_succ, n_succ, show Int32.ofNat c + 0 = Int32.ofNat c from Int32.add_zero _, m_tof_loop (en := en) hT hl m n (k + 1) c (by omega) (by omega), m_tof_loop (en := en) hT hl m n (k + 1) (c + 1) (by omega) (by omega), List.drop_eq_getElem_cons hk, hx2]
    by_cases e : S 698 (932 + 3 * k) = Int32.ofNat a
    · rw [if_pos e, List.filter_cons_of_pos (by simp [tAt, e]), List.length_cons]
      congr 2
      omega
    · rw [if_neg e, List.filter_cons_of_neg (by simp [tAt, e])]
theorem m_note0_loop {p : Nat} {l : List Int32} {T W : Int32} (hp : p < 12) (hc : l.length ≤ 10) (hT : S 698 925 = T) (hW : S 698 (77 * p + 4) = W) (hl : LNm (S 698) (77 * p + 65) l) : ∀ (m n k c : Nat), k + m = l.length → m < n → fm_noted_14 n (Int32.ofNat p) 0 (Int32.ofNat c) (Int32.ofNat l.length) (Int32.ofNat k) S = some (Int32.ofNat (c + ((l.drop k).filter fun t => !decide (t < T - W)).length), S)
  | _, 0, _, _, _, h => absurd h (Nat.not_lt_zero _)
  | 0, n + 1, k, c, h, _ => by
    show fm_noted_14b (fm_noted_14 n) _ _ _ _ (Int32.ofNat k) S = _
    unfold fm_noted_14b
    rw [if_pos ((n_le (by omega) (by omega)).mpr (by omega)), if_pos rfl, List.drop_eq_nil_of_le (by omega)]
    rfl
  | m + 1, n + 1, k, c, h, hn => by
    have hk : k < l.length := by omega
    have hx : S 698 (77 * p + 65 + k) = l[k] := hl k l[k] (List.getElem?_eq_getElem hk)
    show fm_noted_14b (fm_noted_14 n) _ _ _ _ (Int32.ofNat k) S = _
    unfold fm_noted_14b
    rw [if_neg (fun q => by rw [n_le (by omega) (by omega)] at q; omega), i65, a_v hp (by omega), obs, v925, obs, a4 hp, obs, hT, hW, show 77 * p + (65 + k) = 77 * p + 65 + k by omega, hx, if_pos rfl, n_succ, n_succ, m_note0_loop hp hc hT hW hl m n (k + 1) c (by omega) (by omega), m_note0_loop hp hc hT hW hl m n (k + 1) (c + 1) (by omega) (by omega), List.drop_eq_getElem_cons hk]
    by_cases e : l[k] < T - W
    · rw [if_pos e, List.filter_cons_of_neg (by simp [e])]
    · rw [if_neg e, List.filter_cons_of_pos (by simp [e]), List.length_cons, show c + 1 + (List.filter (fun t => !decide (t < T - W)) (List.drop (k + 1) l)).length = c + ((List.filter (fun t => !decide (t < T - W)) (List.drop (k + 1) l)).length + 1) by omega]
theorem of_cases (v : Int32) (S1 : Mem) : ((v = 0 ∨ v = 1 ∨ v = 2 ∨ v = 3 ∨ v = 4 ∨ v = 5 ∨ v = 6 ∨ v = 7 ∨ v = 8 ∨ v = 9 ∨ v = 10 ∨ v = 11 ∨ v = 12 ∨ v = 13) ∧ fm_in v 0 13 S1 = some 1) ∨ ((v ≠ 0 ∧ v ≠ 1 ∧ v ≠ 2 ∧ v ≠ 3 ∧ v ≠ 4 ∧ v ≠ 5 ∧ v ≠ 6 ∧ v ≠ 7 ∧ v ≠ 8 ∧ v ≠ 9 ∧ v ≠ 10 ∧ v ≠ 11 ∧ v ≠ 12 ∧ v ≠ 13) ∧ fm_in v 0 13 S1 = some 0) := by
  rw [in_ok]
  rcases nn_cases v with hv | ⟨n, hn, rfl⟩
  · refine Or.inr ⟨?_, by rw [if_neg (fun q => q.1 hv)]⟩
    refine ⟨?_, ?_, ?_, ?_, ?_, ?_, ?_, ?_, ?_, ?_, ?_, ?_, ?_, ?_⟩ <;> (intro q; rw [q] at hv; exact absurd hv (by decide))
  · by_cases c1 : n ≤ 13
    · refine Or.inl ⟨?_, by rw [if_pos ⟨n_neg hn, fun q => by rw [show (13 : Int32) = Int32.ofNat 13 from rfl, n_lt (by decide) hn] at q; omega⟩]⟩
      have : n = 0 ∨ n = 1 ∨ n = 2 ∨ n = 3 ∨ n = 4 ∨ n = 5 ∨ n = 6 ∨ n = 7 ∨ n = 8 ∨ n = 9 ∨ n = 10 ∨ n = 11 ∨ n = 12 ∨ n = 13 := by omega
      rcases this with rfl | rfl | rfl | rfl | rfl | rfl | rfl | rfl | rfl | rfl | rfl | rfl | rfl | rfl <;> decide
    · have hne : ∀ k, k ≤ 13 → Int32.ofNat n ≠ Int32.ofNat k := fun k hk q => by
        rw [n_inj hn (by omega)] at q
        omega
      refine Or.inr ⟨⟨hne 0 (by decide), hne 1 (by decide), hne 2 (by decide), hne 3 (by decide), hne 4 (by decide), hne 5 (by decide), hne 6 (by decide), hne 7 (by decide), hne 8 (by decide), hne 9 (by decide), hne 10 (by decide), hne 11 (by decide), hne 12 (by decide), hne 13 (by decide)⟩, ?_⟩
      rw [if_neg (fun q => q.2 (by rw [show (13 : Int32) = Int32.ofNat 13 from rfl, n_lt (by decide) hn]; omega))]
theorem e_of (h : REL S w ik bl hd) (v1 v2 : Int32) : ∃ r, fx_of v1 v2 S = some r ∧ fm_of v1 v2 S = some (r, S) := by
  have hI := h.2.2.1.1
  have h12 := hI.1
  unfold fx_of fm_of
  rcases actor_cases h v1 with ⟨a, ha, ha12, rfl, e1, e2⟩ | ⟨e1, e2⟩
  · have hA := h.1.1.2.2.1 a ha
    have hM := h.2.1.1.2.2.1 a ha
    have hx := hI.fit ha
    obtain ⟨l1, l2, l3, l4, l5, l6, l7⟩ := lnA (Or.inl rfl : IsW 1) ha12
    obtain ⟨tl, t1, t2, t3, t4⟩ := h.2.1.1.tl hI
    have x6 : fn_at (1 + 12 + 13 * a + 1) ((S (1 + 12 + 13 * a + 1) 1) - 1) S = some (sDoes (wA w a)) := w_does_ok (Or.inl rfl) ha h.1.1 hI
    have y6 : fm_doing (Int32.ofNat a) S = some (sDoes (wA w a)) := by
      have := m_doing_ok (S := S) h.2.1.1 hI ha
      rwa [gM_eta] at this
    have x11 : fc_countOf 3 (Int32.ofNat a) S = some (Int32.ofNat ((wT w).filter fun q => q.1 == Int32.ofNat a).length) := c_count_ok (Int32.ofNat a) (lnW (Or.inl rfl : IsW 1)).1 h.1.1.2.2.2.1 hI.2.2.1.1
    have y11 : fm_timersOf (Int32.ofNat a) S = some (Int32.ofNat ((wT w).filter fun q => q.1 == Int32.ofNat a).length) := by
      have := m_tof_loop (S := S) (en := 0) (a := a) t1 t3 tl.length LF 0 0 (Nat.zero_add _) (by show _ < 3000; omega)
      rw [Nat.zero_add, List.drop_zero] at this
      rw [t2, ← tSort_filter, tSort_len]
      exact this
    have x12 : fn_countFrom (1 + 12 + 13 * a + 11) (wI w 6 - aI (wA w a) 4) S = some (Int32.ofNat ((aNot (wA w a)).filter fun q => !decide (q < wI w 6 - aI (wA w a) 4)).length) := n_count_ok _ hA.2.2.2.2.2 (by rw [l7]; exact hx.2.2.2.2) (by rw [l7]; decide)
    have y12 : fm_noted (Int32.ofNat a) 0 S = some (Int32.ofNat ((aNot (wA w a)).filter fun q => !decide (q < wI w 6 - aI (wA w a) 4)).length, S) := by
      have := m_note0_loop (S := S) (p := a) (T := wI w 6) (W := aI (wA w a) 4) ha12 hx.2.2.2.2 h.2.1.1.2.1.1 hM.1.2.2.2.2.1 hM.2.2.2.2.2.2 (aNot (wA w a)).length LF 0 0 (Nat.zero_add _) (by have := hx.2.2.2.2; show _ < 3000; omega)
      rw [Nat.zero_add, List.drop_zero] at this
      unfold fm_noted
      rw [a64 ha12, obs, hM.2.2.2.2.2.1]
      exact this
    have x13 : fw_childBits 1 (Int32.ofNat a) S = some (sBits (fun b => decide (aI (wA w b) 0 = Int32.ofNat a)) (wN w) 0 0) := w_childBits_ok h.1.1 hI
    have y13 : fm_childrenOf (Int32.ofNat a) S = some (sBits (fun b => decide (aI (wA w b) 0 = Int32.ofNat a)) (wN w) 0 0) := by
      have := m_childrenOf_ok (S := S) (v := Int32.ofNat a) h.2.1.1 hI
      rwa [gM_eta] at this
    rw [e1, obs, if_neg n10, ix_n ha12 (by decide), obs, e2, obs, if_neg n10, x6, y6, x11, y11, hA.1 4 (by decide), h.1.1.2.1 6 (by decide) (by decide), x12, y12, x13, y13, hA.1 0 (by decide), hA.1 1 (by decide), hA.1 2 (by decide), hA.1 3 (by decide), hA.1 6 (by decide), hA.2.1.1, hA.2.2.1.1, hA.2.2.2.1.1, hA.2.2.2.2.1.1, a0 ha12, a7 ha12, a13 ha12, a38 ha12, a51 ha12, hM.1.1, hM.2.1.1, hM.2.2.1.1, hM.2.2.2.1.1, hM.2.2.2.2.1.1]
    simp only [obs, bd_some]
    rcases of_cases v2 S with ⟨hc, hin⟩ | ⟨⟨c0, c1, c2, c3, c4, c5, c6, c7, c8, c9, c10, c11, c12, c13⟩, hin⟩
    · rw [hin, obs, if_neg n10]
      rcases hc with rfl | rfl | rfl | rfl | rfl | rfl | rfl | rfl | rfl | rfl | rfl | rfl | rfl | rfl
      · rw [if_pos rfl, if_pos rfl]
        rcases (hI.2.1 a ha).1 with ⟨-, q⟩ | ⟨b, hb, q⟩
        · rw [q, if_pos rfl, if_neg (by decide)]
          exact ⟨_, rfl, rfl⟩
        · rw [q, if_neg (neg1_ne (by omega)), if_pos (nn0 (by omega))]
          exact ⟨_, rfl, rfl⟩
      · simp only [if_neg (show ¬ (1 : Int32) = 0 by decide), if_pos (show (1 : Int32) = 1 from rfl)]
        rw [a1 ha12, obs, hM.1.2.1]
        exact ⟨_, rfl, rfl⟩
      · simp only [if_neg (show ¬ (2 : Int32) = 0 by decide), if_neg (show ¬ (2 : Int32) = 1 by decide), if_pos (show (2 : Int32) = 2 from rfl)]
        rw [a2 ha12, obs, hM.1.2.2.1]
        exact ⟨_, rfl, rfl⟩
      · simp only [if_neg (show ¬ (3 : Int32) = 0 by decide), if_neg (show ¬ (3 : Int32) = 1 by decide), if_neg (show ¬ (3 : Int32) = 2 by decide), if_pos (show (3 : Int32) = 3 from rfl)]
        rw [a3 ha12, obs, hM.1.2.2.2.1]
        exact ⟨_, rfl, rfl⟩
      · simp only [if_neg (show ¬ (4 : Int32) = 0 by decide), if_neg (show ¬ (4 : Int32) = 1 by decide), if_neg (show ¬ (4 : Int32) = 2 by decide), if_neg (show ¬ (4 : Int32) = 3 by decide), if_pos (show (4 : Int32) = 4 from rfl)]
        rw [a4 ha12, obs, hM.1.2.2.2.2.1]
        exact ⟨_, rfl, rfl⟩
      · simp only [if_neg (show ¬ (5 : Int32) = 0 by decide), if_neg (show ¬ (5 : Int32) = 1 by decide), if_neg (show ¬ (5 : Int32) = 2 by decide), if_neg (show ¬ (5 : Int32) = 3 by decide), if_neg (show ¬ (5 : Int32) = 4 by decide), if_pos (show (5 : Int32) = 5 from rfl)]
        rw [a5 ha12, obs, hM.1.2.2.2.2.2.1]
        rcases hI.b ha with q | q
        · rw [q, if_pos rfl]
          exact ⟨_, rfl, rfl⟩
        · rw [q, if_neg n10]
          exact ⟨_, rfl, rfl⟩
      all_goals exact ⟨_, rfl, rfl⟩
    · rw [hin, obs, if_pos rfl, if_neg c0, if_neg c1, if_neg c2, if_neg c3, if_neg c4, if_neg c5, if_neg c6, if_neg c7, if_neg c8, if_neg c9, if_neg c10, if_neg c11, if_neg c12, if_neg c13]
      exact ⟨_, rfl, rfl⟩
  · rw [e1, obs, if_pos rfl, e2, obs, if_pos rfl]
    exact ⟨_, rfl, rfl⟩
/-! how many timers are ahead of one -/
def rkU (d : Nat → Int32) (t : Nat) : Nat → Nat
  | 0 => 0
  | k + 1 => rkU d t k + (if d k < d t ∨ (d k = d t ∧ k < t) then 1 else 0)
theorem tw_filter (x : Int32) : ∀ (l : List Tmr), tSorted l → (l.takeWhile fun q => decide (q.2.1 ≤ x)).length = (l.filter fun q => decide (q.2.1 ≤ x)).length
  | [], _ => rfl
  | q :: l, hs => by
    have hs2 := List.pairwise_cons.mp hs
    by_cases e : q.2.1 ≤ x
    · rw [List.takeWhile_cons_of_pos (by simpa using e), List.filter_cons_of_pos (by simpa using e), List.length_cons, List.length_cons, tw_filter x l hs2.2]
    · rw [List.takeWhile_cons_of_neg (by simpa using e), List.filter_cons_of_neg (by simpa using e)]
      have : l.filter (fun q => decide (q.2.1 ≤ x)) = [] := List.filter_eq_nil_iff.mpr fun r hr p => by
        have p2 : r.2.1 ≤ x := by simpa using p
        exact e (Int32.le_trans (hs2.1 r hr) p2)
      rw [this]
theorem tIns_at {x : Tmr} {L : List Tmr} (j : Nat) : (tIns x L)[j]? = if j < (L.takeWhile fun q => decide (q.2.1 ≤ x.2.1)).length then L[j]? else if j = (L.takeWhile fun q => decide (q.2.1 ≤ x.2.1)).length then some x else L[j - 1]? := by
  obtain ⟨t1, t2⟩ := tw_len (fun q : Tmr => decide (q.2.1 ≤ x.2.1)) L
  have hle : (L.takeWhile fun q => decide (q.2.1 ≤ x.2.1)).length ≤ L.length := (List.takeWhile_sublist _).length_le
  unfold tIns
  rw [t2]
  obtain ⟨r, hr⟩ : ∃ r, r = (L.takeWhile fun q => decide (q.2.1 ≤ x.2.1)).length := ⟨_, rfl⟩
  by_cases c1 : j < r
  · rw [← hr, if_pos c1, List.getElem?_append_left (by omega), t1, List.getElem?_take_of_lt (by omega)]
  · rw [List.getElem?_append_right (by omega), ← hr, if_neg c1]
    by_cases c2 : j = r
    · rw [if_pos c2, c2, Nat.sub_self]
      rfl
    · rw [if_neg c2, show j - r = (j - r - 1) + 1 by omega, List.getElem?_cons_succ, List.getElem?_drop, show r + (j - r - 1) = j - 1 by omega]
theorem tSort_sorted (tl : List Tmr) : tSorted (tSort tl) := by
  have h : ∀ (tl l : List Tmr), tSorted l → tSorted (tl.foldl (fun l t => tIns t l) l) := by
    intro tl
    induction tl with
    | nil => intro l h; exact h
    | cons t tl ih => intro l h; exact ih _ (tIns_sorted h)
  exact h tl [] List.Pairwise.nil
theorem rk_self {tl : List Tmr} {d : Nat → Int32} {k : Nat} (hk : k < tl.length) (hd : ∀ q x, tl[q]? = some x → x.2.1 = d q) : ∀ j, j ≤ k → rkU d k j = ((tl.take j).filter fun q => decide (q.2.1 ≤ d k)).length
  | 0, _ => rfl
  | j + 1, h => by
    have hx : tl[j]? = some tl[j] := List.getElem?_eq_getElem (by omega)
    have hdj := hd j _ hx
    show rkU d k j + (if d j < d k ∨ (d j = d k ∧ j < k) then 1 else 0) = _
    rw [rk_self hk hd j (by omega), take_s hx, List.filter_append, List.length_append]
    congr 1
    by_cases e : d j ≤ d k
    · rw [List.filter_cons_of_pos (by rw [hdj]; simpa using e), if_pos]
      · rfl
      · by_cases e2 : d j = d k
        · exact Or.inr ⟨e2, by omega⟩
        · exact Or.inl (Int32.lt_of_le_of_ne e e2)
    · rw [List.filter_cons_of_neg (by rw [hdj]; simpa using e), if_neg]
      · rfl
      · rintro (q | q)
        · exact e (Int32.le_of_lt q)
        · exact e (by rw [q.1]; exact Int32.le_refl _)
theorem rk_ok {tl : List Tmr} {d : Nat → Int32} (hd : ∀ q x, tl[q]? = some x → x.2.1 = d q) : ∀ k, k ≤ tl.length → (∀ t, t < k → (tSort (tl.take k))[rkU d t k]? = tl[t]?) ∧ (∀ i, i < k → ∃ t, t < k ∧ rkU d t k = i)
  | 0, _ => ⟨fun t h => absurd h (Nat.not_lt_zero _), fun i h => absurd h (Nat.not_lt_zero _)⟩
  | k + 1, h => by
    obtain ⟨ih1, ih2⟩ := rk_ok hd k (by omega)
    have hx : tl[k]? = some tl[k] := List.getElem?_eq_getElem (by omega)
    have hdk := hd k _ hx
    have hsrt := tSort_sorted (tl.take k)
    have hL : tSort (tl.take (k + 1)) = tIns tl[k] (tSort (tl.take k)) := by rw [take_s hx, tSort_snoc]
    have hlen : (tSort (tl.take k)).length = k := by rw [tSort_len, List.length_take]; omega
    obtain ⟨r, hr⟩ : ∃ r, r = ((tSort (tl.take k)).takeWhile fun q => decide (q.2.1 ≤ tl[k].2.1)).length := ⟨_, rfl⟩
    have hrk : rkU d k k = r := by
      rw [rk_self (by omega) hd k (Nat.le_refl _), hr, tw_filter _ _ hsrt, ← tSort_filter, tSort_len, hdk]
    have hrk1 : rkU d k (k + 1) = r := by
      show rkU d k k + (if d k < d k ∨ (d k = d k ∧ k < k) then 1 else 0) = r
      rw [if_neg (fun q => by
        rcases q with q | q
        · rw [Int32.lt_iff_toInt_lt] at q
          omega
        · exact absurd q.2 (Nat.lt_irrefl _)), hrk]
      rfl
    have hold : ∀ t, t < k → (d k < d t → r ≤ rkU d t k ∧ rkU d t (k + 1) = rkU d t k + 1) ∧ (¬ d k < d t → rkU d t k < r ∧ rkU d t (k + 1) = rkU d t k) := fun t ht => by
      have hxt : tl[t]? = some tl[t] := List.getElem?_eq_getElem (by omega)
      have hdt := hd t _ hxt
      have hi := ih1 t ht
      rw [hxt] at hi
      refine ⟨fun q => ⟨?_, ?_⟩, fun q => ⟨?_, ?_⟩⟩
      · by_cases c : r ≤ rkU d t k
        · exact c
        · have := tw_lo (fun q : Tmr => decide (q.2.1 ≤ tl[k].2.1)) (tSort (tl.take k)) (rkU d t k) tl[t] (by omega) hi
          have p : tl[t].2.1 ≤ tl[k].2.1 := by simpa using this
          rw [hdt, hdk] at p
          exact absurd q (Int32.not_lt.mpr p)
      · show rkU d t k + (if d k < d t ∨ (d k = d t ∧ k < t) then 1 else 0) = _
        rw [if_pos (Or.inl q)]
      · by_cases c : rkU d t k < r
        · exact c
        · have := tw_hi tl[k] (tSort (tl.take k)) hsrt (rkU d t k) tl[t] (by omega) hi
          rw [hdt, hdk] at this
          exact absurd (Int32.not_lt.mp q) this
      · show rkU d t k + (if d k < d t ∨ (d k = d t ∧ k < t) then 1 else 0) = _
        rw [if_neg (fun p => by
          rcases p with p | p
          · exact q p
          · omega)]
        rfl
    refine ⟨fun t ht => ?_, fun i hi => ?_⟩
    · rw [hL, tIns_at, ← hr]
      by_cases e : t = k
      · rw [e, hrk1, if_neg (Nat.lt_irrefl _), if_pos rfl, hx]
      · obtain ⟨o1, o2⟩ := hold t (by omega)
        by_cases c : d k < d t
        · obtain ⟨p1, p2⟩ := o1 c
          rw [p2, if_neg (by omega), if_neg (by omega), Nat.add_sub_cancel]
          exact ih1 t (by omega)
        · obtain ⟨p1, p2⟩ := o2 c
          rw [p2, if_pos p1]
          exact ih1 t (by omega)
    · have hrk2 : r ≤ k := by
        have q := (List.takeWhile_sublist (l := tSort (tl.take k)) (fun q => decide (q.2.1 ≤ tl[k].2.1))).length_le
        rw [hlen, ← hr] at q
        exact q
      by_cases c1 : i = r
      · exact ⟨k, Nat.lt_succ_self _, by rw [c1]; exact hrk1⟩
      · by_cases c2 : i < r
        · obtain ⟨t, t1, t2⟩ := ih2 i (by omega)
          obtain ⟨o1, o2⟩ := hold t t1
          refine ⟨t, by omega, ?_⟩
          by_cases c : d k < d t
          · have := (o1 c).1
            omega
          · rw [(o2 c).2, t2]
        · obtain ⟨t, t1, t2⟩ := ih2 (i - 1) (by omega)
          obtain ⟨o1, o2⟩ := hold t t1
          refine ⟨t, by omega, ?_⟩
          by_cases c : d k < d t
          · rw [(o1 c).2, t2]
            omega
          · have := (o2 c).1
            omega
theorem m_rank_loop {tl : List Tmr} {k17 : Int32 → Int32 → Int32 → Mem → Option Int32} {v1 v2 : Int32} {t : Nat} (hT : TM (S 698) tl) (hl : tl.length ≤ 10) (ht : t < tl.length) : ∀ (m n k : Nat), k + m = tl.length → m < n → fm_timer_51 k17 n v1 v2 (Int32.ofNat t) (Int32.ofNat (rkU (fun q => S 698 (932 + 3 * q + 1)) t k)) (S 698 (932 + 3 * t + 1)) (Int32.ofNat k) S = if Int32.ofNat (rkU (fun q => S 698 (932 + 3 * q + 1)) t tl.length) = v1 then ((ald S 698 ((932 + (3 * Int32.ofNat t)) + v2)).bind fun x2 => if v2 = 2 then (some (x2 + 100)) else (some (x2 + 0))) else (k17 v1 v2 (Int32.ofNat (t + 1)) S)
  | _, 0, _, _, h => absurd h (Nat.not_lt_zero _)
  | 0, n + 1, k, h, _ => by
    have e : k = tl.length := by omega
    subst e
    show fm_timer_51b k17 (fm_timer_51 k17 n) _ _ _ _ _ (Int32.ofNat tl.length) S = _
    unfold fm_timer_51b
    rw [v931, obs, hT.1, if_pos ((n_le (by omega) (by omega)).mpr (Nat.le_refl _)), n_succ]
  | m + 1, n + 1, k, h, hn => by
    have hk : k < tl.length := by omega
    have hs : rkU (fun q => S 698 (932 + 3 * q + 1)) t (k + 1) = rkU (fun q => S 698 (932 + 3 * q + 1)) t k + (if S 698 (932 + 3 * k + 1) < S 698 (932 + 3 * t + 1) ∨ (S 698 (932 + 3 * k + 1) = S 698 (932 + 3 * t + 1) ∧ k < t) then 1 else 0) := rfl
    have ih := m_rank_loop (k17 := k17) (v1 := v1) (v2 := v2) hT hl ht m n (k + 1) (by omega) (by omega)
    rw [hs] at ih
    show fm_timer_51b k17 (fm_timer_51 k17 n) _ _ _ _ _ (Int32.ofNat k) S = _
    unfold fm_timer_51b
    rw [v931, obs, hT.1, if_neg (fun q => by rw [n_le (by omega) (by omega)] at q; omega), i932t1, v_v (by omega), obs, n_succ, n_succ, show Int32.ofNat (rkU (fun q => S 698 (932 + 3 * q + 1)) t k) + 0 = Int32.ofNat (rkU (fun q => S 698 (932 + 3 * q + 1)) t k) from Int32.add_zero _]
    by_cases c1 : S 698 (932 + 3 * k + 1) < S 698 (932 + 3 * t + 1)
    · rw [if_pos (Or.inl c1)] at ih
      rw [if_pos c1]
      exact ih
    · rw [if_neg c1]
      by_cases c2 : S 698 (932 + 3 * k + 1) = S 698 (932 + 3 * t + 1)
      · rw [if_pos c2]
        by_cases c3 : t ≤ k
        · rw [if_neg (fun q => by
            rcases q with q | q
            · exact c1 q
            · omega)] at ih
          rw [if_pos ((n_le (by omega) (by omega)).mpr c3)]
          exact ih
        · rw [if_pos (Or.inr ⟨c2, by omega⟩)] at ih
          rw [if_neg (fun q => c3 ((n_le (by omega) (by omega)).mp q))]
          exact ih
      · rw [if_neg (fun q => by
          rcases q with q | q
          · exact c1 q
          · exact c2 q.1)] at ih
        rw [if_neg c2]
        exact ih
theorem m_timer_loop {tl : List Tmr} {v2 : Int32} {i : Nat} (hT : TM (S 698) tl) (hl : tl.length ≤ 10) (hi : i < 2 ^ 31) (R : Int32) (hR : ∀ t, t < tl.length → rkU (fun q => S 698 (932 + 3 * q + 1)) t tl.length = i → ((ald S 698 ((932 + (3 * Int32.ofNat t)) + v2)).bind fun x2 => if v2 = 2 then (some (x2 + 100)) else (some (x2 + 0))) = some R) (hno : (∀ t, t < tl.length → rkU (fun q => S 698 (932 + 3 * q + 1)) t tl.length ≠ i) → R = -2) : ∀ (m n k : Nat), k + m = tl.length → m < n → (∀ t, t < k → rkU (fun q => S 698 (932 + 3 * q + 1)) t tl.length ≠ i) → fm_timer_17 n (Int32.ofNat i) v2 (Int32.ofNat k) S = some R
  | _, 0, _, _, h, _ => absurd h (Nat.not_lt_zero _)
  | 0, n + 1, k, h, _, hk => by
    have e : k = tl.length := by omega
    subst e
    show fm_timer_17b (fm_timer_17 n) _ _ (Int32.ofNat tl.length) S = _
    unfold fm_timer_17b
    rw [v931, obs, hT.1, if_pos ((n_le (by omega) (by omega)).mpr (Nat.le_refl _)), hno hk]
  | m + 1, n + 1, k, h, hn, hk => by
    have hkl : k < tl.length := by omega
    have hrl : rkU (fun q => S 698 (932 + 3 * q + 1)) k tl.length < 2 ^ 31 := by
      have : ∀ j, rkU (fun q => S 698 (932 + 3 * q + 1)) k j ≤ j := fun j => by
        induction j with
        | zero => exact Nat.le_refl _
        | succ j ih =>
          show rkU (fun q => S 698 (932 + 3 * q + 1)) k j + _ ≤ _
          split <;> omega
      have := this tl.length
      omega
    show fm_timer_17b (fm_timer_17 n) _ _ (Int32.ofNat k) S = _
    unfold fm_timer_17b
    have h0 := m_rank_loop (S := S) (k17 := fm_timer_17 n) (v1 := Int32.ofNat i) (v2 := v2) hT hl hkl tl.length LF 0 (Nat.zero_add _) (by show _ < 3000; omega)
    rw [v931, obs, hT.1, if_neg (fun q => by rw [n_le (by omega) (by omega)] at q; omega), i932t1, v_v (by omega), obs]
    refine Eq.trans h0 ?_
    by_cases c : rkU (fun q => S 698 (932 + 3 * q + 1)) k tl.length = i
    · rw [if_pos ((n_inj hrl hi).mpr c)]
      exact hR k hkl c
    · rw [if_neg (fun q => c ((n_inj hrl hi).mp q))]
      exact m_timer_loop hT hl hi R hR hno m n (k + 1) (by omega) (by omega) fun t ht => by
        by_cases e : t = k
        · rw [e]
          exact c
        · exact hk t (by omega)
theorem e_timer (h : REL S w ik bl hd) (v1 v2 : Int32) : ∃ r, fx_timer v1 v2 S = some r ∧ fm_timer v1 v2 S = some r := by
  have hI := h.2.2.1.1
  obtain ⟨tl, t1, t2, t3, t4⟩ := h.2.1.1.tl hI
  have hRT : RT S 3 (wT w) := h.1.1.2.2.2.1
  have ho := (lnW (Or.inl rfl : IsW 1)).1
  have hlen := hI.2.2.1.1
  unfold fx_timer fm_timer
  rcases nn_cases v1 with hv | ⟨i, hi, rfl⟩
  · rw [if_pos hv, if_pos hv]
    exact ⟨_, rfl, rfl⟩
  · rw [if_neg (n_neg hi), if_neg (n_neg hi)]
    rcases in02 v2 S with ⟨c1, c2, c3, c4⟩ | ⟨c1, c2⟩
    · rw [if_neg c1, if_pos c2, c3, obs, if_neg n10, hRT.1]
      have hd : ∀ q x, tl[q]? = some x → x.2.1 = (fun q => S 698 (932 + 3 * q + 1)) q := fun q x hx => by
        have := t1.2 q (List.getElem?_eq_some_iff.mp hx).1
        rw [hx] at this
        rw [Option.some.inj this]
        rfl
      obtain ⟨k1, k2⟩ := rk_ok hd tl.length (Nat.le_refl _)
      rw [List.take_length, ← t2] at k1
      by_cases g : i < (wT w).length
      · have hm : (wT w)[i]? = some (wT w)[i] := List.getElem?_eq_getElem g
        obtain ⟨x, hx⟩ : ∃ x, x = (wT w)[i] := ⟨_, rfl⟩
        rw [← hx] at hm
        have q1 : fc_ownerAt 3 (Int32.ofNat i) S = some x.1 := c_owner_ok ho hRT hm hlen
        have q2 : fc_numberAt 3 (Int32.ofNat i) S = some x.2.2 := c_number_ok ho hRT hm hlen
        have q3 : fc_dueAt 3 (Int32.ofNat i) S = some x.2.1 := c_due_ok ho hRT hm hlen
        have hfind : ∀ t, t < tl.length → rkU (fun q => S 698 (932 + 3 * q + 1)) t tl.length = i → x = tAt (S 698) t := fun t ht hr => by
          have p1 := k1 t ht
          rw [hr, hm, t1.2 t ht] at p1
          exact Option.some.inj p1
        have hno : ∀ R : Int32, (∀ t, t < tl.length → rkU (fun q => S 698 (932 + 3 * q + 1)) t tl.length ≠ i) → R = -2 := fun R q => by
          obtain ⟨t, p1, p2⟩ := k2 i (by omega)
          exact absurd p2 (q t p1)
        rw [if_pos ((n_lt hi (by omega)).mpr g), q1, q2, q3]
        rcases c4 with rfl | rfl | rfl
        · rw [if_pos rfl, obs]
          refine ⟨x.1, rfl, m_timer_loop t1 t3 hi x.1 (fun t ht hr => ?_) (hno _) tl.length LF 0 (Nat.zero_add _) (by show _ < 3000; omega) fun t ht => absurd ht (Nat.not_lt_zero _)⟩
          rw [i932t0, v_v (by omega), obs, if_neg (by decide), Int32.add_zero, hfind t ht hr]
          rfl
        · rw [if_neg n10, if_pos rfl, obs]
          refine ⟨x.2.1, rfl, m_timer_loop t1 t3 hi x.2.1 (fun t ht hr => ?_) (hno _) tl.length LF 0 (Nat.zero_add _) (by show _ < 3000; omega) fun t ht => absurd ht (Nat.not_lt_zero _)⟩
          rw [i932t1, v_v (by omega), obs, if_neg (by decide), Int32.add_zero, hfind t ht hr]
          rfl
        · rw [if_neg (by decide), if_neg (by decide), obs]
          refine ⟨100 + x.2.2, rfl, m_timer_loop t1 t3 hi (100 + x.2.2) (fun t ht hr => ?_) (hno _) tl.length LF 0 (Nat.zero_add _) (by show _ < 3000; omega) fun t ht => absurd ht (Nat.not_lt_zero _)⟩
          rw [i932t2, v_v (by omega), obs, if_pos rfl, hfind t ht hr, Int32.add_comm]
          rfl
      · rw [if_neg (fun q => g ((n_lt hi (by omega)).mp q))]
        have hnone : ∀ t, t < tl.length → rkU (fun q => S 698 (932 + 3 * q + 1)) t tl.length ≠ i := fun t ht hr => by
          have p1 := k1 t ht
          rw [hr, t1.2 t ht] at p1
          exact g (List.getElem?_eq_some_iff.mp p1).1
        exact ⟨-2, rfl, m_timer_loop t1 t3 hi (-2) (fun t ht hr => absurd hr (hnone t ht)) (fun _ => rfl) tl.length LF 0 (Nat.zero_add _) (by show _ < 3000; omega) fun t ht => absurd ht (Nat.not_lt_zero _)⟩
    · rw [c2, obs, if_pos rfl]
      rcases c1 with c1 | ⟨c1, c3⟩
      · rw [if_pos c1]
        exact ⟨_, rfl, rfl⟩
      · rw [if_neg c1, if_neg c3]
        exact ⟨_, rfl, rfl⟩
end
