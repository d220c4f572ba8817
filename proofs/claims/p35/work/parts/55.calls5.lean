/-! 55: calls: of, timer -/
section
variable {S : Mem} {w : Wst} {ik : Option Wst} {bl : List Int32} {hd : Nat → Hd}
/-! how many timers are ahead of one -/
def rkU (d : Nat → Int32) (t : Nat) : Nat → Nat
  | 0 => 0
  | k + 1 => rkU d t k + (if d k < d t ∨ (d k = d t ∧ k < t) then 1 else 0)
theorem tw_filter (x : Int32) : ∀ (l : List Tmr), tSorted l → (l.takeWhile fun q => decide (q.2.1 ≤ x)).length = (l.filter fun q => decide (q.2.1 ≤ x)).length
  | [], _ => rfl
  | q :: l, hs => by
    have hs2 := List.pairwise_cons.mp hs
    by_cases e : q.2.1 ≤ x
    · rw [List.takeWhile_cons_of_pos (by simpa using e), List.filter_cons_of_pos (by simpa using e), List.length_cons, List.length_cons, tw_filter x l hs2.2]
    · rw [List.takeWhile_cons_of_neg (by simpa using e), List.filter_cons_of_neg (by simpa using e)]
      have : l.filter (fun q => decide (q.2.1 ≤ x)) = [] := List.filter_eq_nil_iff.mpr fun r hr p => by
        have p2 : r.2.1 ≤ x := by simpa using p
        exact e (Int32.le_trans (hs2.1 r hr) p2)
      rw [this]
theorem tIns_at {x : Tmr} {L : List Tmr} (j : Nat) : (tIns x L)[j]? = if j < (L.takeWhile fun q => decide (q.2.1 ≤ x.2.1)).length then L[j]? else if j = (L.takeWhile fun q => decide (q.2.1 ≤ x.2.1)).length then some x else L[j - 1]? := by
  obtain ⟨t1, t2⟩ := tw_len (fun q : Tmr => decide (q.2.1 ≤ x.2.1)) L
  have hle : (L.takeWhile fun q => decide (q.2.1 ≤ x.2.1)).length ≤ L.length := (List.takeWhile_sublist _).length_le
  unfold tIns
  rw [t2]
  obtain ⟨r, hr⟩ : ∃ r, r = (L.takeWhile fun q => decide (q.2.1 ≤ x.2.1)).length := ⟨_, rfl⟩
  by_cases c1 : j < r
  · rw [← hr, if_pos c1, List.getElem?_append_left (by omega), t1, List.getElem?_take_of_lt (by omega)]
  · rw [List.getElem?_append_right (by omega), ← hr, if_neg c1]
    by_cases c2 : j = r
    · rw [if_pos c2, c2, Nat.sub_self]
      rfl
    · rw [if_neg c2, show j - r = (j - r - 1) + 1 by omega, List.getElem?_cons_succ, List.getElem?_drop, show r + (j - r - 1) = j - 1 by omega]
theorem rk_self {tl : List Tmr} {d : Nat → Int32} {k : Nat} (hk : k < tl.length) (hd : ∀ q x, tl[q]? = some x → x.2.1 = d q) : ∀ j, j ≤ k → rkU d k j = ((tl.take j).filter fun q => decide (q.2.1 ≤ d k)).length
  | 0, _ => rfl
  | j + 1, h => by
    have hx : tl[j]? = some tl[j] := List.getElem?_eq_getElem (by omega)
    have hdj := hd j _ hx
    show rkU d k j + (if d j < d k ∨ (d j = d k ∧ j < k) then 1 else 0) = _
    rw [rk_self hk hd j (by omega), take_s hx, List.filter_append, List.length_append]
    congr 1
    by_cases e : d j ≤ d k
    · rw [List.filter_cons_of_pos (by rw [hdj]; simpa using e), if_pos]
      · rfl
      · by_cases e2 : d j = d k
        · exact Or.inr ⟨e2, by omega⟩
        · exact Or.inl (Int32.lt_of_le_of_ne e e2)
    · rw [List.filter_cons_of_neg (by rw [hdj]; simpa using e), if_neg]
      · rfl
      · rintro (q | q)
        · exact e (Int32.le_of_lt q)
        · exact e (by rw [q.1]; exact Int32.le_refl _)
end
