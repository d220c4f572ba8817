/-! 42: the reference: forgets, unwatches -/
variable {en : Int32}
theorem tIns_le {t q : Tmr} {l : List Tmr} (h : q.2.1 ≤ t.2.1) : tIns t (q :: l) = q :: tIns t l := by
  unfold tIns
  rw [List.takeWhile_cons_of_pos (by simpa using h), List.dropWhile_cons_of_pos (by simpa using h)]
  rfl
theorem tIns_gt {t q : Tmr} {l : List Tmr} (h : ¬ q.2.1 ≤ t.2.1) : tIns t (q :: l) = t :: q :: l := by
  unfold tIns
  rw [List.takeWhile_cons_of_neg (by simpa using h), List.dropWhile_cons_of_neg (by simpa using h)]
  rfl
theorem tIns_all {t : Tmr} {l : List Tmr} (h : ∀ q ∈ l, ¬ q.2.1 ≤ t.2.1) : tIns t l = t :: l := by
  cases l with
  | nil => rfl
  | cons q l => exact tIns_gt (h q List.mem_cons_self)
theorem tIns_filter (p : Tmr → Bool) (t : Tmr) : ∀ (l : List Tmr), tSorted l → (tIns t l).filter p = if p t = true then tIns t (l.filter p) else l.filter p
  | [], _ => by
    show [t].filter p = if p t = true then [t] else []
    by_cases e : p t = true
    · rw [if_pos e, List.filter_cons_of_pos e, List.filter_nil]
    · rw [if_neg e, List.filter_cons_of_neg e, List.filter_nil]
  | q :: l, hs => by
    have hs2 := List.pairwise_cons.mp hs
    have ih := tIns_filter p t l hs2.2
    by_cases h : q.2.1 ≤ t.2.1
    · rw [tIns_le h]
      by_cases g : p q = true
      · rw [List.filter_cons_of_pos g, List.filter_cons_of_pos g, ih]
        by_cases e : p t = true
        · rw [if_pos e, if_pos e, tIns_le h]
        · rw [if_neg e, if_neg e]
      · rw [List.filter_cons_of_neg g, List.filter_cons_of_neg g, ih]
    · have hall : ∀ r ∈ (q :: l).filter p, ¬ r.2.1 ≤ t.2.1 := fun r hr => by
        rcases List.mem_cons.mp (List.mem_filter.mp hr).1 with e | e
        · rw [e]
          exact h
        · exact fun q2 => h (Int32.le_trans (hs2.1 r e) q2)
      rw [tIns_gt h]
      by_cases e : p t = true
      · rw [if_pos e, List.filter_cons_of_pos e, tIns_all hall]
      · rw [if_neg e, List.filter_cons_of_neg e]
/-- three cells put from k's place to l's -/
def mv3 (g : Nat → Int32) (l k : Nat) : Nat → Int32 := upd (upd (upd g (932 + 3 * l) (g (932 + 3 * k))) (932 + 3 * l + 1) (g (932 + 3 * k + 1))) (932 + 3 * l + 2) (g (932 + 3 * k + 2))
theorem mv3_at {g : Nat → Int32} {l k : Nat} : tAt (mv3 g l k) l = tAt g k := by
  have e1 : mv3 g l k (932 + 3 * l) = g (932 + 3 * k) := by
    unfold mv3
    rw [upd_n (by omega), upd_n (by omega), upd_s]
  have e2 : mv3 g l k (932 + 3 * l + 1) = g (932 + 3 * k + 1) := by
    unfold mv3
    rw [upd_n (by omega), upd_s]
  have e3 : mv3 g l k (932 + 3 * l + 2) = g (932 + 3 * k + 2) := by
    unfold mv3
    rw [upd_s]
  unfold tAt
  rw [e1, e2, e3]
theorem mv3_off {g : Nat → Int32} {l k i : Nat} (h : i ≠ l) : tAt (mv3 g l k) i = tAt g i := by
  unfold tAt mv3
  rw [upd_n (by omega), upd_n (by omega), upd_n (by omega), upd_n (by omega), upd_n (by omega), upd_n (by omega), upd_n (by omega), upd_n (by omega), upd_n (by omega)]
theorem mv3_out {g : Nat → Int32} {l k j : Nat} (h : j < 932 + 3 * l ∨ 932 + 3 * l + 3 ≤ j) : mv3 g l k j = g j := by
  unfold mv3
  rw [upd_n (by omega), upd_n (by omega), upd_n (by omega)]
/-! unwatches -/
