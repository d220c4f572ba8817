/-! 42: the reference: forgets, unwatches -/
variable {en : Int32}
theorem tIns_le {t q : Tmr} {l : List Tmr} (h : q.2.1 ≤ t.2.1) : tIns t (q :: l) = q :: tIns t l := by
  unfold tIns
  rw [List.takeWhile_cons_of_pos (by simpa using h), List.dropWhile_cons_of_pos (by simpa using h)]
  rfl
theorem tIns_gt {t q : Tmr} {l : List Tmr} (h : ¬ q.2.1 ≤ t.2.1) : tIns t (q :: l) = t :: q :: l := by
  unfold tIns
  rw [List.takeWhile_cons_of_neg (by simpa using h), List.dropWhile_cons_of_neg (by simpa using h)]
  rfl
theorem tIns_all {t : Tmr} {l : List Tmr} (h : ∀ q ∈ l, ¬ q.2.1 ≤ t.2.1) : tIns t l = t :: l := by
  cases l with
  | nil => rfl
  | cons q l => exact tIns_gt (h q List.mem_cons_self)
theorem tIns_filter (p : Tmr → Bool) (t : Tmr) : ∀ (l : List Tmr), tSorted l → (tIns t l).filter p = if p t = true then tIns t (l.filter p) else l.filter p
  | [], _ => by
    show [t].filter p = if p t = true then [t] else []
    by_cases e : p t = true
    · rw [if_pos e, List.filter_cons_of_pos e, List.filter_nil]
    · rw [if_neg e, List.filter_cons_of_neg e, List.filter_nil]
  | q :: l, hs => by
    have hs2 := List.pairwise_cons.mp hs
    have ih := tIns_filter p t l hs2.2
    by_cases h : q.2.1 ≤ t.2.1
    · rw [tIns_le h]
      by_cases g : p q = true
      · rw [List.filter_cons_of_pos g, List.filter_cons_of_pos g, ih]
        by_cases e : p t = true
        · rw [if_pos e, if_pos e, tIns_le h]
        · rw [if_neg e, if_neg e]
      · rw [List.filter_cons_of_neg g, List.filter_cons_of_neg g, ih]
    · have hall : ∀ r ∈ (q :: l).filter p, ¬ r.2.1 ≤ t.2.1 := fun r hr => by
        rcases List.mem_cons.mp (List.mem_filter.mp hr).1 with e | e
        · rw [e]
          exact h
        · exact fun q2 => h (Int32.le_trans (hs2.1 r e) q2)
      rw [tIns_gt h]
      by_cases e : p t = true
      · rw [if_pos e, List.filter_cons_of_pos e, tIns_all hall]
      · rw [if_neg e, List.filter_cons_of_neg e]
theorem tSort_filter (p : Tmr → Bool) (tl : List Tmr) : tSort (tl.filter p) = (tSort tl).filter p := by
  have h : ∀ (tl l : List Tmr), tSorted l → (tl.filter p).foldl (fun l t => tIns t l) (l.filter p) = (tl.foldl (fun l t => tIns t l) l).filter p := by
    intro tl
    induction tl with
    | nil => intro l _; rfl
    | cons t tl ih =>
      intro l hl
      show _ = (tl.foldl (fun l t => tIns t l) (tIns t l)).filter p
      rw [← ih (tIns t l) (tIns_sorted hl), tIns_filter p t l hl]
      by_cases e : p t = true
      · rw [List.filter_cons_of_pos e, if_pos e]
        rfl
      · rw [List.filter_cons_of_neg e, if_neg e]
  exact h tl [] List.Pairwise.nil
/-- three cells put from k's place to l's -/
def mv3 (g : Nat → Int32) (l k : Nat) : Nat → Int32 := upd (upd (upd g (932 + 3 * l) (g (932 + 3 * k))) (932 + 3 * l + 1) (g (932 + 3 * k + 1))) (932 + 3 * l + 2) (g (932 + 3 * k + 2))
