/-! 42, piece 1 -/
variable {en : Int32}
theorem mv3_at {g : Nat → Int32} {l k : Nat} : tAt (mv3 g l k) l = tAt g k := by
  have e1 : mv3 g l k (932 + 3 * l) = g (932 + 3 * k) := by
    unfold mv3
    rw [upd_n (by omega), upd_n (by omega), upd_s]
  have e2 : mv3 g l k (932 + 3 * l + 1) = g (932 + 3 * k + 1) := by
    unfold mv3
    rw [upd_n (by omega), upd_s]
  have e3 : mv3 g l k (932 + 3 * l + 2) = g (932 + 3 * k + 2) := by
    unfold mv3
    rw [upd_s]
  unfold tAt
  rw [e1, e2, e3]
theorem mv3_off {g : Nat → Int32} {l k i : Nat} (h : i ≠ l) : tAt (mv3 g l k) i = tAt g i := by
  unfold tAt mv3
  rw [upd_n (by omega), upd_n (by omega), upd_n (by omega), upd_n (by omega), upd_n (by omega), upd_n (by omega), upd_n (by omega), upd_n (by omega), upd_n (by omega)]
theorem mv3_out {g : Nat → Int32} {l k j : Nat} (h : j < 932 + 3 * l ∨ 932 + 3 * l + 3 ≤ j) : mv3 g l k j = g j := by
  unfold mv3
  rw [upd_n (by omega), upd_n (by omega), upd_n (by omega)]
