/-! 45: the reference: a message dealt with -/
variable {en : Int32}
/-- a timer more -/
theorem tSort_snoc (tl : List Tmr) (t : Tmr) : tSort (tl ++ [t]) = tIns t (tSort tl) := by
  unfold tSort
  rw [List.foldl_append]
  rfl
theorem death_sum (c q : Int32) : c + 100 + (1000 + q) - 1000 = c + (100 + (200 + q - 200)) := by
  have h1 : 200 + q - 200 = q := by rw [Int32.add_comm, Int32.add_sub_cancel]
  rw [h1, Int32.add_comm 1000 q, ← Int32.add_assoc (c + 100) q 1000, Int32.add_sub_cancel, Int32.add_assoc]
