/-! 42, piece 3 -/
variable {en : Int32}
theorem fg_51 {S : Mem} {g : Nat → Int32} {k20 : Int32 → Int32 → Int32 → Mem → Option Mem} {v : Int32} {l k : Nat} (hl : l < 10) (hk : k < 10) (hlk : l ≤ k) : fm_forgets_51 k20 LF v (Int32.ofNat l) (Int32.ofNat k) 0 (gM S g) = k20 v (Int32.ofNat l + 1) (Int32.ofNat k + 1) (gM S (mv3 g l k)) := by
  show fm_forgets_51 k20 (2996 + 1 + 1 + 1 + 1) v (Int32.ofNat l) (Int32.ofNat k) (Int32.ofNat 0) (gM S g) = _
  rw [fg_51_step hl hk (by decide), fg_51_step hl hk (by decide), fg_51_step hl hk (by decide)]
  show fm_forgets_51b k20 (fm_forgets_51 k20 2996) v (Int32.ofNat l) (Int32.ofNat k) (Int32.ofNat 3) _ = _
  unfold fm_forgets_51b
  rw [if_pos (by decide)]
  unfold mv3
  rw [Nat.add_zero, Nat.add_zero, upd_n (by omega), upd_n (by omega), upd_n (by omega)]
