/-! 42, piece 2 -/
variable {en : Int32}
theorem fg_51_step {S : Mem} {g : Nat → Int32} {k20 : Int32 → Int32 → Int32 → Mem → Option Mem} {v : Int32} {l k c n : Nat} (hl : l < 10) (hk : k < 10) (hc : c < 3) : fm_forgets_51 k20 (n + 1) v (Int32.ofNat l) (Int32.ofNat k) (Int32.ofNat c) (gM S g) = fm_forgets_51 k20 n v (Int32.ofNat l) (Int32.ofNat k) (Int32.ofNat (c + 1)) (gM S (upd g (932 + 3 * l + c) (g (932 + 3 * k + c)))) := by
  show fm_forgets_51b k20 (fm_forgets_51 k20 n) v (Int32.ofNat l) (Int32.ofNat k) (Int32.ofNat c) (gM S g) = _
  unfold fm_forgets_51b
  rw [if_neg (fun q => by rw [show (3 : Int32) = Int32.ofNat 3 from rfl, n_le (by decide) (by omega)] at q; omega), i932t, n_add, gv (by omega), obs, i932t, n_add, gs (by omega), obs, n_succ]
