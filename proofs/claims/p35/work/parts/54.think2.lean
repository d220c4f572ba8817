/-! 54: calls in thought: brings, dry, first, quiet -/
section
variable {S : Mem} {w : Wst} {ik : Option Wst} {bl : List Int32} {hd : Nat → Hd}
/-! dry -/
/-! first -/
def sFst : Nat → Nat → Wst → Int32
  | 0, _, _ => -2
  | k + 1, i, w => if sHas w = true then (if (sStep w 0).2.1 = true then Int32.ofNat i else sFst k (i + 1) (sStep w 0).1) else -2
/-! quiet -/
def sQui : Nat → Nat → Wst → Int32
  | 0, i, w => if sHas w = true then -2 else Int32.ofNat i
  | k + 1, i, w => if sHas w = true then sQui k (i + 1) (sStep w 0).1 else Int32.ofNat i
theorem x_quiet_loop : ∀ (k n i : Nat) (w : Wst) (S : Mem), i + k = 200 → k < n → Good w → RW S 169 w → ∃ S1, fx_quiet_13 n (Int32.ofNat i) S = some (sQui k i w, S1) ∧ Only (inW 169) S S1
  | _, 0, _, _, _, _, h, _, _ => absurd h (Nat.not_lt_zero _)
  | 0, n + 1, i, w, S, h, _, hg, hR => by
    have e : i = 200 := by omega
    subst e
    show ∃ S1, fx_quiet_13b (fx_quiet_13 n) (Int32.ofNat 200) S = _ ∧ _
    unfold fx_quiet_13b
    rw [if_pos (by decide), w_has_ok hR hg.1, obs]
    show ∃ S1, _ = some (if sHas w = true then -2 else Int32.ofNat 200, S1) ∧ _
    by_cases e : sHas w = true
    · rw [if_pos e, if_neg n10, if_pos e]
      exact ⟨S, rfl, Only.refl⟩
    · rw [if_neg e, if_pos rfl, if_neg e]
      exact ⟨S, rfl, Only.refl⟩
  | k + 1, n + 1, i, w, S, h, hn, hg, hR => by
    have hs : sQui (k + 1) i w = if sHas w = true then sQui k (i + 1) (sStep w 0).1 else Int32.ofNat i := rfl
    obtain ⟨S1, q1, q2, q3, q4, q5⟩ := w_step_ok (Or.inr (Or.inl rfl) : IsW 169) hR hg
    rw [(step_q w (S 169 12) 0).1] at q2
    show ∃ S1, fx_quiet_13b (fx_quiet_13 n) (Int32.ofNat i) S = _ ∧ _
    unfold fx_quiet_13b
    rw [hs, if_neg (fun q => by rw [show (200 : Int32) = Int32.ofNat 200 from rfl, n_le (by decide) (by omega)] at q; omega), q1, bd_some]
    by_cases e : sHas w = true
    · obtain ⟨S2, p1, p2⟩ := x_quiet_loop k n (i + 1) (sStep w 0).1 S1 (by omega) (by omega) (sStep_good hg) q2
      rw [if_pos e, if_neg n10, if_pos e, n_succ]
      exact ⟨S2, p1, q3.trans p2⟩
    · rw [if_neg e, if_pos rfl, if_neg e]
      exact ⟨S1, rfl, q3⟩
end
