/-! 48: calls: looks at the reference's row, at actors; what is told -/
theorem n10 : ¬ (1 : Int32) = 0 := by decide
theorem delay_n (w : Wst) (a : Nat) (n : Int32) : wN (sDelay w a n) = wN w := by
  unfold sDelay
  split <;> rfl
theorem watch_n (w : Wst) (a : Nat) (n : Int32) : wN (sWatch w a n) = wN w := by
  unfold sWatch
  dsimp only
  repeat' split
  all_goals first
    | rfl
    | exact sSend_n ..
theorem deal_n (w : Wst) (a : Nat) (f b : Int32) : wN (sDeal w a f b).1 = wN w := by
  unfold sDeal
  dsimp only
  repeat' split
  all_goals first
    | rfl
    | exact sPass_n ..
    | exact sSend_n ..
    | exact watch_n ..
    | exact delay_n ..
    | exact (stop_shr 12 w a).1
theorem step_n {w : Wst} {q : Int32} (h : Good w) : wN (sStep w q).1 = wN w := by
  cases hd : sDealer w with
  | some a =>
    obtain ⟨hl, hm⟩ := dealer_some hd
    cases hml : aMail (wA w a) with
    | nil => rw [hml] at hm; exact absurd hm (by decide)
    | cons m l =>
      rw [step_some hd hml]
      have hT := take_good h hl hml
      have hlT : sLive (sTake w a m) a = true := by rw [take_live]; exact hl
      by_cases e : (dealt w a m).2 = 0
      · rw [if_pos e]
        exact deal_n ..
      · rw [if_neg e, show (dealt w a m).1 = sTake w a m from deal_fail e]
        exact (sFail_good hT hlT).2
  | none =>
    cases ht : wT w with
    | nil => rw [step_nil hd ht]
    | cons t l =>
      rw [step_cons hd ht]
      exact sSend_n ..
theorem steps_n : ∀ (k : Nat) (w : Wst), Good w → wN (sSteps k w).1 = wN w
  | 0, _, _ => rfl
  | k + 1, w, hg => by
    have hs : sSteps (k + 1) w = if wI w 10 = 0 then ((sSteps k (wSI (sStep w 0).1 10 (sHow (sStep w 0).1))).1, (sSteps k (wSI (sStep w 0).1 10 (sHow (sStep w 0).1))).2 + 1) else (w, 0) := rfl
    rw [hs]
    split
    · exact (steps_n k _ (Good.int8 (sStep_good hg) (by decide))).trans (step_n hg)
    · rfl
theorem run_n {w : Wst} (k : Nat) (hg : Good w) : wN (sRun w k).1 = wN w := steps_n k _ (Good.int8 hg (by decide))
theorem nn_cases (v : Int32) : v < 0 ∨ ∃ i, i < 2 ^ 31 ∧ v = Int32.ofNat i := by
  by_cases h : v < 0
  · exact Or.inl h
  · exact Or.inr ⟨v.toNatClampNeg, v.toNatClampNeg_lt, n_of (Int32.not_lt.mp h)⟩
theorem le_n {i : Nat} {n : Nat} (hi : i < 2 ^ 31) (hn : n < 2 ^ 31) : (Int32.ofNat n ≤ Int32.ofNat i) = (n ≤ i) := propext (n_le hn hi)
theorem nn0 {i : Nat} (hi : i < 2 ^ 31) : (0 : Int32) ≤ Int32.ofNat i := Int32.not_lt.mp (n_neg hi)
theorem neg0 {v : Int32} (h : v < 0) : ¬ (0 : Int32) ≤ v := Int32.not_le.mpr h
section
variable {S : Mem} {w : Wst} {ik : Option Wst} {bl : List Int32} {hd : Nat → Hd}
theorem msg_sum {b n : Int32} (hb : okBody b) (hn : n = bm b) : (if n < 1000 then some (n + 100) else some ((300 + n) - 1000)) = some (100 + b) := by
  subst hn
  rcases hb with hb | ⟨k, hk, rfl⟩
  · have h2 : okV b := hb
    rw [bm_num h2, if_pos, Int32.add_comm]
    rw [Int32.lt_iff_toInt_lt]
    have : (1000 : Int32).toInt = 1000 := by decide
    have := h2.2
    omega
  · have hge : ¬ 1000 + Int32.ofNat k < 1000 := fun q => by
      rw [show (1000 : Int32) = Int32.ofNat 1000 from rfl, n_add, n_lt (by omega) (by decide)] at q
      omega
    rw [bm_death hk, if_neg hge, Int32.add_comm 1000, ← Int32.add_assoc, Int32.add_sub_cancel, show (300 : Int32) = 100 + 200 from rfl, Int32.add_assoc]
/-! calls that tell -/
theorem kp10 {w w1 : Wst} (h : Kp w w1) : wI w1 10 = wI w 10 := h.2.2.2.2.2 10 (by decide)
end
