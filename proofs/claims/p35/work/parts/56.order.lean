/-! 56: calls: order, reach -/
theorem idiv_n {m n : Nat} (hm : m < 2 ^ 31) (hn : 0 < n) (hn2 : n < 2 ^ 31) : Int32.ofNat m / Int32.ofNat n = Int32.ofNat (m / n) := by
  have hx : (Int32.ofNat m).toInt = m := n_int hm
  have hy : (Int32.ofNat n).toInt = n := n_int hn2
  have hle : m / n ≤ m := Nat.div_le_self m n
  apply Int32.toInt_inj.mp
  rw [idiv_int (by omega) (by omega), hx, hy, n_int (by omega)]
  exact (Int.natCast_ediv m n).symm
theorem body_c {b : Int32} (h : okBody b) : ∃ c, c < 1000 ∧ b + 300 = Int32.ofNat c := by
  have h3 : (300 : Int32).toInt = 300 := by decide
  rcases h with h | ⟨k, hk, rfl⟩
  · have h1 := h.1
    have h2 := h.2
    have e : (b + 300).toInt = b.toInt + 300 := by
      rw [Int32.toInt_add, h3]
      apply Int.bmod_eq_of_le_mul_two <;> omega
    refine ⟨(b.toInt + 300).toNat, by omega, ?_⟩
    apply Int32.toInt_inj.mp
    rw [e, n_int (by omega)]
    omega
  · refine ⟨200 + k + 300, by omega, ?_⟩
    rw [show (200 : Int32) = Int32.ofNat 200 from rfl, show (300 : Int32) = Int32.ofNat 300 from rfl, n_add, n_add]
theorem lg_split {a : Nat} {b : Int32} (ha : a < 12) (hb : okBody b) : lgv (Int32.ofNat a, b) / 1000 = Int32.ofNat a ∧ irm (lgv (Int32.ofNat a, b)) 1000 - 300 = b ∧ ¬ lgv (Int32.ofNat a, b) = -2 := by
  obtain ⟨c, hc, ec⟩ := body_c hb
  have e : lgv (Int32.ofNat a, b) = Int32.ofNat (1000 * a + c) := by
    show 1000 * Int32.ofNat a + b + 300 = _
    rw [Int32.add_assoc, ec, show (1000 : Int32) = Int32.ofNat 1000 from rfl, n_mul, n_add]
  rw [e, show (1000 : Int32) = Int32.ofNat 1000 from rfl, idiv_n (by omega) (by decide) (by decide), irm_nat (by omega) (by decide) (by decide), show (1000 * a + c) / 1000 = a by omega, show (1000 * a + c) % 1000 = c by omega, ← ec, Int32.add_sub_cancel]
  refine ⟨rfl, rfl, fun q => ?_⟩
  have h0 : Int32.ofNat (1000 * a + c) < 0 := by rw [q]; decide
  exact n_neg (by omega) h0
theorem succ_ne (x : Int32) : ¬ x + 1 = x := fun h => by
  have e : x + 1 - x = x - x := by rw [h]
  rw [Int32.add_comm, Int32.add_sub_cancel, Int32.sub_self] at e
  exact absurd e (by decide)
theorem step_log {w : Wst} {a : Nat} {m : Msg} {l : List Msg} (hd : sDealer w = some a) (hm : aMail (wA w a) = m :: l) : wL (sStep w 0).1 = (if (wL w).length = 30 then (wL w).tail else wL w) ++ [(Int32.ofNat a, m.2)] ∧ wI (sStep w 0).1 7 = wI w 7 + 1 := by
  have hfx : FX (sTake w a m) (sStep w 0).1 := by
    have h1 : FX (sTake w a m) (dealt w a m).1 := deal_fx _ _ _ _
    rw [step_some hd hm]
    split
    · exact h1
    · exact h1.trans (fail_fx _ _ _ _)
  refine ⟨hfx.1, (hfx.2 7 (by decide)).trans ?_⟩
  show upd (upd (wI w) 5 (Int32.ofNat a)) 7 (wI w 7 + 1) 7 = _
  exact upd_s
theorem step_clock {w : Wst} (hd : sDealer w = none) : wI (sStep w 0).1 7 = wI w 7 := by
  cases ht : wT w with
  | nil => rw [step_nil hd ht]
  | cons t l =>
    rw [step_cons hd ht]
    have h := (sSend_kp (wST (wSI w 6 t.2.1) l) (nu t.1) (-1, t.2.2)).fx.2 7 (by decide)
    exact h
def sOrd (l : List Int32) (N : Nat) : Nat → Nat → Wst → Int32
  | 0, met, _ => if N ≤ met then -2 else Int32.ofNat met
  | j + 1, met, w => if N ≤ met then -2 else if sHas w = true then (match sDealer w with
    | none => sOrd l N j met (sStep w 0).1
    | some a => if l[2 * met]? = some (Int32.ofNat a) ∧ l[2 * met + 1]? = some ((aMail (wA w a)).headD (0, 0)).2 then sOrd l N j (met + 1) (sStep w 0).1 else Int32.ofNat met) else Int32.ofNat met
section
variable {S : Mem} {w : Wst} {ik : Option Wst} {bl : List Int32} {hd : Nat → Hd}
end
