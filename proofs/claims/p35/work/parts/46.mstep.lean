/-! 46: the reference: steps -/
variable {en : Int32}
theorem irm_nat {m n : Nat} (hm : m < 2 ^ 31) (hn : 0 < n) (hn2 : n < 2 ^ 31) : irm (Int32.ofNat m) (Int32.ofNat n) = Int32.ofNat (m % n) := by
  have hy : (Int32.ofNat n).toInt = n := n_int hn2
  have hx : (Int32.ofNat m).toInt = m := n_int hm
  have h1 : (irm (Int32.ofNat m) (Int32.ofNat n)).toInt = (m : Int) % (n : Int) := by
    rw [irm_int (by rw [hy]; omega), hy, hx, tmod_nn (by omega)]
  have h2 : m % n < n := Nat.mod_lt _ hn
  apply Int32.toInt_inj.mp
  rw [h1, n_int (by omega)]
  exact (Int.natCast_emod m n).symm
theorem next12 {w : Wst} {k : Nat} (hI : Inv w) (h1 : 1 ≤ k) (h2 : k ≤ 12) : irm ((wI w 5 + Int32.ofNat k) + 12) 12 = sNextK w k := by
  unfold sNextK
  rw [n12]
  have h : ∃ x, x ≤ 24 ∧ wI w 5 + Int32.ofNat k = Int32.ofNat x := by
    rcases hI.2.2.2.2.2 with e | ⟨j, hj, e⟩
    · obtain ⟨k', rfl⟩ : ∃ k', k = k' + 1 := ⟨k - 1, by omega⟩
      refine ⟨k', by omega, ?_⟩
      rw [e, Int32.add_comm, n_pred, n_sub1]
    · exact ⟨j + k, by omega, by rw [e, n_add]⟩
  obtain ⟨x, hx, e⟩ := h
  rw [e, n_add, irm_nat (by omega) (by decide) (by decide), irm_nat (by omega) (by decide) (by decide), Nat.add_mod_right]
def mN (q : Option Nat) : Int32 := match q with | some a => Int32.ofNat a | none => -2
/-! the first timer -/
def ftOK (tl : List Tmr) (k : Nat) (best : Int32) : Prop := (k = 0 ∧ best = -2) ∨ ∃ i t, best = Int32.ofNat i ∧ i < k ∧ tl[i]? = some t ∧ tSort (tl.take k) = t :: tSort ((tl.take k).eraseIdx i)
/-! cells shifted down -/
def shG (f : Nat → Int32) (lo hi d : Nat) : Nat → Int32 := fun j => if lo ≤ j ∧ j < hi then f (j + d) else f j
theorem shG_0 {f : Nat → Int32} {lo d : Nat} : shG f lo lo d = f := by
  funext j
  unfold shG
  rw [if_neg (by omega)]
theorem shG_step {f : Nat → Int32} {lo hi d : Nat} (h : lo ≤ hi) : upd (shG f lo hi d) hi (shG f lo hi d (hi + d)) = shG f lo (hi + 1) d := by
  have e : shG f lo hi d (hi + d) = f (hi + d) := by
    unfold shG
    rw [if_neg (by omega)]
  rw [e]
  funext j
  unfold upd shG
  by_cases e1 : j = hi
  · rw [if_pos e1, if_pos (by omega), e1]
  · rw [if_neg e1]
    by_cases e2 : lo ≤ j ∧ j < hi
    · rw [if_pos e2, if_pos (by omega)]
    · rw [if_neg e2, if_neg (by omega)]
theorem shG_in {f : Nat → Int32} {lo hi d j : Nat} (h1 : lo ≤ j) (h2 : j < hi) : shG f lo hi d j = f (j + d) := by
  unfold shG
  rw [if_pos ⟨h1, h2⟩]
theorem shG_out {f : Nat → Int32} {lo hi d j : Nat} (h : j < lo ∨ hi ≤ j) : shG f lo hi d j = f j := by
  unfold shG
  rw [if_neg (by omega)]
/-! the log -/
/-! a step -/
/-- what was dealt with in a step, as the reference keeps it -/
def sTold (w : Wst) : Int32 := match sDealer w with
  | some a => lgv (Int32.ofNat a, ((aMail (wA w a)).headD (0, 0)).2)
  | none => -2
/-! runs -/
theorem how_has {w : Wst} (h : sHow w = 0) : sHas w = true := by
  unfold sHow at h
  split at h
  · exact absurd h (by decide)
  · split at h
    · assumption
    · exact absurd h (by decide)
theorem next10 (w : Wst) (v : Int32) : ∀ (m k : Nat), sNext (wSI w 10 v) m k = sNext w m k
  | 0, _ => rfl
  | m + 1, k => by
    show (if sLive w (nu (sNextK w k)) = true ∧ 0 < (aMail (wA w (nu (sNextK w k)))).length then some (nu (sNextK w k)) else sNext (wSI w 10 v) m (k + 1)) = (if sLive w (nu (sNextK w k)) = true ∧ 0 < (aMail (wA w (nu (sNextK w k)))).length then some (nu (sNextK w k)) else sNext w m (k + 1))
    rw [next10 w v m (k + 1)]
theorem has10 (w : Wst) (v : Int32) : sHas (wSI w 10 v) = sHas w := by
  unfold sHas sDealer
  rw [next10]
  rfl
theorem how10 (w : Wst) (v : Int32) : sHow (wSI w 10 v) = sHow w := by
  unfold sHow
  rw [has10]
  rfl
theorem how10u (w : Wst) : wI (wSI w 10 (sHow w)) 10 = sHow (wSI w 10 (sHow w)) := by
  rw [how10]
  show upd (wI w) 10 (sHow w) 10 = sHow w
  exact upd_s
