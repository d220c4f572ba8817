/-! 24: what always holds of a world -/
def okN (n : Nat) (q : Int32) : Prop := ∃ k, k < n ∧ q = Int32.ofNat k
theorem okN.mono {n m : Nat} {q : Int32} (h : okN n q) (hm : n ≤ m) : okN m q := by
  obtain ⟨k, h1, h2⟩ := h
  exact ⟨k, by omega, h2⟩
theorem okN_of {n a : Nat} (h : a < n) : okN n (Int32.ofNat a) := ⟨a, h, rfl⟩
theorem okN_nn {n : Nat} {q : Int32} (h : okN n q) (hn : n < 2 ^ 31) : nu q < n ∧ q = Int32.ofNat (nu q) := by
  obtain ⟨k, h1, rfl⟩ := h
  unfold nu
  rw [n_clamp (by omega)]
  exact ⟨h1, rfl⟩
/-- a number that can be told -/
def okV (v : Int32) : Prop := -99 ≤ v.toInt ∧ v.toInt ≤ 99
/-- a body: a number, or 200 and who died -/
def okBody (v : Int32) : Prop := okV v ∨ ∃ k, k < 12 ∧ v = 200 + Int32.ofNat k
def okM (n : Nat) (m : Msg) : Prop := (m.1 = -1 ∨ okN n m.1) ∧ okBody m.2
theorem okM.mono {n k : Nat} {m : Msg} (h : okM n m) (hm : n ≤ k) : okM k m := ⟨h.1.imp id fun q => q.mono hm, h.2⟩
def okPar (b : Nat) (v : Int32) : Prop := (b = 0 ∧ v = -1) ∨ okN b v
def okA (n b : Nat) (x : Act) : Prop := okPar b (aI x 0) ∧ okN 10 (aI x 1) ∧ okN 3 (aI x 2) ∧ okN 10 (aI x 3) ∧ (okN 51 (aI x 4) ∧ aI x 4 ≠ 0) ∧ IsB x ∧ (1 ≤ (aStk x).length ∧ (aStk x).length ≤ 5 ∧ ∀ q ∈ aStk x, okN 10 q) ∧ ((aMail x).length ≤ 12 ∧ ∀ m ∈ aMail x, okM n m) ∧ ((aStash x).length ≤ 6 ∧ ∀ m ∈ aStash x, okM n m ∧ okV m.2) ∧ ((aWat x).Nodup ∧ ∀ q ∈ aWat x, okN n q) ∧ (aNot x).length ≤ 10
def okT (w : Wst) (t : Tmr) : Prop := okN (wN w) t.1 ∧ okV t.2.2
def okL (m : Msg) : Prop := okN 12 m.1 ∧ okBody m.2
/-- shape -/
def Inv (w : Wst) : Prop := wN w ≤ 12 ∧ (∀ b, b < wN w → okA (wN w) b (wA w b)) ∧ ((wT w).length ≤ 10 ∧ tSorted (wT w) ∧ ∀ t ∈ wT w, okT w t) ∧ ((wL w).length ≤ 30 ∧ ∀ m ∈ wL w, okL m) ∧ ((wC w).length ≤ 12 ∧ ∀ m ∈ wC w, okN 12 m.1) ∧ (wI w 5 = -1 ∨ okN 12 (wI w 5))
/-- who is live has a live parent, timers are of live ones, who is stopped holds nothing -/
def Tree (w : Wst) : Prop := (∀ b, b < wN w → aI (wA w b) 6 = 1 → 0 < b → sLive w (nu (aI (wA w b) 0)) = true) ∧ (∀ t ∈ wT w, sLive w (nu t.1) = true) ∧ (∀ b, b < wN w → aI (wA w b) 6 = 0 → aMail (wA w b) = [] ∧ aNot (wA w b) = [])
/-- budgets -/
def Bud (w : Wst) : Prop := ∀ b, b < wN w → (aNot (wA w b)).length ≤ nu (aI (wA w b) 3)
theorem sLive_lt {w : Wst} {a : Nat} (h : sLive w a = true) : a < wN w ∧ aI (wA w a) 6 = 1 := by
  unfold sLive at h
  simpa using h
theorem sLive_of {w : Wst} {a : Nat} (h1 : a < wN w) (h2 : aI (wA w a) 6 = 1) : sLive w a = true := by
  unfold sLive
  simp [h1, h2]
theorem sLC_of {w : Wst} {c a : Nat} (h : sLC w c a = true) : sLive w c = true ∧ aI (wA w c) 0 = Int32.ofNat a := by
  unfold sLC at h
  simpa using h
/-- as many different ones as there can be -/
theorem nodup_len : ∀ (n : Nat) (l : List Int32), n < 2 ^ 31 → l.Nodup → (∀ q ∈ l, okN n q) → l.length ≤ n
  | 0, [], _, _, _ => Nat.le_refl _
  | 0, q :: l, _, _, h => by
    obtain ⟨k, hk, _⟩ := h q List.mem_cons_self
    omega
  | n + 1, l, hn, hd, h => by
    have h1 := nodup_len n (l.filter fun q => !(q == Int32.ofNat n)) (by omega) (hd.filter _) (fun q hq => by
      rw [List.mem_filter] at hq
      obtain ⟨k, hk, e⟩ := h q hq.1
      refine ⟨k, ?_, e⟩
      have : k ≠ n := fun e2 => by
        rw [e, e2] at hq
        simp at hq
      omega)
    have h2 : ∀ (l : List Int32), l.Nodup → l.length ≤ (l.filter fun q => !(q == Int32.ofNat n)).length + 1 := by
      intro l
      induction l with
      | nil => intro _; simp
      | cons q l ih =>
        intro hd
        have hd2 := List.nodup_cons.mp hd
        by_cases e : q = Int32.ofNat n
        · have : l.filter (fun q => !(q == Int32.ofNat n)) = l := List.filter_eq_self.mpr fun x hx => by
            have : x ≠ Int32.ofNat n := fun e2 => hd2.1 (by rw [e, ← e2]; exact hx)
            simp [this]
          rw [List.filter_cons_of_neg (by simp [e]), this, List.length_cons]
          exact Nat.le_refl _
        · rw [List.filter_cons_of_pos (by simp [e]), List.length_cons, List.length_cons]
          have := ih hd2.2
          omega
    have := h2 l hd
    omega
theorem okA.wat {n b : Nat} {x : Act} (h : okA n b x) (hn : n ≤ 12) : (aWat x).length ≤ 12 := by
  have := nodup_len n (aWat x) (by omega) h.2.2.2.2.2.2.2.2.2.1.1 h.2.2.2.2.2.2.2.2.2.1.2
  omega
