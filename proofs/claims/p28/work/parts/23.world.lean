/-! 23: an actor, a world of the class -/
def IsW (W : Nat) : Prop := W = 1 ∨ W = 169 ∨ W = 337 ∨ W = 505
def RA (S : Mem) (A : Nat) (x : Act) : Prop := (∀ k, k < 7 → S A k = aI x k) ∧ RN S (A + 1) (aStk x) ∧ RP S (A + 3) (aMail x) ∧ RP S (A + 6) (aStash x) ∧ RN S (A + 9) (aWat x) ∧ RN S (A + 11) (aNot x)
theorem RA.congr {S S1 : Mem} {A : Nat} {x : Act} (h : RA S A x) (hc : ∀ b, A ≤ b → b < A + 13 → S1 b = S b) : RA S1 A x := by
  obtain ⟨h1, h2, h3, h4, h5, h6⟩ := h
  refine ⟨fun k hk => by rw [hc A (by omega) (by omega)]; exact h1 k hk, h2.congr (hc _ (by omega) (by omega)) (hc _ (by omega) (by omega)), h3.congr (hc _ (by omega) (by omega)) (hc _ (by omega) (by omega)) (hc _ (by omega) (by omega)), h4.congr (hc _ (by omega) (by omega)) (hc _ (by omega) (by omega)) (hc _ (by omega) (by omega)), h5.congr (hc _ (by omega) (by omega)) (hc _ (by omega) (by omega)), h6.congr (hc _ (by omega) (by omega)) (hc _ (by omega) (by omega))⟩
/-- one row of it anew, the rest as it was -/
theorem RA.stk {S S1 : Mem} {A : Nat} {x : Act} {l : List Int32} (h : RA S A x) (hl : RN S1 (A + 1) l) (ho : Only (cN (A + 1)) S S1) : RA S1 A (aSStk x l) := by
  obtain ⟨h1, h2, h3, h4, h5, h6⟩ := h
  have hc : ∀ b, b ≠ A + 1 → b ≠ A + 1 + 1 → S1 b = S b := fun b q1 q2 => ho b fun q => q.elim q1 q2
  refine ⟨fun k hk => by rw [hc A (by omega) (by omega)]; exact h1 k hk, hl, h3.congr (hc _ (by omega) (by omega)) (hc _ (by omega) (by omega)) (hc _ (by omega) (by omega)), h4.congr (hc _ (by omega) (by omega)) (hc _ (by omega) (by omega)) (hc _ (by omega) (by omega)), h5.congr (hc _ (by omega) (by omega)) (hc _ (by omega) (by omega)), h6.congr (hc _ (by omega) (by omega)) (hc _ (by omega) (by omega))⟩
theorem RA.mail {S S1 : Mem} {A : Nat} {x : Act} {l : List Msg} (h : RA S A x) (hl : RP S1 (A + 3) l) (ho : Only (cP (A + 3)) S S1) : RA S1 A (aSMail x l) := by
  obtain ⟨h1, h2, h3, h4, h5, h6⟩ := h
  have hc : ∀ b, b ≠ A + 3 → b ≠ A + 3 + 1 → b ≠ A + 3 + 2 → S1 b = S b := fun b q1 q2 q3 => ho b fun q => q.elim q1 fun q => q.elim q2 q3
  refine ⟨fun k hk => by rw [hc A (by omega) (by omega) (by omega)]; exact h1 k hk, h2.congr (hc _ (by omega) (by omega) (by omega)) (hc _ (by omega) (by omega) (by omega)), hl, h4.congr (hc _ (by omega) (by omega) (by omega)) (hc _ (by omega) (by omega) (by omega)) (hc _ (by omega) (by omega) (by omega)), h5.congr (hc _ (by omega) (by omega) (by omega)) (hc _ (by omega) (by omega) (by omega)), h6.congr (hc _ (by omega) (by omega) (by omega)) (hc _ (by omega) (by omega) (by omega))⟩
theorem RA.stash {S S1 : Mem} {A : Nat} {x : Act} {l : List Msg} (h : RA S A x) (hl : RP S1 (A + 6) l) (ho : Only (cP (A + 6)) S S1) : RA S1 A (aSStash x l) := by
  obtain ⟨h1, h2, h3, h4, h5, h6⟩ := h
  have hc : ∀ b, b ≠ A + 6 → b ≠ A + 6 + 1 → b ≠ A + 6 + 2 → S1 b = S b := fun b q1 q2 q3 => ho b fun q => q.elim q1 fun q => q.elim q2 q3
  refine ⟨fun k hk => by rw [hc A (by omega) (by omega) (by omega)]; exact h1 k hk, h2.congr (hc _ (by omega) (by omega) (by omega)) (hc _ (by omega) (by omega) (by omega)), h3.congr (hc _ (by omega) (by omega) (by omega)) (hc _ (by omega) (by omega) (by omega)) (hc _ (by omega) (by omega) (by omega)), hl, h5.congr (hc _ (by omega) (by omega) (by omega)) (hc _ (by omega) (by omega) (by omega)), h6.congr (hc _ (by omega) (by omega) (by omega)) (hc _ (by omega) (by omega) (by omega))⟩
theorem RA.wat {S S1 : Mem} {A : Nat} {x : Act} {l : List Int32} (h : RA S A x) (hl : RN S1 (A + 9) l) (ho : Only (cN (A + 9)) S S1) : RA S1 A (aSWat x l) := by
  obtain ⟨h1, h2, h3, h4, h5, h6⟩ := h
  have hc : ∀ b, b ≠ A + 9 → b ≠ A + 9 + 1 → S1 b = S b := fun b q1 q2 => ho b fun q => q.elim q1 q2
  refine ⟨fun k hk => by rw [hc A (by omega) (by omega)]; exact h1 k hk, h2.congr (hc _ (by omega) (by omega)) (hc _ (by omega) (by omega)), h3.congr (hc _ (by omega) (by omega)) (hc _ (by omega) (by omega)) (hc _ (by omega) (by omega)), h4.congr (hc _ (by omega) (by omega)) (hc _ (by omega) (by omega)) (hc _ (by omega) (by omega)), hl, h6.congr (hc _ (by omega) (by omega)) (hc _ (by omega) (by omega))⟩
theorem RA.notes {S S1 : Mem} {A : Nat} {x : Act} {l : List Int32} (h : RA S A x) (hl : RN S1 (A + 11) l) (ho : Only (cN (A + 11)) S S1) : RA S1 A (aSNot x l) := by
  obtain ⟨h1, h2, h3, h4, h5, h6⟩ := h
  have hc : ∀ b, b ≠ A + 11 → b ≠ A + 11 + 1 → S1 b = S b := fun b q1 q2 => ho b fun q => q.elim q1 q2
  refine ⟨fun k hk => by rw [hc A (by omega) (by omega)]; exact h1 k hk, h2.congr (hc _ (by omega) (by omega)) (hc _ (by omega) (by omega)), h3.congr (hc _ (by omega) (by omega)) (hc _ (by omega) (by omega)) (hc _ (by omega) (by omega)), h4.congr (hc _ (by omega) (by omega)) (hc _ (by omega) (by omega)) (hc _ (by omega) (by omega)), h5.congr (hc _ (by omega) (by omega)) (hc _ (by omega) (by omega)), hl⟩
theorem RA.int {S : Mem} {A k : Nat} {x : Act} {v : Int32} (h : RA S A x) : RA (up2 S A k v) A (aSI x k v) := by
  obtain ⟨h1, h2, h3, h4, h5, h6⟩ := h
  have hc : ∀ b, b ≠ A → up2 S A k v b = S b := fun b q => up2_off q
  refine ⟨fun j hj => ?_, h2.congr (hc _ (by omega)) (hc _ (by omega)), h3.congr (hc _ (by omega)) (hc _ (by omega)) (hc _ (by omega)), h4.congr (hc _ (by omega)) (hc _ (by omega)) (hc _ (by omega)), h5.congr (hc _ (by omega)) (hc _ (by omega)), h6.congr (hc _ (by omega)) (hc _ (by omega))⟩
  show _ = upd (aI x) k v j
  unfold upd
  by_cases e : j = k
  · rw [if_pos e, e, up2_self]
  · rw [if_neg e, up2_nf e]
    exact h1 j hj
def inA (A : Nat) : Nat → Prop := fun b => A ≤ b ∧ b < A + 13
theorem cN_inA {A k : Nat} (hk : k < 12) : ∀ b, cN (A + k) b → inA A b := fun b h => by
  rcases h with h | h <;> exact ⟨by omega, by omega⟩
theorem cP_inA {A k : Nat} (hk : k < 11) : ∀ b, cP (A + k) b → inA A b := fun b h => by
  rcases h with h | h | h <;> exact ⟨by omega, by omega⟩
def RW (S : Mem) (W : Nat) (w : Wst) : Prop := S W 4 = Int32.ofNat (wN w) ∧ (∀ k, 5 ≤ k → k ≤ 10 → S W k = wI w k) ∧ (∀ a, a < wN w → RA S (W + 12 + 13 * a) (wA w a)) ∧ RT S (W + 2) (wT w) ∧ RP S (W + 6) (wL w) ∧ RP S (W + 9) (wC w)
def inW (W : Nat) : Nat → Prop := fun b => W ≤ b ∧ b < W + 168
theorem inA_inW {W a : Nat} (ha : a < 12) : ∀ b, inA (W + 12 + 13 * a) b → inW W b := fun b h => ⟨by have := h.1; omega, by have := h.2; omega⟩
/-- of the cells outside nothing changed, of the world's own no flag -/
def OW (W : Nat) (S S1 : Mem) : Prop := Only (inW W) S S1 ∧ ∀ k, 10 < k → S1 W k = S W k
theorem OW.refl {W : Nat} {S : Mem} : OW W S S := ⟨Only.refl, fun _ _ => rfl⟩
theorem OW.trans {W : Nat} {S S1 S2 : Mem} (h : OW W S S1) (k : OW W S1 S2) : OW W S S2 := ⟨h.1.trans k.1, fun j hj => (k.2 j hj).trans (h.2 j hj)⟩
theorem OW.cell {W : Nat} {S S1 : Mem} {P : Nat → Prop} (h : Only P S S1) (hP : ∀ b, P b → inW W b ∧ b ≠ W) : OW W S S1 := ⟨h.mono fun b hb => (hP b hb).1, fun k _ => by rw [h W fun q => (hP W q).2 rfl]⟩
theorem OW.up {W k : Nat} {S S1 : Mem} {v : Int32} (h : OW W S S1) (hk : k ≤ 10) : OW W S (up2 S1 W k v) := ⟨h.1.up ⟨Nat.le_refl _, by omega⟩, fun j hj => by rw [up2_nf (by omega)]; exact h.2 j hj⟩
theorem OW.up2 {W b k : Nat} {S S1 : Mem} {v : Int32} (h : OW W S S1) (hb : inW W b ∧ b ≠ W) : OW W S (up2 S1 b k v) := ⟨h.1.up hb.1, fun j hj => by rw [up2_ne (Ne.symm hb.2)]; exact h.2 j hj⟩
theorem inA_W {W a : Nat} (ha : a < 12) : ∀ b, inA (W + 12 + 13 * a) b → inW W b ∧ b ≠ W := fun b h => ⟨inA_inW ha b h, by have := h.1; omega⟩
theorem cT_W {W : Nat} : ∀ b, cT (W + 2) b → inW W b ∧ b ≠ W := fun b h => by
  rcases h with h | h | h | h <;> exact ⟨⟨by omega, by omega⟩, by omega⟩
theorem cP_W {W k : Nat} (hk : 0 < k) (hk2 : k < 160) : ∀ b, cP (W + k) b → inW W b ∧ b ≠ W := fun b h => by
  rcases h with h | h | h <;> exact ⟨⟨by omega, by omega⟩, by omega⟩
theorem RW.congr {S S1 : Mem} {W : Nat} {w : Wst} (h : RW S W w) (hn : wN w ≤ 12) (hc : ∀ b, inW W b → S1 b = S b) : RW S1 W w := by
  obtain ⟨h1, h2, h3, h4, h5, h6⟩ := h
  have hW : S1 W = S W := hc W ⟨Nat.le_refl _, by omega⟩
  refine ⟨by rw [hW]; exact h1, fun k q1 q2 => by rw [hW]; exact h2 k q1 q2, fun a ha => (h3 a ha).congr fun b q1 q2 => hc b ⟨by omega, by omega⟩, h4.congr (hc _ ⟨by omega, by omega⟩) (hc _ ⟨by omega, by omega⟩) (hc _ ⟨by omega, by omega⟩) (hc _ ⟨by omega, by omega⟩), h5.congr (hc _ ⟨by omega, by omega⟩) (hc _ ⟨by omega, by omega⟩) (hc _ ⟨by omega, by omega⟩), h6.congr (hc _ ⟨by omega, by omega⟩) (hc _ ⟨by omega, by omega⟩) (hc _ ⟨by omega, by omega⟩)⟩
theorem RW.act {S S1 : Mem} {W a : Nat} {w : Wst} {x : Act} (h : RW S W w) (hx : RA S1 (W + 12 + 13 * a) x) (ho : Only (inA (W + 12 + 13 * a)) S S1) : RW S1 W (wSA w a x) := by
  obtain ⟨h1, h2, h3, h4, h5, h6⟩ := h
  have hc : ∀ b, (b < W + 12 + 13 * a ∨ W + 12 + 13 * a + 13 ≤ b) → S1 b = S b := fun b hb => ho b fun q => by have := q.1; have := q.2; omega
  have hW : S1 W = S W := hc W (Or.inl (by omega))
  refine ⟨by rw [hW]; exact h1, fun k q1 q2 => by rw [hW]; exact h2 k q1 q2, fun b hb => ?_, h4.congr (hc _ (Or.inl (by omega))) (hc _ (Or.inl (by omega))) (hc _ (Or.inl (by omega))) (hc _ (Or.inl (by omega))), h5.congr (hc _ (Or.inl (by omega))) (hc _ (Or.inl (by omega))) (hc _ (Or.inl (by omega))), h6.congr (hc _ (Or.inl (by omega))) (hc _ (Or.inl (by omega))) (hc _ (Or.inl (by omega)))⟩
  show RA S1 (W + 12 + 13 * b) (xup (wA w) a x b)
  unfold xup
  by_cases e : b = a
  · rw [if_pos e, e]
    exact hx
  · rw [if_neg e]
    exact (h3 b hb).congr fun q q1 q2 => hc q (by omega)
theorem RW.int {S : Mem} {W k : Nat} {w : Wst} {v : Int32} (h : RW S W w) (hk : k ≠ 4) : RW (up2 S W k v) W (wSI w k v) := by
  obtain ⟨h1, h2, h3, h4, h5, h6⟩ := h
  have hc : ∀ b, b ≠ W → up2 S W k v b = S b := fun b q => up2_off q
  refine ⟨by rw [up2_nf (Ne.symm hk)]; exact h1, fun j q1 q2 => ?_, fun a ha => (h3 a ha).congr fun b q1 q2 => hc b (by omega), h4.congr (hc _ (by omega)) (hc _ (by omega)) (hc _ (by omega)) (hc _ (by omega)), h5.congr (hc _ (by omega)) (hc _ (by omega)) (hc _ (by omega)), h6.congr (hc _ (by omega)) (hc _ (by omega)) (hc _ (by omega))⟩
  show _ = upd (wI w) k v j
  unfold upd
  by_cases e : j = k
  · rw [if_pos e, e, up2_self]
  · rw [if_neg e, up2_nf e]
    exact h2 j q1 q2
/-- a flag: no part of it -/
theorem RW.flag {S : Mem} {W k : Nat} {w : Wst} {v : Int32} (h : RW S W w) (hk : 10 < k) : RW (up2 S W k v) W w := by
  obtain ⟨h1, h2, h3, h4, h5, h6⟩ := h
  have hc : ∀ b, b ≠ W → up2 S W k v b = S b := fun b q => up2_off q
  exact ⟨by rw [up2_nf (by omega)]; exact h1, fun j q1 q2 => by rw [up2_nf (by omega)]; exact h2 j q1 q2, fun a ha => (h3 a ha).congr fun b q1 q2 => hc b (by omega), h4.congr (hc _ (by omega)) (hc _ (by omega)) (hc _ (by omega)) (hc _ (by omega)), h5.congr (hc _ (by omega)) (hc _ (by omega)) (hc _ (by omega)), h6.congr (hc _ (by omega)) (hc _ (by omega)) (hc _ (by omega))⟩
theorem RW.tim {S S1 : Mem} {W : Nat} {w : Wst} {l : List Tmr} (h : RW S W w) (hl : RT S1 (W + 2) l) (ho : Only (cT (W + 2)) S S1) : RW S1 W (wST w l) := by
  obtain ⟨h1, h2, h3, h4, h5, h6⟩ := h
  have hc : ∀ b, (b < W + 2 ∨ W + 6 ≤ b) → S1 b = S b := fun b hb => ho b fun q => by rcases q with q | q | q | q <;> omega
  have hW : S1 W = S W := hc W (Or.inl (by omega))
  exact ⟨by rw [hW]; exact h1, fun k q1 q2 => by rw [hW]; exact h2 k q1 q2, fun a ha => (h3 a ha).congr fun b q1 q2 => hc b (by omega), hl, h5.congr (hc _ (by omega)) (hc _ (by omega)) (hc _ (by omega)), h6.congr (hc _ (by omega)) (hc _ (by omega)) (hc _ (by omega))⟩
theorem RW.log {S S1 : Mem} {W : Nat} {w : Wst} {l : List Msg} (h : RW S W w) (hl : RP S1 (W + 6) l) (ho : Only (cP (W + 6)) S S1) : RW S1 W (wSL w l) := by
  obtain ⟨h1, h2, h3, h4, h5, h6⟩ := h
  have hc : ∀ b, (b < W + 6 ∨ W + 9 ≤ b) → S1 b = S b := fun b hb => ho b fun q => by rcases q with q | q | q <;> omega
  have hW : S1 W = S W := hc W (Or.inl (by omega))
  exact ⟨by rw [hW]; exact h1, fun k q1 q2 => by rw [hW]; exact h2 k q1 q2, fun a ha => (h3 a ha).congr fun b q1 q2 => hc b (by omega), h4.congr (hc _ (by omega)) (hc _ (by omega)) (hc _ (by omega)) (hc _ (by omega)), hl, h6.congr (hc _ (by omega)) (hc _ (by omega)) (hc _ (by omega))⟩
theorem RW.cau {S S1 : Mem} {W : Nat} {w : Wst} {l : List Msg} (h : RW S W w) (hl : RP S1 (W + 9) l) (ho : Only (cP (W + 9)) S S1) : RW S1 W (wSC w l) := by
  obtain ⟨h1, h2, h3, h4, h5, h6⟩ := h
  have hc : ∀ b, (b < W + 9 ∨ W + 12 ≤ b) → S1 b = S b := fun b hb => ho b fun q => by rcases q with q | q | q <;> omega
  have hW : S1 W = S W := hc W (Or.inl (by omega))
  exact ⟨by rw [hW]; exact h1, fun k q1 q2 => by rw [hW]; exact h2 k q1 q2, fun a ha => (h3 a ha).congr fun b q1 q2 => hc b (by omega), h4.congr (hc _ (by omega)) (hc _ (by omega)) (hc _ (by omega)) (hc _ (by omega)), h5.congr (hc _ (by omega)) (hc _ (by omega)) (hc _ (by omega)), hl⟩
theorem lnA_all : ∀ W ∈ [1, 169, 337, 505], (∀ a, a < 12 → ln (W + 12 + 13 * a + 1 + 1) = 5 ∧ ln (W + 12 + 13 * a + 3 + 1) = 12 ∧ ln (W + 12 + 13 * a + 3 + 2) = 12 ∧ ln (W + 12 + 13 * a + 6 + 1) = 6 ∧ ln (W + 12 + 13 * a + 6 + 2) = 6 ∧ ln (W + 12 + 13 * a + 9 + 1) = 12 ∧ ln (W + 12 + 13 * a + 11 + 1) = 10) ∧ ln (W + 2 + 1) = 10 ∧ ln (W + 2 + 2) = 10 ∧ ln (W + 2 + 3) = 10 ∧ ln (W + 6 + 1) = 30 ∧ ln (W + 6 + 2) = 30 ∧ ln (W + 9 + 1) = 12 ∧ ln (W + 9 + 2) = 12 := by decide +kernel
theorem IsW.mem {W : Nat} (h : IsW W) : W ∈ [1, 169, 337, 505] := by
  rcases h with rfl | rfl | rfl | rfl <;> decide
theorem lnA {W a : Nat} (hW : IsW W) (ha : a < 12) : ln (W + 12 + 13 * a + 1 + 1) = 5 ∧ ln (W + 12 + 13 * a + 3 + 1) = 12 ∧ ln (W + 12 + 13 * a + 3 + 2) = 12 ∧ ln (W + 12 + 13 * a + 6 + 1) = 6 ∧ ln (W + 12 + 13 * a + 6 + 2) = 6 ∧ ln (W + 12 + 13 * a + 9 + 1) = 12 ∧ ln (W + 12 + 13 * a + 11 + 1) = 10 := (lnA_all W hW.mem).1 a ha
theorem lnW {W : Nat} (hW : IsW W) : t10 (W + 2) ∧ ln (W + 6 + 1) = 30 ∧ ln (W + 6 + 2) = 30 ∧ ln (W + 9 + 1) = 12 ∧ ln (W + 9 + 2) = 12 := by
  obtain ⟨h1, h2, h3, h4⟩ := (lnA_all W hW.mem).2
  exact ⟨⟨h1, h2, h3⟩, h4⟩
theorem ix_n {a N : Nat} (h : a < N) (hN : N < 2 ^ 31) : ix (Int32.ofNat a) N = some a := by
  unfold ix
  rw [n_clamp (by omega), if_neg (fun q => by
    rcases q with q | q
    · exact n_neg (by omega) q
    · omega)]
/-! looks -/
theorem w_isActor_ok {S : Mem} {W a : Nat} {w : Wst} (h : RW S W w) (hn : wN w ≤ 12) (ha : a < wN w) : fw_isActor W (Int32.ofNat a) S = some 1 := by
  unfold fw_isActor
  rw [h.1, if_neg (n_neg (by omega)), if_neg (fun q => by rw [n_le (by omega) (by omega)] at q; omega), show (12 : Int32) = Int32.ofNat 12 from rfl, if_neg (fun q => by rw [n_le (by omega) (by omega)] at q; omega)]
theorem w_isActor_no {S : Mem} {W : Nat} {w : Wst} {v : Int32} (h : RW S W w) (hv : v < 0 ∨ Int32.ofNat (wN w) ≤ v) : fw_isActor W v S = some 0 := by
  unfold fw_isActor
  rw [h.1]
  by_cases e : v < 0
  · rw [if_pos e]
  · rw [if_neg e, if_pos (hv.resolve_left e)]
def IsB (x : Act) : Prop := aI x 6 = 0 ∨ aI x 6 = 1
theorem w_isLive_ok {S : Mem} {W a : Nat} {w : Wst} (h : RW S W w) (hn : wN w ≤ 12) (ha : a < wN w) (hb : IsB (wA w a)) : fw_isLive W (Int32.ofNat a) S = some (if sLive w a = true then 1 else 0) := by
  unfold fw_isLive
  rw [h.1, if_neg (n_neg (by omega)), if_neg (fun q => by rw [n_le (by omega) (by omega)] at q; omega), show (12 : Int32) = Int32.ofNat 12 from rfl, if_neg (fun q => by rw [n_le (by omega) (by omega)] at q; omega), ix_n (by omega) (by decide), obs, (h.2.2.1 a ha).1 6 (by decide)]
  unfold sLive
  rcases hb with e | e
  · rw [e]
    simp
  · rw [e]
    simp [ha]
theorem w_isLive_no {S : Mem} {W : Nat} {w : Wst} {v : Int32} (h : RW S W w) (hv : v < 0 ∨ Int32.ofNat (wN w) ≤ v) : fw_isLive W v S = some 0 := by
  unfold fw_isLive
  rw [h.1]
  by_cases e : v < 0
  · rw [if_pos e]
  · rw [if_neg e, if_pos (hv.resolve_left e)]
theorem w_isLC_ok {S : Mem} {W c : Nat} {w : Wst} {a : Nat} (h : RW S W w) (hn : wN w ≤ 12) (hc : c < wN w) (hb : IsB (wA w c)) : fw_isLiveChild W (Int32.ofNat c) (Int32.ofNat a) S = some (if sLC w c a = true then 1 else 0) := by
  unfold fw_isLiveChild
  rw [h.1, if_neg (n_neg (by omega)), if_neg (fun q => by rw [n_le (by omega) (by omega)] at q; omega), show (12 : Int32) = Int32.ofNat 12 from rfl, if_neg (fun q => by rw [n_le (by omega) (by omega)] at q; omega), ix_n (by omega) (by decide), obs, (h.2.2.1 c hc).1 6 (by decide), obs, (h.2.2.1 c hc).1 0 (by decide)]
  unfold sLC sLive
  rcases hb with e | e
  · rw [e]
    simp
  · rw [e]
    by_cases e2 : aI (wA w c) 0 = Int32.ofNat a
    · simp [hc, e2]
    · simp [hc, e2]
/-! a message is sent -/
theorem w_send_ok {S : Mem} {W a : Nat} {w : Wst} (m : Msg) (hW : IsW W) (h : RW S W w) (hn : wN w ≤ 12) (ha : a < wN w) (hb : IsB (wA w a)) (hm : (aMail (wA w a)).length ≤ 12) : ∃ S1, fw_send W (Int32.ofNat a) m.1 m.2 S = some (if sLive w a = true ∧ (aMail (wA w a)).length < 12 then 1 else 0, S1) ∧ RW S1 W (sSend w a m) ∧ OW W S S1 := by
  obtain ⟨l1, l2, l3, l4, l5, l6, l7⟩ := lnA hW (show a < 12 by omega)
  have hA := h.2.2.1 a ha
  have e8 : S W 8 = wI w 8 := h.2.1 8 (by decide) (by decide)
  unfold fw_send sSend
  rw [w_isLive_ok h hn ha hb, obs]
  by_cases e : sLive w a = true
  · rw [if_pos e, if_neg (by decide), ix_n (by omega) (by decide), obs]
    by_cases e2 : (aMail (wA w a)).length < 12
    · obtain ⟨S1, g1, g2, g3⟩ := p_add_ok m hA.2.2.1 (by rw [l2]; exact e2) (by rw [l3, l2]) (by rw [l2]; decide)
      rw [g1, bd_some, if_neg (by decide), if_pos ⟨e, e2⟩, if_pos ⟨e, e2⟩]
      exact ⟨S1, rfl, h.act (hA.mail g2 g3) (g3.mono (cP_inA (by decide))), OW.cell g3 fun b hb => inA_W (by omega) b (cP_inA (by decide) b hb)⟩
    · rw [p_add_full m.1 m.2 hA.2.2.1 (by rw [l2]; omega) (by rw [l2]; decide), bd_some, if_pos rfl, obs, if_neg (fun q => e2 q.2), if_neg (fun q => e2 q.2), e8]
      exact ⟨_, rfl, h.int (by decide), OW.refl.up (by decide)⟩
  · rw [if_neg e, if_pos rfl, obs, if_neg (fun q => e q.1), if_neg (fun q => e q.1), e8]
    exact ⟨_, rfl, h.int (by decide), OW.refl.up (by decide)⟩
