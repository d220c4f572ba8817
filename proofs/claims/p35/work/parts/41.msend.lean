/-! 41: the reference: sends, what comes back -/
variable {en : Int32}
theorem snoc_at {α : Type} {l : List α} {x m : α} {i : Nat} (h : (l ++ [x])[i]? = some m) : (i < l.length ∧ l[i]? = some m) ∨ (i = l.length ∧ m = x) := by
  by_cases e : i < l.length
  · rw [List.getElem?_append_left e] at h
    exact Or.inl ⟨e, h⟩
  · have h2 := (List.getElem?_eq_some_iff.mp h).1
    rw [List.length_append] at h2
    have h3 : i < l.length + 1 := h2
    have e2 : i = l.length := by omega
    subst e2
    rw [List.getElem?_append_right (Nat.le_refl _), Nat.sub_self] at h
    exact Or.inr ⟨rfl, (Option.some.inj h).symm⟩
/-- of which cells a message to a is told -/
def mfr (a : Nat) (f g : Nat → Int32) : Prop := ∀ j, j ≠ 927 → (j < 77 * a + 13 ∨ 77 * a + 38 ≤ j) → g j = f j
/-! what comes back -/
def shD (f : Nat → Int32) (o r k M : Nat) : Nat → Int32 := fun j => if o + 2 * r + k ≤ j ∧ j < o + 2 * r + 2 * M then f (j - 2 * r) else f j
def cpU (f : Nat → Int32) (o s k : Nat) : Nat → Int32 := fun j => if o ≤ j ∧ j < o + k then f (s + (j - o)) else f j
theorem shD_step {f : Nat → Int32} {o r k M : Nat} (h : k < 2 * M) : upd (shD f o r (k + 1) M) (o + 2 * r + k) (shD f o r (k + 1) M (o + k)) = shD f o r k M := by
  have e : shD f o r (k + 1) M (o + k) = f (o + k) := by
    unfold shD
    rw [if_neg (by omega)]
  rw [e]
  funext j
  unfold upd shD
  by_cases e1 : j = o + 2 * r + k
  · rw [if_pos e1, if_pos (by omega), show j - 2 * r = o + k by omega]
  · rw [if_neg e1]
    by_cases e2 : o + 2 * r + (k + 1) ≤ j ∧ j < o + 2 * r + 2 * M
    · rw [if_pos e2, if_pos (by omega)]
    · rw [if_neg e2, if_neg (by omega)]
theorem shD_top {f : Nat → Int32} {o r M : Nat} : shD f o r (2 * M) M = f := by
  funext j
  unfold shD
  rw [if_neg (by omega)]
theorem cpU_0 {f : Nat → Int32} {o s : Nat} : cpU f o s 0 = f := by
  funext j
  unfold cpU
  rw [if_neg (by omega)]
theorem cpU_step {f : Nat → Int32} {o s k : Nat} (h : o + k ≤ s) : upd (cpU f o s k) (o + k) (cpU f o s k (s + k)) = cpU f o s (k + 1) := by
  have e : cpU f o s k (s + k) = f (s + k) := by
    unfold cpU
    rw [if_neg (by omega)]
  rw [e]
  funext j
  unfold upd cpU
  by_cases e1 : j = o + k
  · rw [if_pos e1, if_pos (by omega), show s + (j - o) = s + k by omega]
  · rw [if_neg e1]
    by_cases e2 : o ≤ j ∧ j < o + k
    · rw [if_pos e2, if_pos (by omega)]
    · rw [if_neg e2, if_neg (by omega)]
