/-! 47: class and reference side by side -/
abbrev Hd : Type := Int32 × Int32 × List Int32
def CK (S : Mem) (ik : Option Wst) : Prop := match ik with
  | none => S 0 6 = 0
  | some k => S 0 6 = 1 ∧ RW S 337 k
def CHd (S : Mem) (hd : Nat → Hd) : Prop := ∀ h, h < 6 → S (679 + 3 * h) 1 = (hd h).1 ∧ ((hd h).1 = 1 → S (679 + 3 * h) 2 = (hd h).2.1) ∧ ((hd h).1 = 2 → RN S (679 + 3 * h + 1) (hd h).2.2)
def okH (w : Wst) (x : Hd) : Prop := (x.1 = 0 ∨ x.1 = 1 ∨ x.1 = 2) ∧ (x.1 = 1 → okN (wN w) x.2.1) ∧ (x.1 = 2 → x.2.2.length ≤ 60)
def SG (w : Wst) (ik : Option Wst) (bl : List Int32) (hd : Nat → Hd) : Prop := Good w ∧ (∀ k, ik = some k → Good k) ∧ bl.length ≤ 120 ∧ (∀ q ∈ bl, okN 256 q) ∧ ∀ h, h < 6 → okH w (hd h)
def CR (S : Mem) (w : Wst) (ik : Option Wst) (bl : List Int32) (hd : Nat → Hd) : Prop := RW S 1 w ∧ CK S ik ∧ RN S 674 bl ∧ CHd S hd
theorem CK.congr {S S1 : Mem} {ik : Option Wst} (h : CK S ik) (hg : ∀ k, ik = some k → Good k) (h0 : S1 0 = S 0) (hc : ∀ b, inW 337 b → S1 b = S b) : CK S1 ik := by
  cases ik with
  | none =>
    show S1 0 6 = 0
    rw [h0]
    exact h
  | some k => exact ⟨by rw [h0]; exact h.1, h.2.congr (hg k rfl).1.1 hc⟩
theorem CHd.congr {S S1 : Mem} {hd : Nat → Hd} (h : CHd S hd) (hc : ∀ b, 679 ≤ b → b < 697 → S1 b = S b) : CHd S1 hd := fun j hj => by
  rw [hc _ (by omega) (by omega)]
  exact ⟨(h j hj).1, (h j hj).2.1, fun q => ((h j hj).2.2 q).congr (hc _ (by omega) (by omega)) (hc _ (by omega) (by omega))⟩
theorem CR.congr {S S1 : Mem} {w : Wst} {ik : Option Wst} {bl : List Int32} {hd : Nat → Hd} (h : CR S w ik bl hd) (hs : SG w ik bl hd) (hc : ∀ b, b < 697 → S1 b = S b) : CR S1 w ik bl hd :=
  ⟨h.1.congr hs.1.1.1 fun b q => hc b (by have := q.2; omega), h.2.1.congr hs.2.1 (hc 0 (by decide)) fun b q => hc b (by have := q.2; omega), h.2.2.1.congr (hc _ (by decide)) (hc _ (by decide)), h.2.2.2.congr fun b _ q => hc b q⟩
/-- cells of the class that a world's work leaves as they are -/
def fr (S S1 : Mem) : Prop := ∀ b, (b = 0 ∨ inW 337 b ∨ 673 ≤ b) → S1 b = S b
theorem fr.refl (S : Mem) : fr S S := fun _ _ => rfl
theorem fr.trans {S S1 S2 : Mem} (h : fr S S1) (k : fr S1 S2) : fr S S2 := fun b q => (k b q).trans (h b q)
theorem fr.of {S S1 : Mem} {W : Nat} (hW : W = 1 ∨ W = 169 ∨ W = 505) (h : Only (inW W) S S1) : fr S S1 := fun b q => h b fun p => by
  have p1 := p.1
  have p2 := p.2
  rcases q with q | q | q
  · rcases hW with rfl | rfl | rfl <;> omega
  · have q1 := q.1
    have q2 := q.2
    rcases hW with rfl | rfl | rfl <;> omega
  · rcases hW with rfl | rfl | rfl <;> omega
/-! cells taken -/
def tk (f g : Nat → Int32) : Nat → Int32 := fun j => if j < 1018 then f j else g j
def tkU (f g : Nat → Int32) (k : Nat) : Nat → Int32 := fun j => if j < k then f j else g j
