/-! 12: the cells behind the makings: only whole numbers change; a row an instruction over them -/
abbrev Mem : Type := Nat → Nat → Int32
def up2 (S : Mem) (i f : Nat) (v : Int32) : Mem := xup S i (upd (S i) f v)
def wK (k : Nat) : XK := if k < 12 then ([.inl 6, .inr (1, 12), .inl 5, .inr (0, 10), .inr (0, 10), .inr (0, 10), .inl 3, .inr (0, 30), .inr (0, 30), .inl 3, .inr (0, 12), .inr (0, 12)] : List XK).getD k (.inl 9) else ([.inl 0, .inl 2, .inr (0, 5), .inl 3, .inr (0, 12), .inr (0, 12), .inl 3, .inr (0, 6), .inr (0, 6), .inl 2, .inr (0, 12), .inl 2, .inr (0, 10)] : List XK).getD ((k - 12) % 13) (.inl 9)
def K0 (i : Nat) : XK := if i = 0 then .inl 7 else if i < 673 then wK ((i - 1) % 168) else if i < 679 then ([.inl 4, .inl 2, .inr (0, 120), .inl 2, .inr (0, 5), .inr (2, 6)] : List XK).getD (i - 673) (.inl 9) else if i < 697 then ([.inl 1, .inl 2, .inr (0, 60)] : List XK).getD ((i - 679) % 3) (.inl 9) else ([.inl 8, .inr (0, 1018), .inr (0, 1018), .inr (0, 1018), .inr (0, 1018), .inr (0, 26), .inr (0, 120), .inr (0, 6), .inr (0, 6), .inr (0, 6), .inr (3, 6), .inr (0, 60), .inr (0, 60), .inr (0, 60), .inr (0, 60), .inr (0, 60), .inr (0, 60), .inr (0, 12), .inr (0, 12), .inr (0, 5)] : List XK).getD (i - 697) (.inl 9)
def rO (c i f : Nat) : Option Nat := match c with
  | 0 => match f with | 7 => some (i + 1) | 8 => some (i + 3) | 9 => some (i + 6) | 10 => some (i + 9) | 11 => some (i + 11) | _ => none
  | 1 => match f with | 0 => some (i + 1) | _ => none
  | 2 => match f with | 0 => some (i + 1) | _ => none
  | 3 => match f with | 0 => some (i + 1) | 1 => some (i + 2) | _ => none
  | 4 => match f with | 0 => some (i + 1) | 1 => some (i + 3) | _ => none
  | 5 => match f with | 0 => some (i + 1) | 1 => some (i + 2) | 2 => some (i + 3) | _ => none
  | 6 => match f with | 0 => some (i + 1) | 1 => some (i + 2) | 2 => some (i + 6) | 3 => some (i + 9) | _ => none
  | 7 => match f with | 0 => some 1 | 1 => some 169 | 2 => some 337 | 3 => some 505 | 4 => some 673 | 5 => some 678 | _ => none
  | 8 => match f with | 0 => some 698 | 1 => some 699 | 2 => some 700 | 3 => some 701 | 8 => some 702 | 10 => some 703 | 12 => some 704 | 13 => some 705 | 14 => some 706 | 15 => some 707 | 16 => some 714 | 17 => some 715 | 21 => some 716 | _ => none
  | _ => none
def rA (t i j : Nat) : Option Nat := match t with
  | 1 => if j < 12 then some (i + 11 + 13 * j) else none
  | 2 => if j < 6 then some (i + 1 + 3 * j) else none
  | 3 => if j < 6 then some (i + 1 + j) else none
  | _ => none
def R0 (i f : Nat) : Option Nat := match K0 i with
  | .inl c => rO c i f
  | .inr (t, _) => rA t i f
def mk (S : Mem) : XH := (717, 9961, K0, R0, S)
def ln (i : Nat) : Nat := match K0 i with
  | .inr (_, n) => n
  | _ => 0
def Ty (c i : Nat) : Prop := i < 717 ∧ K0 i = .inl c
def Ar (i : Nat) : Prop := i < 717 ∧ K0 i = .inr (0, ln i)

theorem fR_0_7 {i : Nat} (h : Ty 0 i) : R0 i 7 = some (i + 1) := by unfold R0; rw [h.2]; all_goals rfl
theorem fK_0_7 : ∀ i, i < 717 → K0 i = .inl 0 → i + 1 < 717 ∧ K0 (i + 1) = .inl 2 := by decide +kernel
theorem fT_0_7 {i : Nat} (h : Ty 0 i) : Ty 2 (i + 1) := fK_0_7 i h.1 h.2
theorem fR_0_8 {i : Nat} (h : Ty 0 i) : R0 i 8 = some (i + 3) := by unfold R0; rw [h.2]; all_goals rfl
theorem fK_0_8 : ∀ i, i < 717 → K0 i = .inl 0 → i + 3 < 717 ∧ K0 (i + 3) = .inl 3 := by decide +kernel
theorem fT_0_8 {i : Nat} (h : Ty 0 i) : Ty 3 (i + 3) := fK_0_8 i h.1 h.2
theorem fR_0_9 {i : Nat} (h : Ty 0 i) : R0 i 9 = some (i + 6) := by unfold R0; rw [h.2]; all_goals rfl
theorem fK_0_9 : ∀ i, i < 717 → K0 i = .inl 0 → i + 6 < 717 ∧ K0 (i + 6) = .inl 3 := by decide +kernel
theorem fT_0_9 {i : Nat} (h : Ty 0 i) : Ty 3 (i + 6) := fK_0_9 i h.1 h.2
theorem fR_0_10 {i : Nat} (h : Ty 0 i) : R0 i 10 = some (i + 9) := by unfold R0; rw [h.2]; all_goals rfl
theorem fK_0_10 : ∀ i, i < 717 → K0 i = .inl 0 → i + 9 < 717 ∧ K0 (i + 9) = .inl 2 := by decide +kernel
theorem fT_0_10 {i : Nat} (h : Ty 0 i) : Ty 2 (i + 9) := fK_0_10 i h.1 h.2
theorem fR_0_11 {i : Nat} (h : Ty 0 i) : R0 i 11 = some (i + 11) := by unfold R0; rw [h.2]; all_goals rfl
theorem fK_0_11 : ∀ i, i < 717 → K0 i = .inl 0 → i + 11 < 717 ∧ K0 (i + 11) = .inl 2 := by decide +kernel
theorem fT_0_11 {i : Nat} (h : Ty 0 i) : Ty 2 (i + 11) := fK_0_11 i h.1 h.2
theorem fR_1_0 {i : Nat} (h : Ty 1 i) : R0 i 0 = some (i + 1) := by unfold R0; rw [h.2]; all_goals rfl
theorem fK_1_0 : ∀ i, i < 717 → K0 i = .inl 1 → i + 1 < 717 ∧ K0 (i + 1) = .inl 2 := by decide +kernel
theorem fT_1_0 {i : Nat} (h : Ty 1 i) : Ty 2 (i + 1) := fK_1_0 i h.1 h.2
theorem fR_2_0 {i : Nat} (h : Ty 2 i) : R0 i 0 = some (i + 1) := by unfold R0; rw [h.2]; all_goals rfl
theorem fK_2_0 : ∀ i, i < 717 → K0 i = .inl 2 → i + 1 < 717 ∧ K0 (i + 1) = .inr (0, ln (i + 1)) := by decide +kernel
theorem fT_2_0 {i : Nat} (h : Ty 2 i) : Ar (i + 1) := fK_2_0 i h.1 h.2
theorem fR_3_0 {i : Nat} (h : Ty 3 i) : R0 i 0 = some (i + 1) := by unfold R0; rw [h.2]; all_goals rfl
theorem fK_3_0 : ∀ i, i < 717 → K0 i = .inl 3 → i + 1 < 717 ∧ K0 (i + 1) = .inr (0, ln (i + 1)) := by decide +kernel
theorem fT_3_0 {i : Nat} (h : Ty 3 i) : Ar (i + 1) := fK_3_0 i h.1 h.2
theorem fR_3_1 {i : Nat} (h : Ty 3 i) : R0 i 1 = some (i + 2) := by unfold R0; rw [h.2]; all_goals rfl
theorem fK_3_1 : ∀ i, i < 717 → K0 i = .inl 3 → i + 2 < 717 ∧ K0 (i + 2) = .inr (0, ln (i + 2)) := by decide +kernel
theorem fT_3_1 {i : Nat} (h : Ty 3 i) : Ar (i + 2) := fK_3_1 i h.1 h.2
theorem fR_4_0 {i : Nat} (h : Ty 4 i) : R0 i 0 = some (i + 1) := by unfold R0; rw [h.2]; all_goals rfl
theorem fK_4_0 : ∀ i, i < 717 → K0 i = .inl 4 → i + 1 < 717 ∧ K0 (i + 1) = .inl 2 := by decide +kernel
theorem fT_4_0 {i : Nat} (h : Ty 4 i) : Ty 2 (i + 1) := fK_4_0 i h.1 h.2
theorem fR_4_1 {i : Nat} (h : Ty 4 i) : R0 i 1 = some (i + 3) := by unfold R0; rw [h.2]; all_goals rfl
theorem fK_4_1 : ∀ i, i < 717 → K0 i = .inl 4 → i + 3 < 717 ∧ K0 (i + 3) = .inl 2 := by decide +kernel
theorem fT_4_1 {i : Nat} (h : Ty 4 i) : Ty 2 (i + 3) := fK_4_1 i h.1 h.2
theorem fR_5_0 {i : Nat} (h : Ty 5 i) : R0 i 0 = some (i + 1) := by unfold R0; rw [h.2]; all_goals rfl
theorem fK_5_0 : ∀ i, i < 717 → K0 i = .inl 5 → i + 1 < 717 ∧ K0 (i + 1) = .inr (0, ln (i + 1)) := by decide +kernel
theorem fT_5_0 {i : Nat} (h : Ty 5 i) : Ar (i + 1) := fK_5_0 i h.1 h.2
theorem fR_5_1 {i : Nat} (h : Ty 5 i) : R0 i 1 = some (i + 2) := by unfold R0; rw [h.2]; all_goals rfl
theorem fK_5_1 : ∀ i, i < 717 → K0 i = .inl 5 → i + 2 < 717 ∧ K0 (i + 2) = .inr (0, ln (i + 2)) := by decide +kernel
theorem fT_5_1 {i : Nat} (h : Ty 5 i) : Ar (i + 2) := fK_5_1 i h.1 h.2
theorem fR_5_2 {i : Nat} (h : Ty 5 i) : R0 i 2 = some (i + 3) := by unfold R0; rw [h.2]; all_goals rfl
theorem fK_5_2 : ∀ i, i < 717 → K0 i = .inl 5 → i + 3 < 717 ∧ K0 (i + 3) = .inr (0, ln (i + 3)) := by decide +kernel
theorem fT_5_2 {i : Nat} (h : Ty 5 i) : Ar (i + 3) := fK_5_2 i h.1 h.2
theorem fR_6_1 {i : Nat} (h : Ty 6 i) : R0 i 1 = some (i + 2) := by unfold R0; rw [h.2]; all_goals rfl
theorem fK_6_1 : ∀ i, i < 717 → K0 i = .inl 6 → i + 2 < 717 ∧ K0 (i + 2) = .inl 5 := by decide +kernel
theorem fT_6_1 {i : Nat} (h : Ty 6 i) : Ty 5 (i + 2) := fK_6_1 i h.1 h.2
theorem fR_6_2 {i : Nat} (h : Ty 6 i) : R0 i 2 = some (i + 6) := by unfold R0; rw [h.2]; all_goals rfl
theorem fK_6_2 : ∀ i, i < 717 → K0 i = .inl 6 → i + 6 < 717 ∧ K0 (i + 6) = .inl 3 := by decide +kernel
theorem fT_6_2 {i : Nat} (h : Ty 6 i) : Ty 3 (i + 6) := fK_6_2 i h.1 h.2
theorem fR_6_3 {i : Nat} (h : Ty 6 i) : R0 i 3 = some (i + 9) := by unfold R0; rw [h.2]; all_goals rfl
theorem fK_6_3 : ∀ i, i < 717 → K0 i = .inl 6 → i + 9 < 717 ∧ K0 (i + 9) = .inl 3 := by decide +kernel
theorem fT_6_3 {i : Nat} (h : Ty 6 i) : Ty 3 (i + 9) := fK_6_3 i h.1 h.2
theorem fR_6_0 {i : Nat} (h : Ty 6 i) : R0 i 0 = some (i + 1) := by unfold R0; rw [h.2]; all_goals rfl
theorem fR_7_0 {i : Nat} (h : Ty 7 i) : R0 i 0 = some 1 := by unfold R0; rw [h.2]; all_goals rfl
theorem fT_7_0 : Ty 6 1 := ⟨by decide +kernel, by decide +kernel⟩
theorem fR_7_1 {i : Nat} (h : Ty 7 i) : R0 i 1 = some 169 := by unfold R0; rw [h.2]; all_goals rfl
theorem fT_7_1 : Ty 6 169 := ⟨by decide +kernel, by decide +kernel⟩
theorem fR_7_2 {i : Nat} (h : Ty 7 i) : R0 i 2 = some 337 := by unfold R0; rw [h.2]; all_goals rfl
theorem fT_7_2 : Ty 6 337 := ⟨by decide +kernel, by decide +kernel⟩
theorem fR_7_3 {i : Nat} (h : Ty 7 i) : R0 i 3 = some 505 := by unfold R0; rw [h.2]; all_goals rfl
theorem fT_7_3 : Ty 6 505 := ⟨by decide +kernel, by decide +kernel⟩
theorem fR_7_4 {i : Nat} (h : Ty 7 i) : R0 i 4 = some 673 := by unfold R0; rw [h.2]; all_goals rfl
theorem fT_7_4 : Ty 4 673 := ⟨by decide +kernel, by decide +kernel⟩
theorem fR_7_5 {i : Nat} (h : Ty 7 i) : R0 i 5 = some 678 := by unfold R0; rw [h.2]; all_goals rfl
theorem fR_8_0 {i : Nat} (h : Ty 8 i) : R0 i 0 = some 698 := by unfold R0; rw [h.2]; all_goals rfl
theorem fT_8_0 : Ar 698 := ⟨by decide +kernel, by decide +kernel⟩
theorem fR_8_1 {i : Nat} (h : Ty 8 i) : R0 i 1 = some 699 := by unfold R0; rw [h.2]; all_goals rfl
theorem fT_8_1 : Ar 699 := ⟨by decide +kernel, by decide +kernel⟩
theorem fR_8_2 {i : Nat} (h : Ty 8 i) : R0 i 2 = some 700 := by unfold R0; rw [h.2]; all_goals rfl
theorem fT_8_2 : Ar 700 := ⟨by decide +kernel, by decide +kernel⟩
theorem fR_8_3 {i : Nat} (h : Ty 8 i) : R0 i 3 = some 701 := by unfold R0; rw [h.2]; all_goals rfl
theorem fT_8_3 : Ar 701 := ⟨by decide +kernel, by decide +kernel⟩
theorem fR_8_8 {i : Nat} (h : Ty 8 i) : R0 i 8 = some 702 := by unfold R0; rw [h.2]; all_goals rfl
theorem fT_8_8 : Ar 702 := ⟨by decide +kernel, by decide +kernel⟩
theorem fR_8_10 {i : Nat} (h : Ty 8 i) : R0 i 10 = some 703 := by unfold R0; rw [h.2]; all_goals rfl
theorem fT_8_10 : Ar 703 := ⟨by decide +kernel, by decide +kernel⟩
theorem fR_8_12 {i : Nat} (h : Ty 8 i) : R0 i 12 = some 704 := by unfold R0; rw [h.2]; all_goals rfl
theorem fT_8_12 : Ar 704 := ⟨by decide +kernel, by decide +kernel⟩
theorem fR_8_13 {i : Nat} (h : Ty 8 i) : R0 i 13 = some 705 := by unfold R0; rw [h.2]; all_goals rfl
theorem fT_8_13 : Ar 705 := ⟨by decide +kernel, by decide +kernel⟩
theorem fR_8_14 {i : Nat} (h : Ty 8 i) : R0 i 14 = some 706 := by unfold R0; rw [h.2]; all_goals rfl
theorem fT_8_14 : Ar 706 := ⟨by decide +kernel, by decide +kernel⟩
theorem fR_8_16 {i : Nat} (h : Ty 8 i) : R0 i 16 = some 714 := by unfold R0; rw [h.2]; all_goals rfl
theorem fT_8_16 : Ar 714 := ⟨by decide +kernel, by decide +kernel⟩
theorem fR_8_17 {i : Nat} (h : Ty 8 i) : R0 i 17 = some 715 := by unfold R0; rw [h.2]; all_goals rfl
theorem fT_8_17 : Ar 715 := ⟨by decide +kernel, by decide +kernel⟩
theorem fR_8_21 {i : Nat} (h : Ty 8 i) : R0 i 21 = some 716 := by unfold R0; rw [h.2]; all_goals rfl
theorem fT_8_21 : Ar 716 := ⟨by decide +kernel, by decide +kernel⟩
theorem fR_8_15 {i : Nat} (h : Ty 8 i) : R0 i 15 = some 707 := by unfold R0; rw [h.2]; all_goals rfl
theorem ty_x : Ty 7 0 := ⟨by decide +kernel, by decide +kernel⟩
theorem ty_m : Ty 8 697 := ⟨by decide +kernel, by decide +kernel⟩
theorem eK_a : ∀ i, i < 717 → K0 i = .inl 6 → (i + 1 < 717 ∧ K0 (i + 1) = .inr (1, 12)) ∧ ∀ j, j < 12 → (i + 12 + 13 * j < 717 ∧ K0 (i + 12 + 13 * j) = .inl 0) := by decide +kernel
theorem eK_h : ∀ j, j < 6 → (679 + 3 * j < 717 ∧ K0 (679 + 3 * j) = .inl 1) := by decide +kernel
theorem eK_r : ∀ j, j < 6 → (708 + j < 717 ∧ K0 (708 + j) = .inr (0, ln (708 + j))) := by decide +kernel
/-- an index -/
def ix (j : Int32) (N : Nat) : Option Nat := if j < 0 ∨ N ≤ j.toNatClampNeg then none else some j.toNatClampNeg
theorem ix_lt {j : Int32} {N i : Nat} (h : ix j N = some i) : i < N := by
  unfold ix at h
  split at h
  · cases h
  · rename_i hc
    cases h
    exact Nat.not_le.mp fun q => hc (Or.inr q)
theorem eT_a {i j : Nat} {x : Int32} (h : Ty 6 i) (hj : ix x 12 = some j) : Ty 0 (i + 12 + 13 * j) := (eK_a i h.1 h.2).2 j (ix_lt hj)
theorem eT_h {j : Nat} {x : Int32} (hj : ix x 6 = some j) : Ty 1 (679 + 3 * j) := eK_h j (ix_lt hj)
theorem eT_r {j : Nat} {x : Int32} (hj : ix x 6 = some j) : Ar (708 + j) := eK_r j (ix_lt hj)
def ald (S : Mem) (a : Nat) (j : Int32) : Option Int32 := if j < 0 ∨ ln a ≤ j.toNatClampNeg then none else some (S a j.toNatClampNeg)
def ast (S : Mem) (a : Nat) (j x : Int32) : Option Mem := if j < 0 ∨ ln a ≤ j.toNatClampNeg then none else some (up2 S a j.toNatClampNeg x)
def acp (S : Mem) (a : Nat) (sp : Int32) (b : Nat) (dp len : Int32) : Option Mem := if sp < 0 ∨ dp < 0 ∨ len < 0 ∨ ln a < sp.toNatClampNeg + len.toNatClampNeg ∨ ln b < dp.toNatClampNeg + len.toNatClampNeg then none else some (xup S b (va_cpy (S a) (S b) sp.toNatClampNeg dp.toNatClampNeg len.toNatClampNeg))
def irm (x y : Int32) : Int32 := x - x / y * y
def nz (y : Int32) : Option Int32 := if y = 0 then none else some y
def sld (scr : Nat × (Nat → Int32)) (j : Int32) : Option Int32 := if j < 0 ∨ scr.1 ≤ j.toNatClampNeg then none else some (scr.2 j.toNatClampNeg)
def bol (v : Int32) : Option Int32 := if v = 0 ∨ v = 1 then some v else none
def iush (x y : Int32) : Int32 := (x.toUInt32 >>> (y.toUInt32 &&& Int32.toUInt32 31)).toInt32
def imx (x y : Int32) : Int32 := if x < y then y else x
def imn (x y : Int32) : Int32 := if y < x then y else x
def bd {α β γ : Type} (q : Option (α × β)) (k : α → β → Option γ) : Option γ := q.bind fun q => k q.1 q.2
theorem ob {α β : Type} {q : Option α} {f : α → Option β} {x : β} (h : q.bind f = some x) : ∃ v, q = some v ∧ f v = some x := by
  cases q with
  | none => cases h
  | some v => exact ⟨v, rfl, h⟩
theorem ob2 {α β γ : Type} {q : Option (α × β)} {k : α → β → Option γ} {x : γ} (h : bd q k = some x) : ∃ a b, q = some (a, b) ∧ k a b = some x := by
  cases q with
  | none => cases h
  | some v => exact ⟨v.1, v.2, rfl, h⟩
theorem xif {β : Type} {p : Prop} {_ : Decidable p} {a b x : Option β} (h : (if p then a else b) = x) : (p ∧ a = x) ∨ (¬ p ∧ b = x) := by
  by_cases g : p
  · rw [if_pos g] at h
    exact Or.inl ⟨g, h⟩
  · rw [if_neg g] at h
    exact Or.inr ⟨g, h⟩
def XG (scr : Nat × (Nat → Int32)) (d mid pc : Nat) (L : XL) (st : List XV) (S : Mem) (r : Option XV) (S' : Mem) : Prop := XOK scr d mid pc L st (mk S) r (mk S')

theorem g_push {scr : Nat × (Nat → Int32)} {d mid pc : Nat} {L : XL} {st : List XV} {S S1 : Mem} {r : Option XV} {v : Int32} {n : Nat} (hc : xcode scr mid pc = x_push v n) (k : XG scr d mid (n) L (.inl v :: st) S r S1) : XG scr d mid pc L (st) S r S1 := by
  refine XOK_step ?_ k
  rw [hc]
  all_goals rfl
theorem g_iload {scr : Nat × (Nat → Int32)} {d mid pc : Nat} {L : XL} {st : List XV} {S S1 : Mem} {r : Option XV} {v : Int32} {i n : Nat} (hc : xcode scr mid pc = x_iload i n) (hg : xget L i = some (.inl v)) (k : XG scr d mid (n) L (.inl v :: st) S r S1) : XG scr d mid pc L (st) S r S1 := by
  refine XOK_step ?_ k
  rw [hc]
  unfold x_iload xiN
  simp only [hg]
theorem g_aload {scr : Nat × (Nat → Int32)} {d mid pc : Nat} {L : XL} {st : List XV} {S S1 : Mem} {r : Option XV} {a : Option Nat} {i n : Nat} (hc : xcode scr mid pc = x_aload i n) (hg : xget L i = some (.inr (some a))) (k : XG scr d mid (n) L (.inr (some a) :: st) S r S1) : XG scr d mid pc L (st) S r S1 := by
  refine XOK_step ?_ k
  rw [hc]
  unfold x_aload xiN
  simp only [hg]
theorem g_istore {scr : Nat × (Nat → Int32)} {d mid pc : Nat} {L : XL} {st : List XV} {S S1 : Mem} {r : Option XV} {v : Int32} {i n : Nat} {L2 : XL} (hc : xcode scr mid pc = x_istore i n) (hL : xput L i (.inl v) = L2) (k : XG scr d mid (n) L2 (st) S r S1) : XG scr d mid pc L (.inl v :: st) S r S1 := by
  refine XOK_step ?_ k
  rw [hc]
  rw [← hL]
  all_goals rfl
theorem g_astore {scr : Nat × (Nat → Int32)} {d mid pc : Nat} {L : XL} {st : List XV} {S S1 : Mem} {r : Option XV} {a : Option Nat} {i n : Nat} {L2 : XL} (hc : xcode scr mid pc = x_astore i n) (hL : xput L i (.inr (some a)) = L2) (k : XG scr d mid (n) L2 (st) S r S1) : XG scr d mid pc L (.inr (some a) :: st) S r S1 := by
  refine XOK_step ?_ k
  rw [hc]
  rw [← hL]
  all_goals rfl
theorem g_iinc {scr : Nat × (Nat → Int32)} {d mid pc : Nat} {L : XL} {st : List XV} {S S1 : Mem} {r : Option XV} {v a : Int32} {i n : Nat} {L2 : XL} (hc : xcode scr mid pc = x_iinc i a n) (hg : xget L i = some (.inl v)) (hL : xput L i (.inl (v + a)) = L2) (k : XG scr d mid (n) L2 (st) S r S1) : XG scr d mid pc L (st) S r S1 := by
  refine XOK_step ?_ k
  rw [hc]
  rw [← hL]
  unfold x_iinc xiN
  simp only [hg]
theorem g_dup {scr : Nat × (Nat → Int32)} {d mid pc : Nat} {L : XL} {st : List XV} {S S1 : Mem} {r : Option XV} {v : XV} {n : Nat} (hc : xcode scr mid pc = x_dup n) (k : XG scr d mid (n) L (v :: v :: st) S r S1) : XG scr d mid pc L (v :: st) S r S1 := by
  refine XOK_step ?_ k
  rw [hc]
  all_goals rfl
theorem g_pop {scr : Nat × (Nat → Int32)} {d mid pc : Nat} {L : XL} {st : List XV} {S S1 : Mem} {r : Option XV} {v : XV} {n : Nat} (hc : xcode scr mid pc = x_pop n) (k : XG scr d mid (n) L (st) S r S1) : XG scr d mid pc L (v :: st) S r S1 := by
  refine XOK_step ?_ k
  rw [hc]
  all_goals rfl
theorem g_dup_x1 {scr : Nat × (Nat → Int32)} {d mid pc : Nat} {L : XL} {st : List XV} {S S1 : Mem} {r : Option XV} {v w : XV} {n : Nat} (hc : xcode scr mid pc = x_dup_x1 n) (k : XG scr d mid (n) L (v :: w :: v :: st) S r S1) : XG scr d mid pc L (v :: w :: st) S r S1 := by
  refine XOK_step ?_ k
  rw [hc]
  all_goals rfl
theorem g_dup_x2 {scr : Nat × (Nat → Int32)} {d mid pc : Nat} {L : XL} {st : List XV} {S S1 : Mem} {r : Option XV} {v w u : XV} {n : Nat} (hc : xcode scr mid pc = x_dup_x2 n) (k : XG scr d mid (n) L (v :: w :: u :: v :: st) S r S1) : XG scr d mid pc L (v :: w :: u :: st) S r S1 := by
  refine XOK_step ?_ k
  rw [hc]
  all_goals rfl
theorem g_dup2 {scr : Nat × (Nat → Int32)} {d mid pc : Nat} {L : XL} {st : List XV} {S S1 : Mem} {r : Option XV} {v w : XV} {n : Nat} (hc : xcode scr mid pc = x_dup2 n) (k : XG scr d mid (n) L (v :: w :: v :: w :: st) S r S1) : XG scr d mid pc L (v :: w :: st) S r S1 := by
  refine XOK_step ?_ k
  rw [hc]
  all_goals rfl
theorem g_iadd {scr : Nat × (Nat → Int32)} {d mid pc : Nat} {L : XL} {st : List XV} {S S1 : Mem} {r : Option XV} {x y : Int32} {n : Nat} (hc : xcode scr mid pc = x_iadd n) (k : XG scr d mid (n) L (.inl (x + y) :: st) S r S1) : XG scr d mid pc L (.inl y :: .inl x :: st) S r S1 := by
  refine XOK_step ?_ k
  rw [hc]
  all_goals rfl
theorem g_isub {scr : Nat × (Nat → Int32)} {d mid pc : Nat} {L : XL} {st : List XV} {S S1 : Mem} {r : Option XV} {x y : Int32} {n : Nat} (hc : xcode scr mid pc = x_isub n) (k : XG scr d mid (n) L (.inl (x - y) :: st) S r S1) : XG scr d mid pc L (.inl y :: .inl x :: st) S r S1 := by
  refine XOK_step ?_ k
  rw [hc]
  all_goals rfl
theorem g_imul {scr : Nat × (Nat → Int32)} {d mid pc : Nat} {L : XL} {st : List XV} {S S1 : Mem} {r : Option XV} {x y : Int32} {n : Nat} (hc : xcode scr mid pc = x_imul n) (k : XG scr d mid (n) L (.inl (x * y) :: st) S r S1) : XG scr d mid pc L (.inl y :: .inl x :: st) S r S1 := by
  refine XOK_step ?_ k
  rw [hc]
  all_goals rfl
theorem g_iand {scr : Nat × (Nat → Int32)} {d mid pc : Nat} {L : XL} {st : List XV} {S S1 : Mem} {r : Option XV} {x y : Int32} {n : Nat} (hc : xcode scr mid pc = x_iand n) (k : XG scr d mid (n) L (.inl (x &&& y) :: st) S r S1) : XG scr d mid pc L (.inl y :: .inl x :: st) S r S1 := by
  refine XOK_step ?_ k
  rw [hc]
  all_goals rfl
theorem g_ior {scr : Nat × (Nat → Int32)} {d mid pc : Nat} {L : XL} {st : List XV} {S S1 : Mem} {r : Option XV} {x y : Int32} {n : Nat} (hc : xcode scr mid pc = x_ior n) (k : XG scr d mid (n) L (.inl (x ||| y) :: st) S r S1) : XG scr d mid pc L (.inl y :: .inl x :: st) S r S1 := by
  refine XOK_step ?_ k
  rw [hc]
  all_goals rfl
theorem g_ixor {scr : Nat × (Nat → Int32)} {d mid pc : Nat} {L : XL} {st : List XV} {S S1 : Mem} {r : Option XV} {x y : Int32} {n : Nat} (hc : xcode scr mid pc = x_ixor n) (k : XG scr d mid (n) L (.inl (x ^^^ y) :: st) S r S1) : XG scr d mid pc L (.inl y :: .inl x :: st) S r S1 := by
  refine XOK_step ?_ k
  rw [hc]
  all_goals rfl
theorem g_ishl {scr : Nat × (Nat → Int32)} {d mid pc : Nat} {L : XL} {st : List XV} {S S1 : Mem} {r : Option XV} {x y : Int32} {n : Nat} (hc : xcode scr mid pc = x_ishl n) (k : XG scr d mid (n) L (.inl (x <<< (y &&& 31)) :: st) S r S1) : XG scr d mid pc L (.inl y :: .inl x :: st) S r S1 := by
  refine XOK_step ?_ k
  rw [hc]
  all_goals rfl
theorem g_iushr {scr : Nat × (Nat → Int32)} {d mid pc : Nat} {L : XL} {st : List XV} {S S1 : Mem} {r : Option XV} {x y : Int32} {n : Nat} (hc : xcode scr mid pc = x_iushr n) (k : XG scr d mid (n) L (.inl (iush x y) :: st) S r S1) : XG scr d mid pc L (.inl y :: .inl x :: st) S r S1 := by
  refine XOK_step ?_ k
  rw [hc]
  all_goals rfl
theorem g_ineg {scr : Nat × (Nat → Int32)} {d mid pc : Nat} {L : XL} {st : List XV} {S S1 : Mem} {r : Option XV} {x : Int32} {n : Nat} (hc : xcode scr mid pc = x_ineg n) (k : XG scr d mid (n) L (.inl (-x) :: st) S r S1) : XG scr d mid pc L (.inl x :: st) S r S1 := by
  refine XOK_step ?_ k
  rw [hc]
  all_goals rfl
theorem g_idiv {scr : Nat × (Nat → Int32)} {d mid pc : Nat} {L : XL} {st : List XV} {S S1 : Mem} {r : Option XV} {x y : Int32} {n : Nat} (hc : xcode scr mid pc = x_idiv n) (hy : ¬ y = 0) (k : XG scr d mid (n) L (.inl (x / y) :: st) S r S1) : XG scr d mid pc L (.inl y :: .inl x :: st) S r S1 := by
  refine XOK_step ?_ k
  rw [hc]
  unfold x_idiv xiN
  simp only [if_neg hy]
theorem g_irem {scr : Nat × (Nat → Int32)} {d mid pc : Nat} {L : XL} {st : List XV} {S S1 : Mem} {r : Option XV} {x y : Int32} {n : Nat} (hc : xcode scr mid pc = x_irem n) (hy : ¬ y = 0) (k : XG scr d mid (n) L (.inl (irm x y) :: st) S r S1) : XG scr d mid pc L (.inl y :: .inl x :: st) S r S1 := by
  refine XOK_step ?_ k
  rw [hc]
  unfold x_irem xiN
  simp only [if_neg hy]
  all_goals rfl
theorem g_mmax {scr : Nat × (Nat → Int32)} {d mid pc : Nat} {L : XL} {st : List XV} {S S1 : Mem} {r : Option XV} {x y : Int32} {n : Nat} (hc : xcode scr mid pc = x_mmax n) (hl : st.length ≤ 8) (k : XG scr d mid (n) L (.inl (imx x y) :: st) S r S1) : XG scr d mid pc L (.inl y :: .inl x :: st) S r S1 := by
  refine XOK_step ?_ k
  rw [hc]
  unfold x_mmax xiN
  simp only [if_pos hl]
  all_goals rfl
theorem g_mmin {scr : Nat × (Nat → Int32)} {d mid pc : Nat} {L : XL} {st : List XV} {S S1 : Mem} {r : Option XV} {x y : Int32} {n : Nat} (hc : xcode scr mid pc = x_mmin n) (hl : st.length ≤ 8) (k : XG scr d mid (n) L (.inl (imn x y) :: st) S r S1) : XG scr d mid pc L (.inl y :: .inl x :: st) S r S1 := by
  refine XOK_step ?_ k
  rw [hc]
  unfold x_mmin xiN
  simp only [if_pos hl]
  all_goals rfl
theorem g_goto {scr : Nat × (Nat → Int32)} {d mid pc : Nat} {L : XL} {st : List XV} {S S1 : Mem} {r : Option XV} {t : Nat} (hc : xcode scr mid pc = x_goto t) (k : XG scr d mid (t) L (st) S r S1) : XG scr d mid pc L (st) S r S1 := by
  refine XOK_step ?_ k
  rw [hc]
  all_goals rfl
theorem g_ifeq_t {scr : Nat × (Nat → Int32)} {d mid pc : Nat} {L : XL} {st : List XV} {S S1 : Mem} {r : Option XV} {x : Int32} {t n : Nat} (hc : xcode scr mid pc = x_ifeq t n) (hx : x = 0) (k : XG scr d mid (t) L (st) S r S1) : XG scr d mid pc L (.inl x :: st) S r S1 := by
  refine XOK_step ?_ k
  rw [hc]
  unfold x_ifeq xiN
  simp only [if_pos hx]
theorem g_ifeq_f {scr : Nat × (Nat → Int32)} {d mid pc : Nat} {L : XL} {st : List XV} {S S1 : Mem} {r : Option XV} {x : Int32} {t n : Nat} (hc : xcode scr mid pc = x_ifeq t n) (hx : ¬ x = 0) (k : XG scr d mid (n) L (st) S r S1) : XG scr d mid pc L (.inl x :: st) S r S1 := by
  refine XOK_step ?_ k
  rw [hc]
  unfold x_ifeq xiN
  simp only [if_neg hx]
theorem g_ifne_t {scr : Nat × (Nat → Int32)} {d mid pc : Nat} {L : XL} {st : List XV} {S S1 : Mem} {r : Option XV} {x : Int32} {t n : Nat} (hc : xcode scr mid pc = x_ifne t n) (hx : x = 0) (k : XG scr d mid (n) L (st) S r S1) : XG scr d mid pc L (.inl x :: st) S r S1 := by
  refine XOK_step ?_ k
  rw [hc]
  unfold x_ifne xiN
  simp only [if_neg (not_not_intro hx)]
theorem g_ifne_f {scr : Nat × (Nat → Int32)} {d mid pc : Nat} {L : XL} {st : List XV} {S S1 : Mem} {r : Option XV} {x : Int32} {t n : Nat} (hc : xcode scr mid pc = x_ifne t n) (hx : ¬ x = 0) (k : XG scr d mid (t) L (st) S r S1) : XG scr d mid pc L (.inl x :: st) S r S1 := by
  refine XOK_step ?_ k
  rw [hc]
  unfold x_ifne xiN
  simp only [if_pos hx]
theorem g_iflt_t {scr : Nat × (Nat → Int32)} {d mid pc : Nat} {L : XL} {st : List XV} {S S1 : Mem} {r : Option XV} {x : Int32} {t n : Nat} (hc : xcode scr mid pc = x_iflt t n) (hx : x < 0) (k : XG scr d mid (t) L (st) S r S1) : XG scr d mid pc L (.inl x :: st) S r S1 := by
  refine XOK_step ?_ k
  rw [hc]
  unfold x_iflt xiN
  simp only [if_pos hx]
theorem g_iflt_f {scr : Nat × (Nat → Int32)} {d mid pc : Nat} {L : XL} {st : List XV} {S S1 : Mem} {r : Option XV} {x : Int32} {t n : Nat} (hc : xcode scr mid pc = x_iflt t n) (hx : ¬ x < 0) (k : XG scr d mid (n) L (st) S r S1) : XG scr d mid pc L (.inl x :: st) S r S1 := by
  refine XOK_step ?_ k
  rw [hc]
  unfold x_iflt xiN
  simp only [if_neg hx]
theorem g_ifge_t {scr : Nat × (Nat → Int32)} {d mid pc : Nat} {L : XL} {st : List XV} {S S1 : Mem} {r : Option XV} {x : Int32} {t n : Nat} (hc : xcode scr mid pc = x_ifge t n) (hx : 0 ≤ x) (k : XG scr d mid (t) L (st) S r S1) : XG scr d mid pc L (.inl x :: st) S r S1 := by
  refine XOK_step ?_ k
  rw [hc]
  unfold x_ifge xiN
  simp only [if_pos hx]
theorem g_ifge_f {scr : Nat × (Nat → Int32)} {d mid pc : Nat} {L : XL} {st : List XV} {S S1 : Mem} {r : Option XV} {x : Int32} {t n : Nat} (hc : xcode scr mid pc = x_ifge t n) (hx : ¬ 0 ≤ x) (k : XG scr d mid (n) L (st) S r S1) : XG scr d mid pc L (.inl x :: st) S r S1 := by
  refine XOK_step ?_ k
  rw [hc]
  unfold x_ifge xiN
  simp only [if_neg hx]
theorem g_ifgt_t {scr : Nat × (Nat → Int32)} {d mid pc : Nat} {L : XL} {st : List XV} {S S1 : Mem} {r : Option XV} {x : Int32} {t n : Nat} (hc : xcode scr mid pc = x_ifgt t n) (hx : 0 < x) (k : XG scr d mid (t) L (st) S r S1) : XG scr d mid pc L (.inl x :: st) S r S1 := by
  refine XOK_step ?_ k
  rw [hc]
  unfold x_ifgt xiN
  simp only [if_pos hx]
theorem g_ifgt_f {scr : Nat × (Nat → Int32)} {d mid pc : Nat} {L : XL} {st : List XV} {S S1 : Mem} {r : Option XV} {x : Int32} {t n : Nat} (hc : xcode scr mid pc = x_ifgt t n) (hx : ¬ 0 < x) (k : XG scr d mid (n) L (st) S r S1) : XG scr d mid pc L (.inl x :: st) S r S1 := by
  refine XOK_step ?_ k
  rw [hc]
  unfold x_ifgt xiN
  simp only [if_neg hx]
theorem g_ifle_t {scr : Nat × (Nat → Int32)} {d mid pc : Nat} {L : XL} {st : List XV} {S S1 : Mem} {r : Option XV} {x : Int32} {t n : Nat} (hc : xcode scr mid pc = x_ifle t n) (hx : x ≤ 0) (k : XG scr d mid (t) L (st) S r S1) : XG scr d mid pc L (.inl x :: st) S r S1 := by
  refine XOK_step ?_ k
  rw [hc]
  unfold x_ifle xiN
  simp only [if_pos hx]
theorem g_ifle_f {scr : Nat × (Nat → Int32)} {d mid pc : Nat} {L : XL} {st : List XV} {S S1 : Mem} {r : Option XV} {x : Int32} {t n : Nat} (hc : xcode scr mid pc = x_ifle t n) (hx : ¬ x ≤ 0) (k : XG scr d mid (n) L (st) S r S1) : XG scr d mid pc L (.inl x :: st) S r S1 := by
  refine XOK_step ?_ k
  rw [hc]
  unfold x_ifle xiN
  simp only [if_neg hx]
theorem g_iceq_t {scr : Nat × (Nat → Int32)} {d mid pc : Nat} {L : XL} {st : List XV} {S S1 : Mem} {r : Option XV} {x y : Int32} {t n : Nat} (hc : xcode scr mid pc = x_iceq t n) (hx : x = y) (k : XG scr d mid (t) L (st) S r S1) : XG scr d mid pc L (.inl y :: .inl x :: st) S r S1 := by
  refine XOK_step ?_ k
  rw [hc]
  unfold x_iceq xiN
  simp only [if_pos hx]
theorem g_iceq_f {scr : Nat × (Nat → Int32)} {d mid pc : Nat} {L : XL} {st : List XV} {S S1 : Mem} {r : Option XV} {x y : Int32} {t n : Nat} (hc : xcode scr mid pc = x_iceq t n) (hx : ¬ x = y) (k : XG scr d mid (n) L (st) S r S1) : XG scr d mid pc L (.inl y :: .inl x :: st) S r S1 := by
  refine XOK_step ?_ k
  rw [hc]
  unfold x_iceq xiN
  simp only [if_neg hx]
theorem g_icne_t {scr : Nat × (Nat → Int32)} {d mid pc : Nat} {L : XL} {st : List XV} {S S1 : Mem} {r : Option XV} {x y : Int32} {t n : Nat} (hc : xcode scr mid pc = x_icne t n) (hx : x = y) (k : XG scr d mid (n) L (st) S r S1) : XG scr d mid pc L (.inl y :: .inl x :: st) S r S1 := by
  refine XOK_step ?_ k
  rw [hc]
  unfold x_icne xiN
  simp only [if_neg (not_not_intro hx)]
theorem g_icne_f {scr : Nat × (Nat → Int32)} {d mid pc : Nat} {L : XL} {st : List XV} {S S1 : Mem} {r : Option XV} {x y : Int32} {t n : Nat} (hc : xcode scr mid pc = x_icne t n) (hx : ¬ x = y) (k : XG scr d mid (t) L (st) S r S1) : XG scr d mid pc L (.inl y :: .inl x :: st) S r S1 := by
  refine XOK_step ?_ k
  rw [hc]
  unfold x_icne xiN
  simp only [if_pos hx]
theorem g_iclt_t {scr : Nat × (Nat → Int32)} {d mid pc : Nat} {L : XL} {st : List XV} {S S1 : Mem} {r : Option XV} {x y : Int32} {t n : Nat} (hc : xcode scr mid pc = x_iclt t n) (hx : x < y) (k : XG scr d mid (t) L (st) S r S1) : XG scr d mid pc L (.inl y :: .inl x :: st) S r S1 := by
  refine XOK_step ?_ k
  rw [hc]
  unfold x_iclt xiN
  simp only [if_pos hx]
theorem g_iclt_f {scr : Nat × (Nat → Int32)} {d mid pc : Nat} {L : XL} {st : List XV} {S S1 : Mem} {r : Option XV} {x y : Int32} {t n : Nat} (hc : xcode scr mid pc = x_iclt t n) (hx : ¬ x < y) (k : XG scr d mid (n) L (st) S r S1) : XG scr d mid pc L (.inl y :: .inl x :: st) S r S1 := by
  refine XOK_step ?_ k
  rw [hc]
  unfold x_iclt xiN
  simp only [if_neg hx]
theorem g_icge_t {scr : Nat × (Nat → Int32)} {d mid pc : Nat} {L : XL} {st : List XV} {S S1 : Mem} {r : Option XV} {x y : Int32} {t n : Nat} (hc : xcode scr mid pc = x_icge t n) (hx : y ≤ x) (k : XG scr d mid (t) L (st) S r S1) : XG scr d mid pc L (.inl y :: .inl x :: st) S r S1 := by
  refine XOK_step ?_ k
  rw [hc]
  unfold x_icge xiN
  simp only [if_pos hx]
theorem g_icge_f {scr : Nat × (Nat → Int32)} {d mid pc : Nat} {L : XL} {st : List XV} {S S1 : Mem} {r : Option XV} {x y : Int32} {t n : Nat} (hc : xcode scr mid pc = x_icge t n) (hx : ¬ y ≤ x) (k : XG scr d mid (n) L (st) S r S1) : XG scr d mid pc L (.inl y :: .inl x :: st) S r S1 := by
  refine XOK_step ?_ k
  rw [hc]
  unfold x_icge xiN
  simp only [if_neg hx]
theorem g_icgt_t {scr : Nat × (Nat → Int32)} {d mid pc : Nat} {L : XL} {st : List XV} {S S1 : Mem} {r : Option XV} {x y : Int32} {t n : Nat} (hc : xcode scr mid pc = x_icgt t n) (hx : y < x) (k : XG scr d mid (t) L (st) S r S1) : XG scr d mid pc L (.inl y :: .inl x :: st) S r S1 := by
  refine XOK_step ?_ k
  rw [hc]
  unfold x_icgt xiN
  simp only [if_pos hx]
theorem g_icgt_f {scr : Nat × (Nat → Int32)} {d mid pc : Nat} {L : XL} {st : List XV} {S S1 : Mem} {r : Option XV} {x y : Int32} {t n : Nat} (hc : xcode scr mid pc = x_icgt t n) (hx : ¬ y < x) (k : XG scr d mid (n) L (st) S r S1) : XG scr d mid pc L (.inl y :: .inl x :: st) S r S1 := by
  refine XOK_step ?_ k
  rw [hc]
  unfold x_icgt xiN
  simp only [if_neg hx]
theorem g_icle_t {scr : Nat × (Nat → Int32)} {d mid pc : Nat} {L : XL} {st : List XV} {S S1 : Mem} {r : Option XV} {x y : Int32} {t n : Nat} (hc : xcode scr mid pc = x_icle t n) (hx : x ≤ y) (k : XG scr d mid (t) L (st) S r S1) : XG scr d mid pc L (.inl y :: .inl x :: st) S r S1 := by
  refine XOK_step ?_ k
  rw [hc]
  unfold x_icle xiN
  simp only [if_pos hx]
theorem g_icle_f {scr : Nat × (Nat → Int32)} {d mid pc : Nat} {L : XL} {st : List XV} {S S1 : Mem} {r : Option XV} {x y : Int32} {t n : Nat} (hc : xcode scr mid pc = x_icle t n) (hx : ¬ x ≤ y) (k : XG scr d mid (n) L (st) S r S1) : XG scr d mid pc L (.inl y :: .inl x :: st) S r S1 := by
  refine XOK_step ?_ k
  rw [hc]
  unfold x_icle xiN
  simp only [if_neg hx]
theorem g_tsw {scr : Nat × (Nat → Int32)} {d mid pc : Nat} {L : XL} {st : List XV} {S S1 : Mem} {r : Option XV} {x : Int32} {lo hi : Int} {ts : List Nat} {t u : Nat} (hc : xcode scr mid pc = x_tsw lo hi ts t) (hx : (if x.toInt < lo ∨ hi < x.toInt then some t else ts[(x.toInt - lo).toNat]?) = some u) (k : XG scr d mid (u) L (st) S r S1) : XG scr d mid pc L (.inl x :: st) S r S1 := by
  refine XOK_step ?_ k
  rw [hc]
  unfold x_tsw xiN
  split at hx
  · rename_i g; cases hx; simp only [if_pos g]
  · rename_i g; simp only [if_neg g, hx]
theorem g_lsw {scr : Nat × (Nat → Int32)} {d mid pc : Nat} {L : XL} {st : List XV} {S S1 : Mem} {r : Option XV} {x : Int32} {ps : List (Int × Nat)} {t u : Nat} (hc : xcode scr mid pc = x_lsw ps t) (hx : (match ps.find? (fun q => decide (x.toInt = q.1)) with | some q => q.2 | none => t) = u) (k : XG scr d mid (u) L (st) S r S1) : XG scr d mid pc L (.inl x :: st) S r S1 := by
  refine XOK_step ?_ k
  rw [hc]
  rw [← hx]
  all_goals rfl
theorem g_getI {scr : Nat × (Nat → Int32)} {d mid pc : Nat} {L : XL} {st : List XV} {S S1 : Mem} {r : Option XV} {i c f n : Nat} (hc : xcode scr mid pc = x_getI c f n) (hi : Ty c i) (k : XG scr d mid (n) L (.inl (S i f) :: st) S r S1) : XG scr d mid pc L (.inr (some (some i)) :: st) S r S1 := by
  refine XOK_step ?_ k
  rw [hc]
  unfold x_getI xiN
  simp only [if_pos (show i < xM (mk S) ∧ xK (mk S) i = .inl c from hi)]
  all_goals rfl
theorem g_getR {scr : Nat × (Nat → Int32)} {d mid pc : Nat} {L : XL} {st : List XV} {S S1 : Mem} {r : Option XV} {i c f n j : Nat} (hc : xcode scr mid pc = x_getR c f n) (hi : Ty c i) (hj : R0 i f = some j) (k : XG scr d mid (n) L (.inr (some (some j)) :: st) S r S1) : XG scr d mid pc L (.inr (some (some i)) :: st) S r S1 := by
  refine XOK_step ?_ k
  rw [hc]
  unfold x_getR xiN
  simp only [if_pos (show i < xM (mk S) ∧ xK (mk S) i = .inl c from hi), show xR (mk S) i f = some j from hj]
theorem g_putI {scr : Nat × (Nat → Int32)} {d mid pc : Nat} {L : XL} {st : List XV} {S S1 : Mem} {r : Option XV} {i c f n : Nat} {v : Int32} {S2 : Mem} (hc : xcode scr mid pc = x_putI c f n) (hi : Ty c i) (hS : some (up2 S i f v) = some S2) (k : XG scr d mid (n) L (st) S2 r S1) : XG scr d mid pc L (.inl v :: .inr (some (some i)) :: st) S r S1 := by
  refine XOK_step ?_ k
  rw [hc]
  cases hS
  unfold x_putI xiN
  simp only [if_pos (show i < xM (mk S) ∧ xK (mk S) i = .inl c from hi)]
  all_goals rfl
theorem g_putZ {scr : Nat × (Nat → Int32)} {d mid pc : Nat} {L : XL} {st : List XV} {S S1 : Mem} {r : Option XV} {i c f n : Nat} {v : Int32} {S2 : Mem} (hc : xcode scr mid pc = x_putZ c f n) (hi : Ty c i) (hv : v = 0 ∨ v = 1) (hS : some (up2 S i f v) = some S2) (k : XG scr d mid (n) L (st) S2 r S1) : XG scr d mid pc L (.inl v :: .inr (some (some i)) :: st) S r S1 := by
  refine XOK_step ?_ k
  rw [hc]
  cases hS
  unfold x_putZ xiN
  simp only [if_pos (show (i < xM (mk S) ∧ xK (mk S) i = .inl c) ∧ (v = 0 ∨ v = 1) from ⟨hi, hv⟩)]
  all_goals rfl
theorem g_len {scr : Nat × (Nat → Int32)} {d mid pc : Nat} {L : XL} {st : List XV} {S S1 : Mem} {r : Option XV} {i n : Nat} (hc : xcode scr mid pc = x_len n) (hi : Ar i) (k : XG scr d mid (n) L (.inl (Int32.ofNat (ln i)) :: st) S r S1) : XG scr d mid pc L (.inr (some (some i)) :: st) S r S1 := by
  refine XOK_step ?_ k
  rw [hc]
  unfold x_len xiN
  simp only [if_pos (show i < xM (mk S) from hi.1), show xK (mk S) i = .inr (0, ln i) from hi.2]
  all_goals rfl
theorem g_lenO {scr : Nat × (Nat → Int32)} {d mid pc : Nat} {L : XL} {st : List XV} {S S1 : Mem} {r : Option XV} {i n t N : Nat} (hc : xcode scr mid pc = x_len n) (hi : i < 717) (hk : K0 i = .inr (t, N)) (ht : t < 4) (k : XG scr d mid (n) L (.inl (Int32.ofNat N) :: st) S r S1) : XG scr d mid pc L (.inr (some (some i)) :: st) S r S1 := by
  refine XOK_step ?_ k
  rw [hc]
  unfold x_len xiN
  simp only [if_pos (show i < xM (mk S) from hi), show xK (mk S) i = .inr (t, N) from hk, if_pos ht]
theorem g_iald {scr : Nat × (Nat → Int32)} {d mid pc : Nat} {L : XL} {st : List XV} {S S1 : Mem} {r : Option XV} {i n : Nat} {j v : Int32} (hc : xcode scr mid pc = x_iald n) (hi : Ar i) (hv : ald S i j = some v) (k : XG scr d mid (n) L (.inl v :: st) S r S1) : XG scr d mid pc L (.inl j :: .inr (some (some i)) :: st) S r S1 := by
  refine XOK_step ?_ k
  rw [hc]
  unfold ald at hv
  split at hv
  · cases hv
  · rename_i g; cases hv; unfold x_iald xiN; simp only [if_pos (show i < xM (mk S) from hi.1), show xK (mk S) i = .inr (0, ln i) from hi.2, if_neg g]; all_goals rfl
theorem g_iast {scr : Nat × (Nat → Int32)} {d mid pc : Nat} {L : XL} {st : List XV} {S S1 : Mem} {r : Option XV} {i n : Nat} {j v : Int32} {S2 : Mem} (hc : xcode scr mid pc = x_iast n) (hi : Ar i) (hv : ast S i j v = some S2) (k : XG scr d mid (n) L (st) S2 r S1) : XG scr d mid pc L (.inl v :: .inl j :: .inr (some (some i)) :: st) S r S1 := by
  refine XOK_step ?_ k
  rw [hc]
  unfold ast at hv
  split at hv
  · cases hv
  · rename_i g; cases hv; unfold x_iast xiN; simp only [if_pos (show i < xM (mk S) from hi.1), show xK (mk S) i = .inr (0, ln i) from hi.2, if_neg g]; all_goals rfl
theorem rA_a {i j : Nat} {x : Int32} (h : Ty 6 i) (hj : ix x 12 = some j) : R0 (i + 1) j = some (i + 12 + 13 * j) := by
  unfold R0
  rw [(eK_a i h.1 h.2).1.2]
  show (if j < 12 then some (i + 1 + 11 + 13 * j) else none) = _
  rw [if_pos (ix_lt hj)]
theorem rA_h {j : Nat} {x : Int32} (hj : ix x 6 = some j) : R0 678 j = some (679 + 3 * j) := by
  unfold R0
  rw [show K0 678 = .inr (2, 6) by decide +kernel]
  show (if j < 6 then some (678 + 1 + 3 * j) else none) = _
  rw [if_pos (ix_lt hj)]
theorem rA_r {j : Nat} {x : Int32} (hj : ix x 6 = some j) : R0 707 j = some (708 + j) := by
  unfold R0
  rw [show K0 707 = .inr (3, 6) by decide +kernel]
  show (if j < 6 then some (707 + 1 + j) else none) = _
  rw [if_pos (ix_lt hj)]

theorem g_aald {scr : Nat × (Nat → Int32)} {d mid pc : Nat} {L : XL} {st : List XV} {S S1 : Mem} {r : Option XV} {i n t N j b : Nat} {x : Int32} (hc : xcode scr mid pc = x_aald n) (hi : i < 717) (hk : K0 i = .inr (t + 1, N)) (ht : t < 3) (hj : ix x N = some j) (hr : R0 i j = some b) (k : XG scr d mid n L (.inr (some (some b)) :: st) S r S1) : XG scr d mid pc L (.inl x :: .inr (some (some i)) :: st) S r S1 := by
  unfold ix at hj
  split at hj
  · cases hj
  · rename_i g
    cases hj
    refine XOK_step (by rw [hc]; unfold x_aald xiN; simp only [if_pos (show i < xM (mk S) from hi), show xK (mk S) i = .inr (t + 1, N) from hk, if_pos ht, if_neg g, show xR (mk S) i x.toNatClampNeg = some b from hr]) k
theorem g_copy {scr : Nat × (Nat → Int32)} {d mid pc : Nat} {L : XL} {st : List XV} {S S1 : Mem} {r : Option XV} {a b n : Nat} {sp dp len : Int32} {S2 : Mem} (hc : xcode scr mid pc = x_copy n) (ha : Ar a) (hb : Ar b) (hl : st.length ≤ 8) (hv : acp S a sp b dp len = some S2) (k : XG scr d mid n L st S2 r S1) : XG scr d mid pc L (.inl len :: .inl dp :: .inr (some (some b)) :: .inl sp :: .inr (some (some a)) :: st) S r S1 := by
  unfold acp at hv
  split at hv
  · cases hv
  · rename_i g
    cases hv
    refine XOK_step (by rw [hc]; unfold x_copy xiN; simp only [if_pos (show a < xM (mk S) ∧ b < xM (mk S) ∧ st.length ≤ 8 from ⟨ha.1, hb.1, hl⟩), show xK (mk S) a = .inr (0, ln a) from ha.2, show xK (mk S) b = .inr (0, ln b) from hb.2, if_neg g]; all_goals rfl) k
theorem g_sld {scr : Nat × (Nat → Int32)} {d mid pc : Nat} {L : XL} {st : List XV} {S S1 : Mem} {r : Option XV} {n : Nat} {j v : Int32} (hc : xcode scr mid pc = x_sld scr n) (hv : sld scr j = some v) (k : XG scr d mid n L (.inl v :: st) S r S1) : XG scr d mid pc L (.inl j :: .inr (some none) :: st) S r S1 := by
  unfold sld at hv
  split at hv
  · cases hv
  · rename_i g
    cases hv
    refine XOK_step (by rw [hc]; unfold x_sld xiN; simp only [if_neg g]) k
theorem g_slen {scr : Nat × (Nat → Int32)} {d mid pc : Nat} {L : XL} {st : List XV} {S S1 : Mem} {r : Option XV} {n : Nat} (hc : xcode scr mid pc = x_slen scr n) (k : XG scr d mid n L (.inl (Int32.ofNat scr.1) :: st) S r S1) : XG scr d mid pc L (.inr (some none) :: st) S r S1 := XOK_step (by rw [hc]; all_goals rfl) k
theorem g_iret {scr : Nat × (Nat → Int32)} {d mid pc : Nat} {L : XL} {S : Mem} {v : Int32} (hc : xcode scr mid pc = x_iret) : XG scr d mid pc L [.inl v] S (some (.inl v)) S := XOK_ret (by rw [hc]; all_goals rfl)
theorem g_zret {scr : Nat × (Nat → Int32)} {d mid pc : Nat} {L : XL} {S : Mem} {v : Int32} (hc : xcode scr mid pc = x_zret) (hv : v = 0 ∨ v = 1) : XG scr d mid pc L [.inl v] S (some (.inl v)) S := XOK_ret (by rw [hc]; unfold x_zret; simp only [if_pos hv])
theorem g_ret {scr : Nat × (Nat → Int32)} {d mid pc : Nat} {L : XL} {S : Mem} (hc : xcode scr mid pc = x_ret) : XG scr d mid pc L [] S none S := XOK_ret (by rw [hc]; all_goals rfl)
theorem bol_of {v w : Int32} (h : bol v = some w) : (v = 0 ∨ v = 1) ∧ w = v := by
  unfold bol at h
  split at h
  · rename_i g
    cases h
    exact ⟨g, rfl⟩
  · cases h
theorem nz_of {v w : Int32} (h : nz v = some w) : (¬ v = 0) ∧ w = v := by
  unfold nz at h
  split at h
  · cases h
  · rename_i g
    cases h
    exact ⟨g, rfl⟩
theorem so1 {α : Type} {a b : α} (h : some a = some b) : a = b := Option.some.inj h
theorem so2 {α β : Type} {a a2 : α} {b b2 : β} (h : some (a, b) = some (a2, b2)) : a = a2 ∧ b = b2 := Prod.mk.inj (Option.some.inj h)
theorem nn {α : Type} {x : α} {P : Prop} (h : (none : Option α) = some x) : P := by cases h
theorem b01 : (1 : Int32) = 0 ∨ (1 : Int32) = 1 := Or.inr rfl
theorem b00 : (0 : Int32) = 0 ∨ (0 : Int32) = 1 := Or.inl rfl
/-- fewer locals -/
def lsub (L1 L2 : XL) : Prop := ∀ q ∈ L2, q ∈ L1
theorem lsub_nil {L1 : XL} : lsub L1 [] := fun _ h => by cases h
theorem lsub_cons {L1 L2 : XL} {i : Nat} {v : XV} (h : xget L1 i = some v) (t : lsub L1 L2) : lsub L1 ((i, v) :: L2) := fun q hq => by
  rcases List.mem_cons.mp hq with rfl | hq
  · exact xget_mem h
  · exact t q hq
theorem g_loc {scr : Nat × (Nat → Int32)} {d mid pc : Nat} {L : XL} {st : List XV} {S S1 : Mem} {r : Option XV} {L2 : XL} (hs : lsub L L2) (k : XG scr d mid pc L2 st S r S1) : XG scr d mid pc L st S r S1 := by
  obtain ⟨b1, b2, b3⟩ := k
  refine ⟨b1, b2, fun l p e R s m args below meth c β D cA m0 z0 Q X hm0 hz0 hmR hzR K H locs ls hP hF hl => b3 l p e R s m args below meth c β D cA m0 z0 Q X hm0 hz0 hmR hzR K H locs ls hP hF ⟨hl.1, hl.2.1, fun q hq => ?_⟩⟩
  obtain ⟨q0, hq0, rfl⟩ := List.mem_map.mp hq
  exact hl.2.2 _ (List.mem_map.mpr ⟨q0, hs q0 hq0, rfl⟩)

theorem g_inv0 {scr : Nat × (Nat → Int32)} {d mid pc : Nat} {L : XL} {st : List XV} {S S1 : Mem} {r : Option XV} {i ci mid1 n dc : Nat} {r1 : Option XV} {S2 : Mem} (hc : xcode scr mid pc = x_inv mid1 ci 0 n) (hd : dc + 1 ≤ d) (hi : Ty ci i) (hl : st.length ≤ 8) (h1 : ∀ d, dc ≤ d → XG scr d mid1 0 (xargs [.inr (some (some i))]) [] S r1 S2) (k : XG scr d mid n L (r1.toList ++ st) S2 r S1) : XG scr d mid pc L (.inr (some (some i)) :: st) S r S1 := by
  obtain ⟨d, rfl⟩ : ∃ d', d = d' + 1 := ⟨d - 1, by omega⟩
  refine XOK_call (mid1 := mid1) (as := [.inr (some (some i))]) (pc1 := n) (st1 := st) ?_ (h1 d (by omega)) k
  rw [hc]
  show (if 0 ≤ List.length _ ∧ st.length ≤ 8 ∧ i < xM (mk S) ∧ xK (mk S) i = .inl ci then _ else _) = _
  rw [if_pos ⟨by simp only [List.length_cons]; omega, hl, hi⟩]
  rfl
theorem g_inv1 {scr : Nat × (Nat → Int32)} {d mid pc : Nat} {L : XL} {st : List XV} {S S1 : Mem} {r : Option XV} {v0 : XV} {i ci mid1 n dc : Nat} {r1 : Option XV} {S2 : Mem} (hc : xcode scr mid pc = x_inv mid1 ci 1 n) (hd : dc + 1 ≤ d) (hi : Ty ci i) (hl : st.length ≤ 8) (h1 : ∀ d, dc ≤ d → XG scr d mid1 0 (xargs [.inr (some (some i)), v0]) [] S r1 S2) (k : XG scr d mid n L (r1.toList ++ st) S2 r S1) : XG scr d mid pc L (v0 :: .inr (some (some i)) :: st) S r S1 := by
  obtain ⟨d, rfl⟩ : ∃ d', d = d' + 1 := ⟨d - 1, by omega⟩
  refine XOK_call (mid1 := mid1) (as := [.inr (some (some i)), v0]) (pc1 := n) (st1 := st) ?_ (h1 d (by omega)) k
  rw [hc]
  show (if 1 ≤ List.length _ ∧ st.length ≤ 8 ∧ i < xM (mk S) ∧ xK (mk S) i = .inl ci then _ else _) = _
  rw [if_pos ⟨by simp only [List.length_cons]; omega, hl, hi⟩]
  rfl
theorem g_invS1 {scr : Nat × (Nat → Int32)} {d mid pc : Nat} {L : XL} {st : List XV} {S S1 : Mem} {r : Option XV} {v0 : XV} {mid1 n dc : Nat} {r1 : Option XV} {S2 : Mem} (hc : xcode scr mid pc = x_invS mid1 1 n) (hd : dc + 1 ≤ d) (hl : st.length ≤ 8) (h1 : ∀ d, dc ≤ d → XG scr d mid1 0 (xargs [v0]) [] S r1 S2) (k : XG scr d mid n L (r1.toList ++ st) S2 r S1) : XG scr d mid pc L (v0 :: st) S r S1 := by
  obtain ⟨d, rfl⟩ : ∃ d', d = d' + 1 := ⟨d - 1, by omega⟩
  refine XOK_call (mid1 := mid1) (as := [v0]) (pc1 := n) (st1 := st) ?_ (h1 d (by omega)) k
  rw [hc]
  show (if 1 ≤ List.length _ ∧ st.length ≤ 8 then _ else _) = _
  rw [if_pos ⟨by simp only [List.length_cons]; omega, hl⟩]
  rfl
theorem g_inv2 {scr : Nat × (Nat → Int32)} {d mid pc : Nat} {L : XL} {st : List XV} {S S1 : Mem} {r : Option XV} {v0 v1 : XV} {i ci mid1 n dc : Nat} {r1 : Option XV} {S2 : Mem} (hc : xcode scr mid pc = x_inv mid1 ci 2 n) (hd : dc + 1 ≤ d) (hi : Ty ci i) (hl : st.length ≤ 8) (h1 : ∀ d, dc ≤ d → XG scr d mid1 0 (xargs [.inr (some (some i)), v0, v1]) [] S r1 S2) (k : XG scr d mid n L (r1.toList ++ st) S2 r S1) : XG scr d mid pc L (v1 :: v0 :: .inr (some (some i)) :: st) S r S1 := by
  obtain ⟨d, rfl⟩ : ∃ d', d = d' + 1 := ⟨d - 1, by omega⟩
  refine XOK_call (mid1 := mid1) (as := [.inr (some (some i)), v0, v1]) (pc1 := n) (st1 := st) ?_ (h1 d (by omega)) k
  rw [hc]
  show (if 2 ≤ List.length _ ∧ st.length ≤ 8 ∧ i < xM (mk S) ∧ xK (mk S) i = .inl ci then _ else _) = _
  rw [if_pos ⟨by simp only [List.length_cons]; omega, hl, hi⟩]
  rfl
theorem g_invS2 {scr : Nat × (Nat → Int32)} {d mid pc : Nat} {L : XL} {st : List XV} {S S1 : Mem} {r : Option XV} {v0 v1 : XV} {mid1 n dc : Nat} {r1 : Option XV} {S2 : Mem} (hc : xcode scr mid pc = x_invS mid1 2 n) (hd : dc + 1 ≤ d) (hl : st.length ≤ 8) (h1 : ∀ d, dc ≤ d → XG scr d mid1 0 (xargs [v0, v1]) [] S r1 S2) (k : XG scr d mid n L (r1.toList ++ st) S2 r S1) : XG scr d mid pc L (v1 :: v0 :: st) S r S1 := by
  obtain ⟨d, rfl⟩ : ∃ d', d = d' + 1 := ⟨d - 1, by omega⟩
  refine XOK_call (mid1 := mid1) (as := [v0, v1]) (pc1 := n) (st1 := st) ?_ (h1 d (by omega)) k
  rw [hc]
  show (if 2 ≤ List.length _ ∧ st.length ≤ 8 then _ else _) = _
  rw [if_pos ⟨by simp only [List.length_cons]; omega, hl⟩]
  rfl
theorem g_inv3 {scr : Nat × (Nat → Int32)} {d mid pc : Nat} {L : XL} {st : List XV} {S S1 : Mem} {r : Option XV} {v0 v1 v2 : XV} {i ci mid1 n dc : Nat} {r1 : Option XV} {S2 : Mem} (hc : xcode scr mid pc = x_inv mid1 ci 3 n) (hd : dc + 1 ≤ d) (hi : Ty ci i) (hl : st.length ≤ 8) (h1 : ∀ d, dc ≤ d → XG scr d mid1 0 (xargs [.inr (some (some i)), v0, v1, v2]) [] S r1 S2) (k : XG scr d mid n L (r1.toList ++ st) S2 r S1) : XG scr d mid pc L (v2 :: v1 :: v0 :: .inr (some (some i)) :: st) S r S1 := by
  obtain ⟨d, rfl⟩ : ∃ d', d = d' + 1 := ⟨d - 1, by omega⟩
  refine XOK_call (mid1 := mid1) (as := [.inr (some (some i)), v0, v1, v2]) (pc1 := n) (st1 := st) ?_ (h1 d (by omega)) k
  rw [hc]
  show (if 3 ≤ List.length _ ∧ st.length ≤ 8 ∧ i < xM (mk S) ∧ xK (mk S) i = .inl ci then _ else _) = _
  rw [if_pos ⟨by simp only [List.length_cons]; omega, hl, hi⟩]
  rfl
theorem g_invS3 {scr : Nat × (Nat → Int32)} {d mid pc : Nat} {L : XL} {st : List XV} {S S1 : Mem} {r : Option XV} {v0 v1 v2 : XV} {mid1 n dc : Nat} {r1 : Option XV} {S2 : Mem} (hc : xcode scr mid pc = x_invS mid1 3 n) (hd : dc + 1 ≤ d) (hl : st.length ≤ 8) (h1 : ∀ d, dc ≤ d → XG scr d mid1 0 (xargs [v0, v1, v2]) [] S r1 S2) (k : XG scr d mid n L (r1.toList ++ st) S2 r S1) : XG scr d mid pc L (v2 :: v1 :: v0 :: st) S r S1 := by
  obtain ⟨d, rfl⟩ : ∃ d', d = d' + 1 := ⟨d - 1, by omega⟩
  refine XOK_call (mid1 := mid1) (as := [v0, v1, v2]) (pc1 := n) (st1 := st) ?_ (h1 d (by omega)) k
  rw [hc]
  show (if 3 ≤ List.length _ ∧ st.length ≤ 8 then _ else _) = _
  rw [if_pos ⟨by simp only [List.length_cons]; omega, hl⟩]
  rfl
theorem g_inv4 {scr : Nat × (Nat → Int32)} {d mid pc : Nat} {L : XL} {st : List XV} {S S1 : Mem} {r : Option XV} {v0 v1 v2 v3 : XV} {i ci mid1 n dc : Nat} {r1 : Option XV} {S2 : Mem} (hc : xcode scr mid pc = x_inv mid1 ci 4 n) (hd : dc + 1 ≤ d) (hi : Ty ci i) (hl : st.length ≤ 8) (h1 : ∀ d, dc ≤ d → XG scr d mid1 0 (xargs [.inr (some (some i)), v0, v1, v2, v3]) [] S r1 S2) (k : XG scr d mid n L (r1.toList ++ st) S2 r S1) : XG scr d mid pc L (v3 :: v2 :: v1 :: v0 :: .inr (some (some i)) :: st) S r S1 := by
  obtain ⟨d, rfl⟩ : ∃ d', d = d' + 1 := ⟨d - 1, by omega⟩
  refine XOK_call (mid1 := mid1) (as := [.inr (some (some i)), v0, v1, v2, v3]) (pc1 := n) (st1 := st) ?_ (h1 d (by omega)) k
  rw [hc]
  show (if 4 ≤ List.length _ ∧ st.length ≤ 8 ∧ i < xM (mk S) ∧ xK (mk S) i = .inl ci then _ else _) = _
  rw [if_pos ⟨by simp only [List.length_cons]; omega, hl, hi⟩]
  rfl
theorem g_invS4 {scr : Nat × (Nat → Int32)} {d mid pc : Nat} {L : XL} {st : List XV} {S S1 : Mem} {r : Option XV} {v0 v1 v2 v3 : XV} {mid1 n dc : Nat} {r1 : Option XV} {S2 : Mem} (hc : xcode scr mid pc = x_invS mid1 4 n) (hd : dc + 1 ≤ d) (hl : st.length ≤ 8) (h1 : ∀ d, dc ≤ d → XG scr d mid1 0 (xargs [v0, v1, v2, v3]) [] S r1 S2) (k : XG scr d mid n L (r1.toList ++ st) S2 r S1) : XG scr d mid pc L (v3 :: v2 :: v1 :: v0 :: st) S r S1 := by
  obtain ⟨d, rfl⟩ : ∃ d', d = d' + 1 := ⟨d - 1, by omega⟩
  refine XOK_call (mid1 := mid1) (as := [v0, v1, v2, v3]) (pc1 := n) (st1 := st) ?_ (h1 d (by omega)) k
  rw [hc]
  show (if 4 ≤ List.length _ ∧ st.length ≤ 8 then _ else _) = _
  rw [if_pos ⟨by simp only [List.length_cons]; omega, hl⟩]
  rfl
theorem g_inv5 {scr : Nat × (Nat → Int32)} {d mid pc : Nat} {L : XL} {st : List XV} {S S1 : Mem} {r : Option XV} {v0 v1 v2 v3 v4 : XV} {i ci mid1 n dc : Nat} {r1 : Option XV} {S2 : Mem} (hc : xcode scr mid pc = x_inv mid1 ci 5 n) (hd : dc + 1 ≤ d) (hi : Ty ci i) (hl : st.length ≤ 8) (h1 : ∀ d, dc ≤ d → XG scr d mid1 0 (xargs [.inr (some (some i)), v0, v1, v2, v3, v4]) [] S r1 S2) (k : XG scr d mid n L (r1.toList ++ st) S2 r S1) : XG scr d mid pc L (v4 :: v3 :: v2 :: v1 :: v0 :: .inr (some (some i)) :: st) S r S1 := by
  obtain ⟨d, rfl⟩ : ∃ d', d = d' + 1 := ⟨d - 1, by omega⟩
  refine XOK_call (mid1 := mid1) (as := [.inr (some (some i)), v0, v1, v2, v3, v4]) (pc1 := n) (st1 := st) ?_ (h1 d (by omega)) k
  rw [hc]
  show (if 5 ≤ List.length _ ∧ st.length ≤ 8 ∧ i < xM (mk S) ∧ xK (mk S) i = .inl ci then _ else _) = _
  rw [if_pos ⟨by simp only [List.length_cons]; omega, hl, hi⟩]
  rfl
theorem g_invS5 {scr : Nat × (Nat → Int32)} {d mid pc : Nat} {L : XL} {st : List XV} {S S1 : Mem} {r : Option XV} {v0 v1 v2 v3 v4 : XV} {mid1 n dc : Nat} {r1 : Option XV} {S2 : Mem} (hc : xcode scr mid pc = x_invS mid1 5 n) (hd : dc + 1 ≤ d) (hl : st.length ≤ 8) (h1 : ∀ d, dc ≤ d → XG scr d mid1 0 (xargs [v0, v1, v2, v3, v4]) [] S r1 S2) (k : XG scr d mid n L (r1.toList ++ st) S2 r S1) : XG scr d mid pc L (v4 :: v3 :: v2 :: v1 :: v0 :: st) S r S1 := by
  obtain ⟨d, rfl⟩ : ∃ d', d = d' + 1 := ⟨d - 1, by omega⟩
  refine XOK_call (mid1 := mid1) (as := [v0, v1, v2, v3, v4]) (pc1 := n) (st1 := st) ?_ (h1 d (by omega)) k
  rw [hc]
  show (if 5 ≤ List.length _ ∧ st.length ≤ 8 then _ else _) = _
  rw [if_pos ⟨by simp only [List.length_cons]; omega, hl⟩]
  rfl
theorem sw_def {x : Int32} {lo hi : Int} {n : Nat} (hn : hi = lo + n) (cs : List Int32) (hcs : ∀ k, k < n + 1 → Int32.ofInt (lo + (k : Nat)) ∈ cs) (h : ∀ c ∈ cs, ¬ x = c) : x.toInt < lo ∨ hi < x.toInt := by
  by_cases h1 : x.toInt < lo
  · exact Or.inl h1
  by_cases h2 : hi < x.toInt
  · exact Or.inr h2
  have hk : lo + ((x.toInt - lo).toNat : Nat) = x.toInt := by omega
  have := hcs (x.toInt - lo).toNat (by omega)
  rw [hk, Int32.ofInt_toInt] at this
  exact absurd rfl (h x this)
theorem fc {x c : Int32} {cs : List Int32} (h : ¬ x = c) (t : ∀ c ∈ cs, ¬ x = c) : ∀ c' ∈ c :: cs, ¬ x = c' := fun c' hc => by
  rcases List.mem_cons.mp hc with rfl | hc
  · exact h
  · exact t c' hc
theorem fn {x : Int32} : ∀ c ∈ ([] : List Int32), ¬ x = c := fun _ h => by cases h
theorem tsw_d {x : Int32} {lo hi : Int} {ts : List Nat} {t : Nat} (h : x.toInt < lo ∨ hi < x.toInt) : (if x.toInt < lo ∨ hi < x.toInt then some t else ts[(x.toInt - lo).toNat]?) = some t := if_pos h
theorem lsw_d {x : Int32} {ps : List (Int × Nat)} {t : Nat} (h : ∀ q ∈ ps, ¬ x.toInt = q.1) : (match ps.find? (fun q => decide (x.toInt = q.1)) with | some q => q.2 | none => t) = t := by
  have : ps.find? (fun q => decide (x.toInt = q.1)) = none := List.find?_eq_none.mpr fun q hq => by simpa using h q hq
  rw [this]
theorem lsw_c {x : Int32} {z : Int} {n : Nat} {ps : List (Int × Nat)} (h : ¬ x = Int32.ofInt z) (t : ∀ q ∈ ps, ¬ x.toInt = q.1) : ∀ q ∈ (z, n) :: ps, ¬ x.toInt = q.1 := fun q hq => by
  rcases List.mem_cons.mp hq with rfl | hq
  · exact fun e => h (by have e2 : x.toInt = z := e; rw [← e2, Int32.ofInt_toInt])
  · exact t q hq
theorem lsw_n {x : Int32} : ∀ q ∈ ([] : List (Int × Nat)), ¬ x.toInt = q.1 := fun _ h => by cases h
