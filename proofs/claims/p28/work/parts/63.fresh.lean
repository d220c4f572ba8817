/-! 63: a new object -/
def a00 : Act := (fun _ => 0, [], [], [], [], [])
def w00 : Wst := (0, fun k => if k = 5 then -1 else if k = 9 then 1 else 0, fun _ => a00, [], [], [])
def h00 : Nat → Hd := fun _ => (0, 0, [])
theorem w00_good : Good w00 := by
  have no : ∀ {b : Nat} {P : Prop}, b < wN w00 → P := fun h => absurd h (Nat.not_lt_zero _)
  exact ⟨⟨Nat.zero_le _, fun _ hb => no hb, ⟨Nat.zero_le _, List.Pairwise.nil, fun _ ht => absurd ht List.not_mem_nil⟩, ⟨Nat.zero_le _, fun _ ht => absurd ht List.not_mem_nil⟩, ⟨Nat.zero_le _, fun _ ht => absurd ht List.not_mem_nil⟩, Or.inl rfl⟩, ⟨fun _ hb => no hb, fun _ ht => absurd ht List.not_mem_nil, fun _ hb => no hb⟩, fun _ hb => no hb⟩
theorem i00_w : I0 1 4 = 0 ∧ (∀ k, k < 11 → 5 ≤ k → I0 1 k = wI w00 k) ∧ I0 (1 + 2) 3 = 0 ∧ I0 (1 + 6) 2 = 0 ∧ I0 (1 + 9) 2 = 0 ∧ I0 0 6 = 0 ∧ I0 674 1 = 0 := by decide +kernel
theorem i00_h : ∀ h, h < 6 → I0 (679 + 3 * h) 1 = 0 ∧ I0 704 h = 0 := by decide +kernel
theorem i00_m : I0 698 924 = 0 ∧ I0 698 925 = 0 ∧ I0 698 926 = 0 ∧ I0 698 927 = 0 ∧ I0 698 928 = -1 ∧ I0 698 929 = 1 ∧ I0 698 930 = 0 ∧ I0 698 931 = 0 ∧ I0 698 962 = 0 ∧ I0 698 993 = 0 ∧ I0 697 4 = 0 ∧ I0 697 11 = 0 := by decide +kernel
theorem nil_get {α β : Type} {i : Nat} {m : α} {P : β} (h : ([] : List α)[i]? = some m) : False := by simp at h
theorem rel_0 : REL I0 w00 none [] h00 := by
  obtain ⟨c1, c2, c3, c4, c5, c6, c7⟩ := i00_w
  obtain ⟨m1, m2, m3, m4, m5, m6, m7, m8, m9, m10, m11, m12⟩ := i00_m
  refine ⟨⟨⟨c1, fun k k1 k2 => c2 k (by omega) k1, fun a ha => absurd ha (Nat.not_lt_zero _), ⟨c3, fun i hi => absurd hi (Nat.not_lt_zero _)⟩, RP.len0 c4, RP.len0 c5⟩, c6, RN.len0 c7, fun h hh => ⟨(i00_h h hh).1, fun q => absurd (show (0 : Int32) = 1 from q) (by decide), fun q => absurd (show (0 : Int32) = 2 from q) (by decide)⟩⟩, ⟨⟨m1, ⟨m2, m3, m4, m5, m6, m7⟩, fun a ha => absurd ha (Nat.not_lt_zero _), ⟨[], ⟨m8, fun i hi => absurd hi (Nat.not_lt_zero _)⟩, rfl⟩, ⟨m9, fun i m hm => absurd (List.getElem?_eq_some_iff.mp hm).1 (Nat.not_lt_zero _)⟩, ⟨m10, fun i m hm => absurd (List.getElem?_eq_some_iff.mp hm).1 (Nat.not_lt_zero _)⟩⟩, m11, ⟨m12, fun i hi => absurd hi (Nat.not_lt_zero _)⟩, fun h hh => ⟨(i00_h h hh).2, fun q => absurd (show (0 : Int32) = 1 from q) (by decide), fun q => absurd (show (0 : Int32) = 2 from q) (by decide)⟩⟩, w00_good, fun k hk => absurd hk (by simp), Nat.zero_le _, fun q hq => absurd hq List.not_mem_nil, fun h hh => ⟨Or.inl rfl, fun q => absurd (show (0 : Int32) = 1 from q) (by decide), fun q => absurd (show (0 : Int32) = 2 from q) (by decide)⟩⟩
/-! ints of the script -/
theorem l_end {L i : Nat} (hL : L ≤ 4096) (hi : 4 * i ≤ 8192) : Int32.ofNat L - 4 < Int32.ofNat (4 * i) ↔ L < 4 * i + 4 := by
  have h4 : (4 : Int32).toInt = 4 := by decide
  have e : (Int32.ofNat L - 4).toInt = (L : Int) - 4 := by
    rw [Int32.toInt_sub, n_int (by omega), h4]
    apply Int.bmod_eq_of_le_mul_two <;> omega
  rw [Int32.lt_iff_toInt_lt, e, n_int (by omega)]
  omega
theorem l_int {L j : Nat} {xs : Nat → Int32} (hL : L ≤ 4096) (hj : j < L) : sld (L, xs) (Int32.ofNat j) = some (xs j) := by
  unfold sld
  rw [n_clamp (by omega), if_neg]
  rintro (q | q)
  · exact n_neg (by omega) q
  · exact absurd hj (Nat.not_lt.mpr q)
theorem l_1 (j : Nat) : Int32.ofNat j + 1 = Int32.ofNat (j + 1) := n_succ j
theorem l_2 (j : Nat) : Int32.ofNat j + 2 = Int32.ofNat (j + 2) := n_add j 2
theorem l_3 (j : Nat) : Int32.ofNat j + 3 = Int32.ofNat (j + 3) := n_add j 3
theorem l_4 (j : Nat) : Int32.ofNat (4 * j) + 4 = Int32.ofNat (4 * (j + 1)) := n_add (4 * j) 4
