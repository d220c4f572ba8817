/-! 40: the reference: one row of numbers -/
variable {en : Int32}
theorem upd_s {f : Nat → Int32} {k : Nat} {v : Int32} : upd f k v k = v := if_pos rfl
theorem upd_n {f : Nat → Int32} {k j : Nat} {v : Int32} (h : j ≠ k) : upd f k v j = f j := if_neg h
theorem i77 (a k : Nat) : Int32.ofNat a * 77 + Int32.ofNat k = Int32.ofNat (77 * a + k) := by
  rw [show (77 : Int32) = Int32.ofNat 77 from rfl, n_mul, n_add, Nat.mul_comm]
theorem i8 (n : Nat) : (8 : Int32) + Int32.ofNat n = Int32.ofNat (8 + n) := n_add 8 n
theorem i14 (n : Nat) : (14 : Int32) + Int32.ofNat n = Int32.ofNat (14 + n) := n_add 14 n
theorem i39 (n : Nat) : (39 : Int32) + Int32.ofNat n = Int32.ofNat (39 + n) := n_add 39 n
theorem i52 (n : Nat) : (52 : Int32) + Int32.ofNat n = Int32.ofNat (52 + n) := n_add 52 n
theorem i65 (n : Nat) : (65 : Int32) + Int32.ofNat n = Int32.ofNat (65 + n) := n_add 65 n
theorem i963 (n : Nat) : (963 : Int32) + Int32.ofNat n = Int32.ofNat (963 + n) := n_add 963 n
theorem i932 (n : Nat) : (932 : Int32) + Int32.ofNat n = Int32.ofNat (932 + n) := n_add 932 n
theorem i14d (n : Nat) : (14 : Int32) + (2 * Int32.ofNat n) = Int32.ofNat (14 + 2 * n) := by
  rw [show (14 : Int32) = Int32.ofNat 14 from rfl, show (2 : Int32) = Int32.ofNat 2 from rfl, n_mul, n_add]
theorem i14e (n : Nat) : (14 : Int32) + (2 * Int32.ofNat n) + 1 = Int32.ofNat (14 + 2 * n + 1) := by
  rw [i14d, n_succ]
theorem i39d (n : Nat) : (39 : Int32) + (2 * Int32.ofNat n) = Int32.ofNat (39 + 2 * n) := by
  rw [show (39 : Int32) = Int32.ofNat 39 from rfl, show (2 : Int32) = Int32.ofNat 2 from rfl, n_mul, n_add]
theorem i39e (n : Nat) : (39 : Int32) + (2 * Int32.ofNat n) + 1 = Int32.ofNat (39 + 2 * n + 1) := by
  rw [i39d, n_succ]
theorem i994d (n : Nat) : (994 : Int32) + (2 * Int32.ofNat n) = Int32.ofNat (994 + 2 * n) := by
  rw [show (994 : Int32) = Int32.ofNat 994 from rfl, show (2 : Int32) = Int32.ofNat 2 from rfl, n_mul, n_add]
theorem i994e (n : Nat) : (994 : Int32) + (2 * Int32.ofNat n) + 1 = Int32.ofNat (994 + 2 * n + 1) := by
  rw [i994d, n_succ]
theorem i932t (n : Nat) : (932 : Int32) + (3 * Int32.ofNat n) = Int32.ofNat (932 + 3 * n) := by
  rw [show (932 : Int32) = Int32.ofNat 932 from rfl, show (3 : Int32) = Int32.ofNat 3 from rfl, n_mul, n_add]
theorem i932t0 (n : Nat) : (932 : Int32) + (3 * Int32.ofNat n) + 0 = Int32.ofNat (932 + 3 * n + 0) := by
  rw [i932t]
  exact n_add _ 0
theorem i932t1 (n : Nat) : (932 : Int32) + (3 * Int32.ofNat n) + 1 = Int32.ofNat (932 + 3 * n + 1) := by
  rw [i932t]
  exact n_add _ 1
theorem i932t2 (n : Nat) : (932 : Int32) + (3 * Int32.ofNat n) + 2 = Int32.ofNat (932 + 3 * n + 2) := by
  rw [i932t]
  exact n_add _ 2
theorem im2 (n : Nat) : 2 * Int32.ofNat n = Int32.ofNat (2 * n) := n_mul 2 n
/-- a body as the reference has it -/
def bm (v : Int32) : Int32 := if 200 ≤ v then v + 800 else v
def tAt (f : Nat → Int32) (i : Nat) : Tmr := (f (932 + 3 * i), f (932 + 3 * i + 1), f (932 + 3 * i + 2))
/-- as they will be due -/
def tSort (tl : List Tmr) : List Tmr := tl.foldl (fun l t => tIns t l) []
def lgv (m : Msg) : Int32 := 1000 * m.1 + m.2 + 300
/-- lengths that fit -/
def fitA (x : Act) : Prop := (aStk x).length ≤ 5 ∧ (aMail x).length ≤ 12 ∧ (aStash x).length ≤ 6 ∧ (aWat x).length ≤ 12 ∧ (aNot x).length ≤ 10
theorem tSort_len (tl : List Tmr) : (tSort tl).length = tl.length := by
  have h : ∀ (tl l : List Tmr), (tl.foldl (fun l t => tIns t l) l).length = l.length + tl.length := by
    intro tl
    induction tl with
    | nil => intro l; rfl
    | cons t tl ih =>
      intro l
      show (tl.foldl (fun l t => tIns t l) (tIns t l)).length = _
      rw [ih, tIns_len, List.length_cons]
      omega
  have := h tl []
  rw [List.length_nil, Nat.zero_add] at this
  exact this
theorem okA.fit {n b : Nat} {x : Act} (h : okA n b x) (hn : n ≤ 12) : fitA x := ⟨h.2.2.2.2.2.2.1.2.1, h.2.2.2.2.2.2.2.1.1, h.2.2.2.2.2.2.2.2.1.1, h.wat hn, h.2.2.2.2.2.2.2.2.2.2⟩
theorem Inv.fit {w : Wst} (h : Inv w) {a : Nat} (ha : a < wN w) : fitA (wA w a) := (h.2.1 a ha).fit h.1
/-! looks -/
