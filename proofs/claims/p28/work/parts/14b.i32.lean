/-! 14b: small laws of whole numbers -/
theorem n_le {a b : Nat} (ha : a < 2 ^ 31) (hb : b < 2 ^ 31) : Int32.ofNat a ≤ Int32.ofNat b ↔ a ≤ b := Int32.ofNat_le_iff_le ha hb
theorem n_lt {a b : Nat} (ha : a < 2 ^ 31) (hb : b < 2 ^ 31) : Int32.ofNat a < Int32.ofNat b ↔ a < b := Int32.ofNat_lt_iff_lt ha hb
theorem n_int {a : Nat} (ha : a < 2 ^ 31) : (Int32.ofNat a).toInt = a := Int32.toInt_ofNat_of_lt ha
theorem n_clamp {a : Nat} (ha : a < 2 ^ 31) : (Int32.ofNat a).toNatClampNeg = a := Int32.toNatClampNeg_ofNat_of_lt ha
theorem n_neg {a : Nat} (ha : a < 2 ^ 31) : ¬ Int32.ofNat a < 0 := fun h => by
  rw [Int32.lt_iff_toInt_lt, n_int ha] at h
  have : (0 : Int32).toInt = 0 := by decide
  omega
theorem n_inj {a b : Nat} (ha : a < 2 ^ 31) (hb : b < 2 ^ 31) : Int32.ofNat a = Int32.ofNat b ↔ a = b := ⟨fun h => by
  have := congrArg Int32.toInt h
  rw [n_int ha, n_int hb] at this
  omega, fun h => by rw [h]⟩
theorem n_succ (a : Nat) : Int32.ofNat a + 1 = Int32.ofNat (a + 1) := (Int32.ofNat_add a 1).symm
theorem n_add (a b : Nat) : Int32.ofNat a + Int32.ofNat b = Int32.ofNat (a + b) := (Int32.ofNat_add a b).symm
theorem n_mul (a b : Nat) : Int32.ofNat a * Int32.ofNat b = Int32.ofNat (a * b) := (Int32.ofNat_mul a b).symm
theorem n_sub {a b : Nat} (h : b ≤ a) : Int32.ofNat a - Int32.ofNat b = Int32.ofNat (a - b) := (Int32.ofNat_sub a b h).symm
theorem n_of {x : Int32} (h : 0 ≤ x) : x = Int32.ofNat x.toNatClampNeg := (Int32.ofNat_toNatClampNeg x h).symm
theorem z_int : (0 : Int32).toInt = 0 := by decide
/-- the rest of a division -/
theorem irm_int {x y : Int32} (hy : 0 < y.toInt) : (irm x y).toInt = x.toInt.tmod y.toInt := by
  unfold irm
  have hy2 : y ≠ -1 := fun h => by
    rw [h] at hy
    exact absurd hy (by decide)
  rw [Int32.toInt_sub, Int32.toInt_mul, Int32.toInt_div_of_ne_right _ _ hy2, Int.sub_bmod_bmod]
  have e : x.toInt - x.toInt.tdiv y.toInt * y.toInt = x.toInt.tmod y.toInt := by
    have := Int.tmod_add_mul_tdiv x.toInt y.toInt
    have h2 := Int.mul_comm (x.toInt.tdiv y.toInt) y.toInt
    omega
  rw [e]
  have h1 := Int32.toInt_lt y
  have h2 := Int.tmod_lt_of_pos x.toInt hy
  have h3 : -y.toInt < x.toInt.tmod y.toInt := by
    have := Int.lt_tmod_of_pos x.toInt hy
    omega
  apply Int.bmod_eq_of_le_mul_two <;> omega
theorem tmod_nn {a b : Int} (h : 0 ≤ a) : a.tmod b = a % b := Int.tmod_eq_emod_of_nonneg h
theorem tdiv_nn {a b : Int} (h : 0 ≤ a) : a.tdiv b = a / b := Int.tdiv_eq_ediv_of_nonneg h
theorem idiv_int {x y : Int32} (hx : 0 ≤ x.toInt) (hy : 0 < y.toInt) : (x / y).toInt = x.toInt / y.toInt := by
  have hy2 : y ≠ -1 := fun h => by
    rw [h] at hy
    exact absurd hy (by decide)
  rw [Int32.toInt_div_of_ne_right _ _ hy2, tdiv_nn hx]
/-! small laws of the functions over the cells -/
theorem ald_k {S : Mem} {a : Nat} {j : Int32} (k : Nat) (h : (¬ (j < 0 ∨ ln a ≤ j.toNatClampNeg)) ∧ j.toNatClampNeg = k) : ald S a j = some (S a k) := by
  unfold ald
  rw [if_neg h.1, h.2]
theorem ast_k {S : Mem} {a : Nat} {j x : Int32} (k : Nat) (h : (¬ (j < 0 ∨ ln a ≤ j.toNatClampNeg)) ∧ j.toNatClampNeg = k) : ast S a j x = some (up2 S a k x) := by
  unfold ast
  rw [if_neg h.1, h.2]
theorem ald_n {S : Mem} {a k : Nat} (h : k < ln a) (h2 : ln a < 2 ^ 31) : ald S a (Int32.ofNat k) = some (S a k) := by
  have hk : k < 2 ^ 31 := Nat.lt_trans h h2
  refine ald_k k ⟨fun q => ?_, n_clamp hk⟩
  rcases q with q | q
  · exact n_neg hk q
  · rw [n_clamp hk] at q
    omega
theorem ast_n {S : Mem} {a k : Nat} {x : Int32} (h : k < ln a) (h2 : ln a < 2 ^ 31) : ast S a (Int32.ofNat k) x = some (up2 S a k x) := by
  have hk : k < 2 ^ 31 := Nat.lt_trans h h2
  refine ast_k k ⟨fun q => ?_, n_clamp hk⟩
  rcases q with q | q
  · exact n_neg hk q
  · rw [n_clamp hk] at q
    omega
theorem bd_some {α β γ : Type} (a : α) (b : β) (k : α → β → Option γ) : bd (some (a, b)) k = k a b := rfl
theorem obs {α β : Type} (a : α) (k : α → Option β) : (some a).bind k = k a := rfl
theorem getS {α : Type} {q : Option α} (h : q.isSome = true) : ∃ x, q = some x := by
  cases q with
  | none => cases h
  | some x => exact ⟨x, rfl⟩
theorem up2_ne {S : Mem} {a b f g : Nat} {v : Int32} (h : b ≠ a) : up2 S a f v b g = S b g := by
  unfold up2 xup
  rw [if_neg h]
theorem up2_nf {S : Mem} {a b f g : Nat} {v : Int32} (h : g ≠ f) : up2 S a f v b g = S b g := by
  unfold up2 xup
  split
  · rename_i e
    rw [e]
    unfold upd
    rw [if_neg h]
  · rfl
theorem up2_self {S : Mem} {a f : Nat} {v : Int32} : up2 S a f v a f = v := by
  unfold up2 xup upd
  rw [if_pos rfl, if_pos rfl]
theorem ln698 : ln 698 = 1018 := by decide +kernel
theorem ln699 : ln 699 = 1018 := by decide +kernel
theorem ln700 : ln 700 = 1018 := by decide +kernel
theorem ln701 : ln 701 = 1018 := by decide +kernel
theorem ln704 : ln 704 = 6 := by decide +kernel
theorem ln705 : ln 705 = 6 := by decide +kernel
theorem ln706 : ln 706 = 6 := by decide +kernel
theorem at_n {S : Mem} {a k : Nat} (h : a * 77 + k < 1018) : fm_at (Int32.ofNat a) (Int32.ofNat k) S = some (S 698 (a * 77 + k)) := by
  unfold fm_at
  rw [show (77 : Int32) = Int32.ofNat 77 from rfl, n_mul, n_add, ald_n (by rw [ln698]; exact h) (by rw [ln698]; decide), obs]
theorem sets_n {S : Mem} {a k : Nat} {x : Int32} (h : a * 77 + k < 1018) : fm_sets (Int32.ofNat a) (Int32.ofNat k) x S = some (up2 S 698 (a * 77 + k) x) := by
  unfold fm_sets
  rw [show (77 : Int32) = Int32.ofNat 77 from rfl, n_mul, n_add, ast_n (by rw [ln698]; exact h) (by rw [ln698]; decide), obs]
/-- the same range, told from both sides -/
theorem mIn {S : Mem} (v a b : Int32) : fm_in v a b S = some (if v < a then 0 else if b < v then 0 else 1) := by
  unfold fm_in
  split
  · rfl
  · split <;> rfl
/-- a row is laid full of noughts -/
theorem xz_loop (o L : Nat) (hl : ln (o + 1) = L) (hL : L < 2 ^ 31) (a : Int32) : ∀ (m n k : Nat) (S : Mem), k + m = L → m < n → fn_fillWithZeros_2 n o a (Int32.ofNat k) S = some (up2 (xup S (o + 1) (fun g => if k ≤ g ∧ g < L then 0 else S (o + 1) g)) o 1 (imx 0 (imn a (Int32.ofNat L))))
  | _, 0, _, _, _, h => absurd h (Nat.not_lt_zero _)
  | 0, n + 1, k, S, h, _ => by
    show fn_fillWithZeros_2b (fn_fillWithZeros_2 n) o a (Int32.ofNat k) S = _
    unfold fn_fillWithZeros_2b
    rw [hl, if_pos ((n_le hL (by omega)).mpr (by omega)), obs]
    congr 1
    have : xup S (o + 1) (fun g => if k ≤ g ∧ g < L then 0 else S (o + 1) g) = S := by
      funext b g
      unfold xup
      split
      · rename_i e
        show (if k ≤ g ∧ g < L then (0 : Int32) else S (o + 1) g) = S b g
        rw [if_neg (by omega), e]
      · rfl
    rw [this]
  | m + 1, n + 1, k, S, h, hn => by
    show fn_fillWithZeros_2b (fn_fillWithZeros_2 n) o a (Int32.ofNat k) S = _
    unfold fn_fillWithZeros_2b
    rw [hl, if_neg (fun q => by have := (n_le hL (by omega)).mp q; omega), ast_n (by omega) (by omega), obs, n_succ, xz_loop o L hl hL a m n (k + 1) _ (by omega) (by omega)]
    congr 2
    funext b g
    unfold up2 xup upd
    split
    · rename_i e
      simp only [if_pos]
      by_cases e2 : g = k
      · rw [e2, if_neg (by omega), if_pos rfl, if_pos (by omega)]
      · rw [if_neg e2]
        by_cases e3 : k + 1 ≤ g ∧ g < L
        · rw [if_pos e3, if_pos (by omega)]
        · rw [if_neg e3, if_neg (by omega)]
    · rfl
theorem xz_fill {o L : Nat} {a : Int32} {S : Mem} (hl : ln (o + 1) = L) (hL : L < 3000) : fn_fillWithZeros o a S = some (up2 (xup S (o + 1) (fun g => if 0 ≤ g ∧ g < L then 0 else S (o + 1) g)) o 1 (imx 0 (imn a (Int32.ofNat L)))) := xz_loop o L hl (by omega) a L LF 0 S (by omega) (by show L < 3000; omega)
theorem mr_loop (v1 : Int32) {i : Nat} (hi : ix v1 6 = some i) : ∀ (m n k : Nat) (S : Mem), k + m = 60 → m < n → fm_row_39 n v1 (Int32.ofNat k) S = some (1, xup S (708 + i) (fun g => if k ≤ g ∧ g < 60 then 0 else S (708 + i) g))
  | _, 0, _, _, _, h => absurd h (Nat.not_lt_zero _)
  | 0, n + 1, k, S, h, _ => by
    show fm_row_39b (fm_row_39 n) v1 (Int32.ofNat k) S = _
    unfold fm_row_39b
    rw [show (60 : Int32) = Int32.ofNat 60 from rfl, if_pos ((n_le (by omega) (by omega)).mpr (by omega))]
    congr 2
    funext b g
    unfold xup
    split
    · rename_i e
      show S b g = (if k ≤ g ∧ g < 60 then (0 : Int32) else S (708 + i) g)
      rw [if_neg (by omega), e]
    · rfl
  | m + 1, n + 1, k, S, h, hn => by
    have hl : ln (708 + i) = 60 := by
      have := ix_lt hi
      have : i = 0 ∨ i = 1 ∨ i = 2 ∨ i = 3 ∨ i = 4 ∨ i = 5 := by omega
      rcases this with rfl | rfl | rfl | rfl | rfl | rfl <;> decide +kernel
    show fm_row_39b (fm_row_39 n) v1 (Int32.ofNat k) S = _
    unfold fm_row_39b
    rw [show (60 : Int32) = Int32.ofNat 60 from rfl, if_neg (fun q => by have := (n_le (by omega) (by omega)).mp q; omega), hi, obs, ast_n (by omega) (by omega), obs, n_succ, mr_loop v1 hi m n (k + 1) _ (by omega) (by omega)]
    congr 2
    funext b g
    unfold up2 xup upd
    split
    · rename_i e
      simp only [if_pos]
      by_cases e2 : g = k
      · rw [e2, if_neg (by omega), if_pos rfl, if_pos (by omega)]
      · rw [if_neg e2]
        by_cases e3 : k + 1 ≤ g ∧ g < 60
        · rw [if_pos e3, if_pos (by omega)]
        · rw [if_neg e3, if_neg (by omega)]
    · rfl
/-! what sbw may be, told from both sides -/
theorem rule_s {v : Int32} (h : 0 ≤ v) : (¬ v / 1000 < 0) ∧ (2 < v / 1000 ↔ 2999 < v) ∧ (¬ irm (v / 100) 10 < 0) ∧ ¬ 9 < irm (v / 100) 10 := by
  rw [Int32.le_iff_toInt_le, z_int] at h
  have e1 : (v / 1000).toInt = v.toInt / 1000 := idiv_int h (by decide)
  have e2 : (v / 100).toInt = v.toInt / 100 := idiv_int h (by decide)
  have e3 : (irm (v / 100) 10).toInt = (v.toInt / 100) % 10 := by
    rw [irm_int (by decide), e2, tmod_nn (by omega)]
    rfl
  simp only [Int32.lt_iff_toInt_lt, e1, e3, z_int]
  have c2 : (2 : Int32).toInt = 2 := by decide
  have c9 : (9 : Int32).toInt = 9 := by decide
  have c3 : (2999 : Int32).toInt = 2999 := by decide
  rw [c2, c9, c3]
  omega
