/-! 40: the reference: one row of numbers -/
variable {en : Int32}
def gM (S : Mem) (f : Nat → Int32) : Mem := xup S 698 f
theorem gM_at {S : Mem} {f : Nat → Int32} : gM S f 698 = f := by
  unfold gM xup
  rw [if_pos rfl]
theorem gM_off {S : Mem} {f : Nat → Int32} {b : Nat} (h : b ≠ 698) : gM S f b = S b := by
  unfold gM xup
  rw [if_neg h]
theorem gM_mS {S : Mem} {f g : Nat → Int32} : gM (gM S f) g = gM S g := by
  funext b
  unfold gM xup
  split <;> rfl
theorem gM_eta (S : Mem) : gM S (S 698) = S := by
  funext b
  unfold gM xup
  split
  · rename_i h
    rw [h]
  · rfl
theorem gM_up2 {S : Mem} {f : Nat → Int32} {b k : Nat} {v : Int32} (h : b ≠ 698) : up2 (gM S f) b k v = gM (up2 S b k v) f := by
  funext c
  unfold up2 gM xup
  by_cases e : c = b
  · subst e
    simp only [eq_self, if_true, h, if_false]
  · rw [if_neg e]
    by_cases e2 : c = 698
    · rw [if_pos e2, if_pos e2]
    · rw [if_neg e2, if_neg e2, if_neg e]
theorem upd_s {f : Nat → Int32} {k : Nat} {v : Int32} : upd f k v k = v := if_pos rfl
theorem upd_n {f : Nat → Int32} {k j : Nat} {v : Int32} (h : j ≠ k) : upd f k v j = f j := if_neg h
theorem gv {S : Mem} {f : Nat → Int32} {k : Nat} (h : k < 1018) : ald (gM S f) 698 (Int32.ofNat k) = some (f k) := by
  rw [ald_n (by rw [ln698]; exact h) (by rw [ln698]; decide), gM_at]
theorem gs {S : Mem} {f : Nat → Int32} {k : Nat} {v : Int32} (h : k < 1018) : ast (gM S f) 698 (Int32.ofNat k) v = some (gM S (upd f k v)) := by
  rw [ast_n (by rw [ln698]; exact h) (by rw [ln698]; decide)]
  unfold up2
  rw [gM_at]
  show some (gM (gM S f) (upd f k v)) = _
  rw [gM_mS]
theorem i77 (a k : Nat) : Int32.ofNat a * 77 + Int32.ofNat k = Int32.ofNat (77 * a + k) := by
  rw [show (77 : Int32) = Int32.ofNat 77 from rfl, n_mul, n_add, Nat.mul_comm]
theorem at_v {S : Mem} {f : Nat → Int32} {a k : Nat} (ha : a < 12) (hk : k < 77) : fm_at (Int32.ofNat a) (Int32.ofNat k) (gM S f) = some (f (77 * a + k)) := by
  unfold fm_at
  rw [i77, gv (by omega), obs]
theorem st_v {S : Mem} {f : Nat → Int32} {a k : Nat} {v : Int32} (ha : a < 12) (hk : k < 77) : fm_sets (Int32.ofNat a) (Int32.ofNat k) v (gM S f) = some (gM S (upd f (77 * a + k) v)) := by
  unfold fm_sets
  rw [i77, gs (by omega), obs]
theorem at_0 {S : Mem} {f : Nat → Int32} {a : Nat} (ha : a < 12) : fm_at (Int32.ofNat a) 0 (gM S f) = some (f (77 * a + 0)) := at_v ha (by decide)
theorem st_0 {S : Mem} {f : Nat → Int32} {a : Nat} {v : Int32} (ha : a < 12) : fm_sets (Int32.ofNat a) 0 v (gM S f) = some (gM S (upd f (77 * a + 0) v)) := st_v ha (by decide)
theorem at_1 {S : Mem} {f : Nat → Int32} {a : Nat} (ha : a < 12) : fm_at (Int32.ofNat a) 1 (gM S f) = some (f (77 * a + 1)) := at_v ha (by decide)
theorem st_1 {S : Mem} {f : Nat → Int32} {a : Nat} {v : Int32} (ha : a < 12) : fm_sets (Int32.ofNat a) 1 v (gM S f) = some (gM S (upd f (77 * a + 1) v)) := st_v ha (by decide)
theorem at_2 {S : Mem} {f : Nat → Int32} {a : Nat} (ha : a < 12) : fm_at (Int32.ofNat a) 2 (gM S f) = some (f (77 * a + 2)) := at_v ha (by decide)
theorem st_2 {S : Mem} {f : Nat → Int32} {a : Nat} {v : Int32} (ha : a < 12) : fm_sets (Int32.ofNat a) 2 v (gM S f) = some (gM S (upd f (77 * a + 2) v)) := st_v ha (by decide)
theorem at_3 {S : Mem} {f : Nat → Int32} {a : Nat} (ha : a < 12) : fm_at (Int32.ofNat a) 3 (gM S f) = some (f (77 * a + 3)) := at_v ha (by decide)
theorem st_3 {S : Mem} {f : Nat → Int32} {a : Nat} {v : Int32} (ha : a < 12) : fm_sets (Int32.ofNat a) 3 v (gM S f) = some (gM S (upd f (77 * a + 3) v)) := st_v ha (by decide)
theorem at_4 {S : Mem} {f : Nat → Int32} {a : Nat} (ha : a < 12) : fm_at (Int32.ofNat a) 4 (gM S f) = some (f (77 * a + 4)) := at_v ha (by decide)
theorem st_4 {S : Mem} {f : Nat → Int32} {a : Nat} {v : Int32} (ha : a < 12) : fm_sets (Int32.ofNat a) 4 v (gM S f) = some (gM S (upd f (77 * a + 4) v)) := st_v ha (by decide)
theorem at_5 {S : Mem} {f : Nat → Int32} {a : Nat} (ha : a < 12) : fm_at (Int32.ofNat a) 5 (gM S f) = some (f (77 * a + 5)) := at_v ha (by decide)
theorem st_5 {S : Mem} {f : Nat → Int32} {a : Nat} {v : Int32} (ha : a < 12) : fm_sets (Int32.ofNat a) 5 v (gM S f) = some (gM S (upd f (77 * a + 5) v)) := st_v ha (by decide)
theorem at_6 {S : Mem} {f : Nat → Int32} {a : Nat} (ha : a < 12) : fm_at (Int32.ofNat a) 6 (gM S f) = some (f (77 * a + 6)) := at_v ha (by decide)
theorem st_6 {S : Mem} {f : Nat → Int32} {a : Nat} {v : Int32} (ha : a < 12) : fm_sets (Int32.ofNat a) 6 v (gM S f) = some (gM S (upd f (77 * a + 6) v)) := st_v ha (by decide)
theorem at_7 {S : Mem} {f : Nat → Int32} {a : Nat} (ha : a < 12) : fm_at (Int32.ofNat a) 7 (gM S f) = some (f (77 * a + 7)) := at_v ha (by decide)
theorem st_7 {S : Mem} {f : Nat → Int32} {a : Nat} {v : Int32} (ha : a < 12) : fm_sets (Int32.ofNat a) 7 v (gM S f) = some (gM S (upd f (77 * a + 7) v)) := st_v ha (by decide)
theorem at_8 {S : Mem} {f : Nat → Int32} {a : Nat} (ha : a < 12) : fm_at (Int32.ofNat a) 8 (gM S f) = some (f (77 * a + 8)) := at_v ha (by decide)
theorem st_8 {S : Mem} {f : Nat → Int32} {a : Nat} {v : Int32} (ha : a < 12) : fm_sets (Int32.ofNat a) 8 v (gM S f) = some (gM S (upd f (77 * a + 8) v)) := st_v ha (by decide)
theorem at_13 {S : Mem} {f : Nat → Int32} {a : Nat} (ha : a < 12) : fm_at (Int32.ofNat a) 13 (gM S f) = some (f (77 * a + 13)) := at_v ha (by decide)
theorem st_13 {S : Mem} {f : Nat → Int32} {a : Nat} {v : Int32} (ha : a < 12) : fm_sets (Int32.ofNat a) 13 v (gM S f) = some (gM S (upd f (77 * a + 13) v)) := st_v ha (by decide)
theorem at_14 {S : Mem} {f : Nat → Int32} {a : Nat} (ha : a < 12) : fm_at (Int32.ofNat a) 14 (gM S f) = some (f (77 * a + 14)) := at_v ha (by decide)
theorem st_14 {S : Mem} {f : Nat → Int32} {a : Nat} {v : Int32} (ha : a < 12) : fm_sets (Int32.ofNat a) 14 v (gM S f) = some (gM S (upd f (77 * a + 14) v)) := st_v ha (by decide)
theorem at_15 {S : Mem} {f : Nat → Int32} {a : Nat} (ha : a < 12) : fm_at (Int32.ofNat a) 15 (gM S f) = some (f (77 * a + 15)) := at_v ha (by decide)
theorem st_15 {S : Mem} {f : Nat → Int32} {a : Nat} {v : Int32} (ha : a < 12) : fm_sets (Int32.ofNat a) 15 v (gM S f) = some (gM S (upd f (77 * a + 15) v)) := st_v ha (by decide)
theorem at_38 {S : Mem} {f : Nat → Int32} {a : Nat} (ha : a < 12) : fm_at (Int32.ofNat a) 38 (gM S f) = some (f (77 * a + 38)) := at_v ha (by decide)
theorem st_38 {S : Mem} {f : Nat → Int32} {a : Nat} {v : Int32} (ha : a < 12) : fm_sets (Int32.ofNat a) 38 v (gM S f) = some (gM S (upd f (77 * a + 38) v)) := st_v ha (by decide)
theorem at_51 {S : Mem} {f : Nat → Int32} {a : Nat} (ha : a < 12) : fm_at (Int32.ofNat a) 51 (gM S f) = some (f (77 * a + 51)) := at_v ha (by decide)
theorem st_51 {S : Mem} {f : Nat → Int32} {a : Nat} {v : Int32} (ha : a < 12) : fm_sets (Int32.ofNat a) 51 v (gM S f) = some (gM S (upd f (77 * a + 51) v)) := st_v ha (by decide)
theorem at_64 {S : Mem} {f : Nat → Int32} {a : Nat} (ha : a < 12) : fm_at (Int32.ofNat a) 64 (gM S f) = some (f (77 * a + 64)) := at_v ha (by decide)
theorem st_64 {S : Mem} {f : Nat → Int32} {a : Nat} {v : Int32} (ha : a < 12) : fm_sets (Int32.ofNat a) 64 v (gM S f) = some (gM S (upd f (77 * a + 64) v)) := st_v ha (by decide)
theorem g_924 {S : Mem} {f : Nat → Int32} : ald (gM S f) 698 924 = some (f 924) := gv (by decide)
theorem gs_924 {S : Mem} {f : Nat → Int32} {v : Int32} : ast (gM S f) 698 924 v = some (gM S (upd f 924 v)) := gs (by decide)
theorem g_925 {S : Mem} {f : Nat → Int32} : ald (gM S f) 698 925 = some (f 925) := gv (by decide)
theorem gs_925 {S : Mem} {f : Nat → Int32} {v : Int32} : ast (gM S f) 698 925 v = some (gM S (upd f 925 v)) := gs (by decide)
theorem g_926 {S : Mem} {f : Nat → Int32} : ald (gM S f) 698 926 = some (f 926) := gv (by decide)
theorem gs_926 {S : Mem} {f : Nat → Int32} {v : Int32} : ast (gM S f) 698 926 v = some (gM S (upd f 926 v)) := gs (by decide)
theorem g_927 {S : Mem} {f : Nat → Int32} : ald (gM S f) 698 927 = some (f 927) := gv (by decide)
theorem gs_927 {S : Mem} {f : Nat → Int32} {v : Int32} : ast (gM S f) 698 927 v = some (gM S (upd f 927 v)) := gs (by decide)
theorem g_928 {S : Mem} {f : Nat → Int32} : ald (gM S f) 698 928 = some (f 928) := gv (by decide)
theorem gs_928 {S : Mem} {f : Nat → Int32} {v : Int32} : ast (gM S f) 698 928 v = some (gM S (upd f 928 v)) := gs (by decide)
theorem g_929 {S : Mem} {f : Nat → Int32} : ald (gM S f) 698 929 = some (f 929) := gv (by decide)
theorem gs_929 {S : Mem} {f : Nat → Int32} {v : Int32} : ast (gM S f) 698 929 v = some (gM S (upd f 929 v)) := gs (by decide)
theorem g_930 {S : Mem} {f : Nat → Int32} : ald (gM S f) 698 930 = some (f 930) := gv (by decide)
theorem gs_930 {S : Mem} {f : Nat → Int32} {v : Int32} : ast (gM S f) 698 930 v = some (gM S (upd f 930 v)) := gs (by decide)
theorem g_931 {S : Mem} {f : Nat → Int32} : ald (gM S f) 698 931 = some (f 931) := gv (by decide)
theorem gs_931 {S : Mem} {f : Nat → Int32} {v : Int32} : ast (gM S f) 698 931 v = some (gM S (upd f 931 v)) := gs (by decide)
theorem g_962 {S : Mem} {f : Nat → Int32} : ald (gM S f) 698 962 = some (f 962) := gv (by decide)
theorem gs_962 {S : Mem} {f : Nat → Int32} {v : Int32} : ast (gM S f) 698 962 v = some (gM S (upd f 962 v)) := gs (by decide)
theorem g_993 {S : Mem} {f : Nat → Int32} : ald (gM S f) 698 993 = some (f 993) := gv (by decide)
theorem gs_993 {S : Mem} {f : Nat → Int32} {v : Int32} : ast (gM S f) 698 993 v = some (gM S (upd f 993 v)) := gs (by decide)
theorem g_994 {S : Mem} {f : Nat → Int32} : ald (gM S f) 698 994 = some (f 994) := gv (by decide)
theorem gs_994 {S : Mem} {f : Nat → Int32} {v : Int32} : ast (gM S f) 698 994 v = some (gM S (upd f 994 v)) := gs (by decide)
theorem i8 (n : Nat) : (8 : Int32) + Int32.ofNat n = Int32.ofNat (8 + n) := n_add 8 n
theorem i14 (n : Nat) : (14 : Int32) + Int32.ofNat n = Int32.ofNat (14 + n) := n_add 14 n
theorem i39 (n : Nat) : (39 : Int32) + Int32.ofNat n = Int32.ofNat (39 + n) := n_add 39 n
theorem i52 (n : Nat) : (52 : Int32) + Int32.ofNat n = Int32.ofNat (52 + n) := n_add 52 n
theorem i65 (n : Nat) : (65 : Int32) + Int32.ofNat n = Int32.ofNat (65 + n) := n_add 65 n
theorem i963 (n : Nat) : (963 : Int32) + Int32.ofNat n = Int32.ofNat (963 + n) := n_add 963 n
theorem i932 (n : Nat) : (932 : Int32) + Int32.ofNat n = Int32.ofNat (932 + n) := n_add 932 n
theorem i14d (n : Nat) : (14 : Int32) + (2 * Int32.ofNat n) = Int32.ofNat (14 + 2 * n) := by
  rw [show (14 : Int32) = Int32.ofNat 14 from rfl, show (2 : Int32) = Int32.ofNat 2 from rfl, n_mul, n_add]
theorem i14e (n : Nat) : (14 : Int32) + (2 * Int32.ofNat n) + 1 = Int32.ofNat (14 + 2 * n + 1) := by
  rw [i14d, n_succ]
theorem i39d (n : Nat) : (39 : Int32) + (2 * Int32.ofNat n) = Int32.ofNat (39 + 2 * n) := by
  rw [show (39 : Int32) = Int32.ofNat 39 from rfl, show (2 : Int32) = Int32.ofNat 2 from rfl, n_mul, n_add]
theorem i39e (n : Nat) : (39 : Int32) + (2 * Int32.ofNat n) + 1 = Int32.ofNat (39 + 2 * n + 1) := by
  rw [i39d, n_succ]
theorem i994d (n : Nat) : (994 : Int32) + (2 * Int32.ofNat n) = Int32.ofNat (994 + 2 * n) := by
  rw [show (994 : Int32) = Int32.ofNat 994 from rfl, show (2 : Int32) = Int32.ofNat 2 from rfl, n_mul, n_add]
theorem i994e (n : Nat) : (994 : Int32) + (2 * Int32.ofNat n) + 1 = Int32.ofNat (994 + 2 * n + 1) := by
  rw [i994d, n_succ]
theorem i932t (n : Nat) : (932 : Int32) + (3 * Int32.ofNat n) = Int32.ofNat (932 + 3 * n) := by
  rw [show (932 : Int32) = Int32.ofNat 932 from rfl, show (3 : Int32) = Int32.ofNat 3 from rfl, n_mul, n_add]
theorem i932t0 (n : Nat) : (932 : Int32) + (3 * Int32.ofNat n) + 0 = Int32.ofNat (932 + 3 * n + 0) := by
  rw [i932t]
  exact n_add _ 0
theorem i932t1 (n : Nat) : (932 : Int32) + (3 * Int32.ofNat n) + 1 = Int32.ofNat (932 + 3 * n + 1) := by
  rw [i932t]
  exact n_add _ 1
theorem i932t2 (n : Nat) : (932 : Int32) + (3 * Int32.ofNat n) + 2 = Int32.ofNat (932 + 3 * n + 2) := by
  rw [i932t]
  exact n_add _ 2
theorem im2 (n : Nat) : 2 * Int32.ofNat n = Int32.ofNat (2 * n) := n_mul 2 n
theorem in_ok {S : Mem} {v l m : Int32} : fm_in v l m S = some (if ¬ v < l ∧ ¬ m < v then 1 else 0) := by
  unfold fm_in
  by_cases h1 : v < l
  · rw [if_pos h1, if_neg (fun q => q.1 h1)]
  · by_cases h2 : m < v
    · rw [if_neg h1, if_pos h2, if_neg (fun q => q.2 h2)]
    · rw [if_neg h1, if_neg h2, if_pos ⟨h1, h2⟩]
/-- a body as the reference has it -/
def bm (v : Int32) : Int32 := if 200 ≤ v then v + 800 else v
def MM (m : Msg) (p n : Int32) : Prop := n = bm m.2 ∧ (okV m.2 → p = m.1)
def LNm (f : Nat → Int32) (o : Nat) (l : List Int32) : Prop := ∀ i q, l[i]? = some q → f (o + i) = q
def LPm (f : Nat → Int32) (o : Nat) (l : List Msg) : Prop := ∀ i m, l[i]? = some m → MM m (f (o + 2 * i)) (f (o + 2 * i + 1))
def RMA (f : Nat → Int32) (a : Nat) (x : Act) : Prop := (f (77 * a + 0) = aI x 0 ∧ f (77 * a + 1) = aI x 1 ∧ f (77 * a + 2) = aI x 2 ∧ f (77 * a + 3) = aI x 3 ∧ f (77 * a + 4) = aI x 4 ∧ f (77 * a + 5) = aI x 6 ∧ f (77 * a + 6) = aI x 5) ∧ (f (77 * a + 7) = Int32.ofNat (aStk x).length ∧ LNm f (77 * a + 8) (aStk x) ∧ f (77 * a + 8) = aI x 1) ∧ (f (77 * a + 13) = Int32.ofNat (aMail x).length ∧ LPm f (77 * a + 14) (aMail x)) ∧ (f (77 * a + 38) = Int32.ofNat (aStash x).length ∧ LPm f (77 * a + 39) (aStash x)) ∧ (f (77 * a + 51) = Int32.ofNat (aWat x).length ∧ LNm f (77 * a + 52) (aWat x)) ∧ (f (77 * a + 64) = Int32.ofNat (aNot x).length ∧ LNm f (77 * a + 65) (aNot x))
def tAt (f : Nat → Int32) (i : Nat) : Tmr := (f (932 + 3 * i), f (932 + 3 * i + 1), f (932 + 3 * i + 2))
def TM (f : Nat → Int32) (tl : List Tmr) : Prop := f 931 = Int32.ofNat tl.length ∧ ∀ i, i < tl.length → tl[i]? = some (tAt f i)
/-- as they will be due -/
def tSort (tl : List Tmr) : List Tmr := tl.foldl (fun l t => tIns t l) []
def lgv (m : Msg) : Int32 := 1000 * m.1 + m.2 + 300
def LGm (f : Nat → Int32) (l : List Msg) : Prop := f 962 = Int32.ofNat l.length ∧ ∀ i m, l[i]? = some m → f (963 + i) = lgv m
def CAm (f : Nat → Int32) (l : List Msg) : Prop := f 993 = Int32.ofNat l.length ∧ ∀ i m, l.reverse[i]? = some m → f (994 + 2 * i) = m.1 ∧ f (994 + 2 * i + 1) = m.2
def RM (en : Int32) (f : Nat → Int32) (w : Wst) : Prop := f 924 = Int32.ofNat (wN w) ∧ (f 925 = wI w 6 ∧ f 926 = wI w 7 ∧ f 927 = wI w 8 ∧ f 928 = wI w 5 ∧ f 929 = wI w 9 ∧ f 930 = en) ∧ (∀ a, a < wN w → RMA f a (wA w a)) ∧ (∃ tl, TM f tl ∧ wT w = tSort tl) ∧ LGm f (wL w) ∧ CAm f (wC w)
theorem LNm.congr {f g : Nat → Int32} {o : Nat} {l : List Int32} (h : LNm f o l) (hg : ∀ i, i < l.length → g (o + i) = f (o + i)) : LNm g o l := fun i q hq => by
  rw [hg i (List.getElem?_eq_some_iff.mp hq).1]
  exact h i q hq
theorem LPm.congr {f g : Nat → Int32} {o : Nat} {l : List Msg} (h : LPm f o l) (hg : ∀ i, i < 2 * l.length → g (o + i) = f (o + i)) : LPm g o l := fun i m hm => by
  have hi := (List.getElem?_eq_some_iff.mp hm).1
  rw [hg (2 * i) (by omega), show o + 2 * i + 1 = o + (2 * i + 1) by omega, hg (2 * i + 1) (by omega)]
  exact h i m hm
/-- lengths that fit -/
def fitA (x : Act) : Prop := (aStk x).length ≤ 5 ∧ (aMail x).length ≤ 12 ∧ (aStash x).length ≤ 6 ∧ (aWat x).length ≤ 12 ∧ (aNot x).length ≤ 10
theorem RMA.congr {f g : Nat → Int32} {a : Nat} {x : Act} (h : RMA f a x) (hx : fitA x) (hg : ∀ k, k < 77 → g (77 * a + k) = f (77 * a + k)) : RMA g a x := by
  obtain ⟨⟨e0, e1, e2, e3, e4, e5, e6⟩, ⟨s1, s2, s3⟩, ⟨m1, m2⟩, ⟨t1, t2⟩, ⟨v1, v2⟩, ⟨n1, n2⟩⟩ := h
  obtain ⟨x1, x2, x3, x4, x5⟩ := hx
  have hh : ∀ j k, j + k < 77 → g (77 * a + j + k) = f (77 * a + j + k) := fun j k h => by
    rw [Nat.add_assoc]
    exact hg _ h
  refine ⟨⟨by rw [hg 0 (by decide)]; exact e0, by rw [hg 1 (by decide)]; exact e1, by rw [hg 2 (by decide)]; exact e2, by rw [hg 3 (by decide)]; exact e3, by rw [hg 4 (by decide)]; exact e4, by rw [hg 5 (by decide)]; exact e5, by rw [hg 6 (by decide)]; exact e6⟩, ⟨by rw [hg 7 (by decide)]; exact s1, s2.congr fun i hi => hh _ _ (by omega), by rw [hg 8 (by decide)]; exact s3⟩, ⟨by rw [hg 13 (by decide)]; exact m1, m2.congr fun i hi => hh _ _ (by omega)⟩, ⟨by rw [hg 38 (by decide)]; exact t1, t2.congr fun i hi => hh _ _ (by omega)⟩, ⟨by rw [hg 51 (by decide)]; exact v1, v2.congr fun i hi => hh _ _ (by omega)⟩, ⟨by rw [hg 64 (by decide)]; exact n1, n2.congr fun i hi => hh _ _ (by omega)⟩⟩
theorem TM.congr {f g : Nat → Int32} {tl : List Tmr} (h : TM f tl) (hl : tl.length ≤ 10) (hg : ∀ k, 931 ≤ k → k < 962 → g k = f k) : TM g tl := by
  refine ⟨by rw [hg 931 (by decide) (by decide)]; exact h.1, fun i hi => ?_⟩
  unfold tAt
  rw [hg _ (by omega) (by omega), hg _ (by omega) (by omega), hg _ (by omega) (by omega)]
  exact h.2 i hi
theorem LGm.congr {f g : Nat → Int32} {l : List Msg} (h : LGm f l) (hl : l.length ≤ 30) (hg : ∀ k, 962 ≤ k → k < 993 → g k = f k) : LGm g l := by
  refine ⟨by rw [hg 962 (by decide) (by decide)]; exact h.1, fun i m hm => ?_⟩
  have hi := (List.getElem?_eq_some_iff.mp hm).1
  rw [hg _ (by omega) (by omega)]
  exact h.2 i m hm
theorem CAm.congr {f g : Nat → Int32} {l : List Msg} (h : CAm f l) (hl : l.length ≤ 12) (hg : ∀ k, 993 ≤ k → k < 1018 → g k = f k) : CAm g l := by
  refine ⟨by rw [hg 993 (by decide) (by decide)]; exact h.1, fun i m hm => ?_⟩
  have hi := (List.getElem?_eq_some_iff.mp hm).1
  rw [List.length_reverse] at hi
  rw [hg _ (by omega) (by omega), hg _ (by omega) (by omega)]
  exact h.2 i m hm
theorem tSort_len (tl : List Tmr) : (tSort tl).length = tl.length := by
  have h : ∀ (tl l : List Tmr), (tl.foldl (fun l t => tIns t l) l).length = l.length + tl.length := by
    intro tl
    induction tl with
    | nil => intro l; rfl
    | cons t tl ih =>
      intro l
      show (tl.foldl (fun l t => tIns t l) (tIns t l)).length = _
      rw [ih, tIns_len, List.length_cons]
      omega
  have := h tl []
  rw [List.length_nil, Nat.zero_add] at this
  exact this
theorem okA.fit {n b : Nat} {x : Act} (h : okA n b x) (hn : n ≤ 12) : fitA x := ⟨h.2.2.2.2.2.2.1.2.1, h.2.2.2.2.2.2.2.1.1, h.2.2.2.2.2.2.2.2.1.1, h.wat hn, h.2.2.2.2.2.2.2.2.2.2⟩
theorem Inv.fit {w : Wst} (h : Inv w) {a : Nat} (ha : a < wN w) : fitA (wA w a) := (h.2.1 a ha).fit h.1
theorem RM.tl {f : Nat → Int32} {w : Wst} (h : RM en f w) (hI : Inv w) : ∃ tl, TM f tl ∧ wT w = tSort tl ∧ tl.length ≤ 10 ∧ tl.length = (wT w).length := by
  obtain ⟨tl, h1, h2⟩ := h.2.2.2.1
  have h3 := tSort_len tl
  rw [← h2] at h3
  exact ⟨tl, h1, h2, by rw [← h3]; exact hI.2.2.1.1, h3.symm⟩
/-- one actor changed -/
theorem RM.act {f g : Nat → Int32} {w : Wst} {a : Nat} {x : Act} (h : RM en f w) (hI : Inv w) (ha : a < 12) (hx : RMA g a x) (hg : ∀ k, (k < 77 * a ∨ 77 * a + 77 ≤ k) → g k = f k) : RM en g (wSA w a x) := by
  obtain ⟨tl, t1, t2, t3, -⟩ := h.tl hI
  obtain ⟨h1, ⟨e1, e2, e3, e4, e5, e6⟩, h3, -, h5, h6⟩ := h
  refine ⟨by rw [hg 924 (by omega)]; exact h1, ⟨by rw [hg 925 (by omega)]; exact e1, by rw [hg 926 (by omega)]; exact e2, by rw [hg 927 (by omega)]; exact e3, by rw [hg 928 (by omega)]; exact e4, by rw [hg 929 (by omega)]; exact e5, by rw [hg 930 (by omega)]; exact e6⟩, fun b hb => ?_, ⟨tl, t1.congr t3 fun k q1 q2 => hg k (by omega), t2⟩, h5.congr hI.2.2.2.1.1 fun k q1 q2 => hg k (by omega), h6.congr hI.2.2.2.2.1.1 fun k q1 q2 => hg k (by omega)⟩
  show RMA g b (xup (wA w) a x b)
  by_cases e : b = a
  · rw [e, xup_s]
    exact hx
  · rw [xup_n e]
    exact (h3 b hb).congr (hI.fit hb) fun k hk => hg _ (by omega)
theorem RM.i5 {f : Nat → Int32} {w : Wst} {v : Int32} (h : RM en f w) (hI : Inv w) : RM en (upd f 928 v) (wSI w 5 v) := by
  have h12 := hI.1
  obtain ⟨tl, t1, t2, t3, -⟩ := h.tl hI
  obtain ⟨h1, ⟨e1, e2, e3, e4, e5, e6⟩, h3, -, h5, h6⟩ := h
  exact ⟨(upd_n (by decide)).trans h1, ⟨(upd_n (by decide)).trans e1, (upd_n (by decide)).trans e2, (upd_n (by decide)).trans e3, upd_s, (upd_n (by decide)).trans e5, (upd_n (by decide)).trans e6⟩, fun b hb => (h3 b hb).congr (hI.fit hb) fun k hk => upd_n (by have : b < wN w := hb; omega), ⟨tl, t1.congr t3 fun k q1 q2 => upd_n (by omega), t2⟩, h5.congr hI.2.2.2.1.1 fun k q1 q2 => upd_n (by omega), h6.congr hI.2.2.2.2.1.1 fun k q1 q2 => upd_n (by omega)⟩
theorem RM.i6 {f : Nat → Int32} {w : Wst} {v : Int32} (h : RM en f w) (hI : Inv w) : RM en (upd f 925 v) (wSI w 6 v) := by
  have h12 := hI.1
  obtain ⟨tl, t1, t2, t3, -⟩ := h.tl hI
  obtain ⟨h1, ⟨e1, e2, e3, e4, e5, e6⟩, h3, -, h5, h6⟩ := h
  exact ⟨(upd_n (by decide)).trans h1, ⟨upd_s, (upd_n (by decide)).trans e2, (upd_n (by decide)).trans e3, (upd_n (by decide)).trans e4, (upd_n (by decide)).trans e5, (upd_n (by decide)).trans e6⟩, fun b hb => (h3 b hb).congr (hI.fit hb) fun k hk => upd_n (by have : b < wN w := hb; omega), ⟨tl, t1.congr t3 fun k q1 q2 => upd_n (by omega), t2⟩, h5.congr hI.2.2.2.1.1 fun k q1 q2 => upd_n (by omega), h6.congr hI.2.2.2.2.1.1 fun k q1 q2 => upd_n (by omega)⟩
theorem RM.i7 {f : Nat → Int32} {w : Wst} {v : Int32} (h : RM en f w) (hI : Inv w) : RM en (upd f 926 v) (wSI w 7 v) := by
  have h12 := hI.1
  obtain ⟨tl, t1, t2, t3, -⟩ := h.tl hI
  obtain ⟨h1, ⟨e1, e2, e3, e4, e5, e6⟩, h3, -, h5, h6⟩ := h
  exact ⟨(upd_n (by decide)).trans h1, ⟨(upd_n (by decide)).trans e1, upd_s, (upd_n (by decide)).trans e3, (upd_n (by decide)).trans e4, (upd_n (by decide)).trans e5, (upd_n (by decide)).trans e6⟩, fun b hb => (h3 b hb).congr (hI.fit hb) fun k hk => upd_n (by have : b < wN w := hb; omega), ⟨tl, t1.congr t3 fun k q1 q2 => upd_n (by omega), t2⟩, h5.congr hI.2.2.2.1.1 fun k q1 q2 => upd_n (by omega), h6.congr hI.2.2.2.2.1.1 fun k q1 q2 => upd_n (by omega)⟩
theorem RM.i8 {f : Nat → Int32} {w : Wst} {v : Int32} (h : RM en f w) (hI : Inv w) : RM en (upd f 927 v) (wSI w 8 v) := by
  have h12 := hI.1
  obtain ⟨tl, t1, t2, t3, -⟩ := h.tl hI
  obtain ⟨h1, ⟨e1, e2, e3, e4, e5, e6⟩, h3, -, h5, h6⟩ := h
  exact ⟨(upd_n (by decide)).trans h1, ⟨(upd_n (by decide)).trans e1, (upd_n (by decide)).trans e2, upd_s, (upd_n (by decide)).trans e4, (upd_n (by decide)).trans e5, (upd_n (by decide)).trans e6⟩, fun b hb => (h3 b hb).congr (hI.fit hb) fun k hk => upd_n (by have : b < wN w := hb; omega), ⟨tl, t1.congr t3 fun k q1 q2 => upd_n (by omega), t2⟩, h5.congr hI.2.2.2.1.1 fun k q1 q2 => upd_n (by omega), h6.congr hI.2.2.2.2.1.1 fun k q1 q2 => upd_n (by omega)⟩
theorem RM.i9 {f : Nat → Int32} {w : Wst} {v : Int32} (h : RM en f w) (hI : Inv w) : RM en (upd f 929 v) (wSI w 9 v) := by
  have h12 := hI.1
  obtain ⟨tl, t1, t2, t3, -⟩ := h.tl hI
  obtain ⟨h1, ⟨e1, e2, e3, e4, e5, e6⟩, h3, -, h5, h6⟩ := h
  exact ⟨(upd_n (by decide)).trans h1, ⟨(upd_n (by decide)).trans e1, (upd_n (by decide)).trans e2, (upd_n (by decide)).trans e3, (upd_n (by decide)).trans e4, upd_s, (upd_n (by decide)).trans e6⟩, fun b hb => (h3 b hb).congr (hI.fit hb) fun k hk => upd_n (by have : b < wN w := hb; omega), ⟨tl, t1.congr t3 fun k q1 q2 => upd_n (by omega), t2⟩, h5.congr hI.2.2.2.1.1 fun k q1 q2 => upd_n (by omega), h6.congr hI.2.2.2.2.1.1 fun k q1 q2 => upd_n (by omega)⟩
theorem RM.i10 {f : Nat → Int32} {w : Wst} {v : Int32} (h : RM en f w) (hI : Inv w) : RM v (upd f 930 v) w := by
  have h12 := hI.1
  obtain ⟨tl, t1, t2, t3, -⟩ := h.tl hI
  obtain ⟨h1, ⟨e1, e2, e3, e4, e5, e6⟩, h3, -, h5, h6⟩ := h
  exact ⟨(upd_n (by decide)).trans h1, ⟨(upd_n (by decide)).trans e1, (upd_n (by decide)).trans e2, (upd_n (by decide)).trans e3, (upd_n (by decide)).trans e4, (upd_n (by decide)).trans e5, upd_s⟩, fun b hb => (h3 b hb).congr (hI.fit hb) fun k hk => upd_n (by have : b < wN w := hb; omega), ⟨tl, t1.congr t3 fun k q1 q2 => upd_n (by omega), t2⟩, h5.congr hI.2.2.2.1.1 fun k q1 q2 => upd_n (by omega), h6.congr hI.2.2.2.2.1.1 fun k q1 q2 => upd_n (by omega)⟩
theorem RM.any10 {f : Nat → Int32} {w : Wst} {v : Int32} (h : RM en f w) : RM en f (wSI w 10 v) := ⟨h.1, ⟨h.2.1.1, h.2.1.2.1, h.2.1.2.2.1, h.2.1.2.2.2.1, h.2.1.2.2.2.2.1, h.2.1.2.2.2.2.2⟩, h.2.2.1, h.2.2.2.1, h.2.2.2.2.1, h.2.2.2.2.2⟩
theorem RM.tim {f g : Nat → Int32} {w : Wst} {tl : List Tmr} (h : RM en f w) (hI : Inv w) (ht : TM g tl) (hg : ∀ k, (k < 931 ∨ 962 ≤ k) → g k = f k) : RM en g (wST w (tSort tl)) := by
  have h12 := hI.1
  obtain ⟨h1, ⟨e1, e2, e3, e4, e5, e6⟩, h3, -, h5, h6⟩ := h
  exact ⟨by rw [hg 924 (by omega)]; exact h1, ⟨by rw [hg 925 (by omega)]; exact e1, by rw [hg 926 (by omega)]; exact e2, by rw [hg 927 (by omega)]; exact e3, by rw [hg 928 (by omega)]; exact e4, by rw [hg 929 (by omega)]; exact e5, by rw [hg 930 (by omega)]; exact e6⟩, fun b hb => (h3 b hb).congr (hI.fit hb) fun k hk => hg _ (by have : b < wN w := hb; omega), ⟨tl, ht, rfl⟩, h5.congr hI.2.2.2.1.1 fun k q1 q2 => hg k (by omega), h6.congr hI.2.2.2.2.1.1 fun k q1 q2 => hg k (by omega)⟩
theorem RM.log {f g : Nat → Int32} {w : Wst} {l : List Msg} (h : RM en f w) (hI : Inv w) (hl : LGm g l) (hg : ∀ k, (k < 962 ∨ 993 ≤ k) → g k = f k) : RM en g (wSL w l) := by
  have h12 := hI.1
  obtain ⟨tl, t1, t2, t3, -⟩ := h.tl hI
  obtain ⟨h1, ⟨e1, e2, e3, e4, e5, e6⟩, h3, -, h5, h6⟩ := h
  exact ⟨by rw [hg 924 (by omega)]; exact h1, ⟨by rw [hg 925 (by omega)]; exact e1, by rw [hg 926 (by omega)]; exact e2, by rw [hg 927 (by omega)]; exact e3, by rw [hg 928 (by omega)]; exact e4, by rw [hg 929 (by omega)]; exact e5, by rw [hg 930 (by omega)]; exact e6⟩, fun b hb => (h3 b hb).congr (hI.fit hb) fun k hk => hg _ (by have : b < wN w := hb; omega), ⟨tl, t1.congr t3 fun k q1 q2 => hg k (by omega), t2⟩, hl, h6.congr hI.2.2.2.2.1.1 fun k q1 q2 => hg k (by omega)⟩
theorem RM.cau {f g : Nat → Int32} {w : Wst} {l : List Msg} (h : RM en f w) (hI : Inv w) (hl : CAm g l) (hg : ∀ k, k < 993 → g k = f k) : RM en g (wSC w l) := by
  have h12 := hI.1
  obtain ⟨tl, t1, t2, t3, -⟩ := h.tl hI
  obtain ⟨h1, ⟨e1, e2, e3, e4, e5, e6⟩, h3, -, h5, h6⟩ := h
  exact ⟨by rw [hg 924 (by omega)]; exact h1, ⟨by rw [hg 925 (by omega)]; exact e1, by rw [hg 926 (by omega)]; exact e2, by rw [hg 927 (by omega)]; exact e3, by rw [hg 928 (by omega)]; exact e4, by rw [hg 929 (by omega)]; exact e5, by rw [hg 930 (by omega)]; exact e6⟩, fun b hb => (h3 b hb).congr (hI.fit hb) fun k hk => hg _ (by have : b < wN w := hb; omega), ⟨tl, t1.congr t3 fun k q1 q2 => hg k (by omega), t2⟩, h5.congr hI.2.2.2.1.1 fun k q1 q2 => hg k (by omega), hl⟩
/-! looks -/
theorem m_isActor_ok {S : Mem} {f : Nat → Int32} {w : Wst} {a : Nat} (h : RM en f w) (hI : Inv w) (ha : a < 2 ^ 31) : fm_isActor (Int32.ofNat a) (gM S f) = some (if a < wN w then 1 else 0) := by
  have h12 := hI.1
  have key : (¬ Int32.ofNat a < 0 ∧ ¬ Int32.ofNat (wN w) - 1 < Int32.ofNat a) ↔ a < wN w := by
    refine ⟨fun q => ?_, fun q => ⟨n_neg ha, fun q2 => ?_⟩⟩
    · by_cases e : a < wN w
      · exact e
      · refine absurd ?_ q.2
        rw [Int32.lt_iff_toInt_lt, n_int ha]
        by_cases e0 : wN w = 0
        · rw [e0]
          have : (Int32.ofNat 0 - 1 : Int32).toInt = -1 := by decide
          omega
        · rw [show (1 : Int32) = Int32.ofNat 1 from rfl, n_sub (by omega), n_int (by omega)]
          omega
    · rw [show (1 : Int32) = Int32.ofNat 1 from rfl, n_sub (by omega), n_lt (by omega) ha] at q2
      omega
  unfold fm_isActor
  rw [g_924, obs, h.1, in_ok, obs]
  by_cases e : a < wN w
  · rw [if_pos (key.mpr e), if_pos e]
    rfl
  · rw [if_neg (fun q => e (key.mp q)), if_neg e]
    rfl
theorem m_isActor_no {S : Mem} {f : Nat → Int32} {w : Wst} {v : Int32} (h : RM en f w) (hv : v < 0) : fm_isActor v (gM S f) = some 0 := by
  unfold fm_isActor
  rw [g_924, obs, in_ok, obs, if_neg (fun q => q.1 hv)]
  rfl
theorem m_isLive_ok {S : Mem} {f : Nat → Int32} {w : Wst} {a : Nat} (h : RM en f w) (hI : Inv w) (ha : a < wN w) : fm_isLive (Int32.ofNat a) (gM S f) = some (if sLive w a = true then 1 else 0) := by
  have h12 := hI.1
  have hA := h.2.2.1 a ha
  unfold fm_isLive
  rw [at_5 (by omega), obs, hA.1.2.2.2.2.2.1]
  by_cases e : sLive w a = true
  · rw [if_pos e, if_pos (sLive_lt e).2]
  · rw [if_neg e, if_neg (fun q => e (sLive_of ha q))]
theorem m_isLC_ok {S : Mem} {f : Nat → Int32} {w : Wst} {c a : Nat} (h : RM en f w) (hI : Inv w) (hc : c < wN w) : fm_isLiveChild (Int32.ofNat c) (Int32.ofNat a) (gM S f) = some (if sLC w c a = true then 1 else 0) := by
  have h12 := hI.1
  have hA := h.2.2.1 c hc
  unfold fm_isLiveChild sLC
  rw [at_0 (by omega), obs, hA.1.1]
  by_cases e : aI (wA w c) 0 = Int32.ofNat a
  · rw [if_pos e, m_isLive_ok h hI hc, obs]
    by_cases g : sLive w c = true
    · rw [if_pos g, if_neg (by decide), if_pos (by simp [g, e])]
    · rw [if_neg g, if_pos rfl, if_neg (by simp [g])]
  · rw [if_neg e, if_neg (by simp [e])]
