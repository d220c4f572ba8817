/-! 21: rows of the class -/
def Only (P : Nat → Prop) (S S1 : Mem) : Prop := ∀ b, ¬ P b → S1 b = S b
theorem Only.refl {P : Nat → Prop} {S : Mem} : Only P S S := fun _ _ => rfl
theorem Only.trans {P : Nat → Prop} {S S1 S2 : Mem} (h1 : Only P S S1) (h2 : Only P S1 S2) : Only P S S2 := fun b hb => (h2 b hb).trans (h1 b hb)
theorem Only.mono {P Q : Nat → Prop} {S S1 : Mem} (h : Only P S S1) (hpq : ∀ b, P b → Q b) : Only Q S S1 := fun b hb => h b fun q => hb (hpq b q)
theorem up2_off {S : Mem} {a b f : Nat} {v : Int32} (h : b ≠ a) : up2 S a f v b = S b := if_neg h
theorem Only.up {P : Nat → Prop} {S S1 : Mem} {a f : Nat} {v : Int32} (h : Only P S S1) (ha : P a) : Only P S (up2 S1 a f v) := fun b hb => (up2_off fun e => hb (by rw [e]; exact ha)).trans (h b hb)
theorem Only.xup {P : Nat → Prop} {S S1 : Mem} {a : Nat} {g : Nat → Int32} (h : Only P S S1) (ha : P a) : Only P S (xup S1 a g) := fun b hb => (if_neg fun e => hb (by rw [e]; exact ha)).trans (h b hb)
def RN (S : Mem) (o : Nat) (l : List Int32) : Prop := S o 1 = Int32.ofNat l.length ∧ ∀ i, i < l.length → l[i]? = some (S (o + 1) i)
theorem RN.congr {S S1 : Mem} {o : Nat} {l : List Int32} (h : RN S o l) (h1 : S1 o = S o) (h2 : S1 (o + 1) = S (o + 1)) : RN S1 o l := by
  unfold RN
  rw [h1, h2]
  exact h
theorem RN.len0 {S : Mem} {o : Nat} (h : S o 1 = 0) : RN S o [] := ⟨h, fun i hi => absurd hi (Nat.not_lt_zero _)⟩
def cN (o : Nat) : Nat → Prop := fun b => b = o ∨ b = o + 1
theorem n_add_ok {S : Mem} {o : Nat} {l : List Int32} (v : Int32) (hR : RN S o l) (hc : l.length < ln (o + 1)) (hb : ln (o + 1) < 2 ^ 31) : ∃ S1, fn_add o v S = some (1, S1) ∧ RN S1 o (l ++ [v]) ∧ Only (cN o) S S1 := by
  have hlen : l.length < 2 ^ 31 := by omega
  unfold fn_add
  rw [hR.1, if_neg (n_neg hlen), if_pos ((n_lt hlen hb).mpr hc), ast_n hc hb, obs, obs]
  refine ⟨_, rfl, ⟨?_, ?_⟩, (Only.refl.up (Or.inr rfl)).up (Or.inl rfl)⟩
  · rw [up2_self, up2_ne (by omega), hR.1, n_succ, List.length_append]
    rfl
  · intro i hi
    rw [List.length_append] at hi
    rw [up2_ne (by omega)]
    by_cases e : i = l.length
    · rw [e, up2_self, List.getElem?_append_right (Nat.le_refl _), Nat.sub_self]
      rfl
    · have hi2 : i < l.length := by
        have : [v].length = 1 := rfl
        omega
      rw [up2_nf e, List.getElem?_append_left hi2]
      exact hR.2 i hi2
theorem n_add_full {S : Mem} {o : Nat} {l : List Int32} (v : Int32) (hR : RN S o l) (hc : l.length = ln (o + 1)) (hb : ln (o + 1) < 2 ^ 31) : fn_add o v S = some (0, S) := by
  unfold fn_add
  rw [hR.1, if_neg (n_neg (by omega)), if_neg]
  intro q
  rw [n_lt (by omega) hb] at q
  omega
theorem n_at_ok {S : Mem} {o : Nat} {l : List Int32} (hR : RN S o l) {i : Nat} {x : Int32} (hx : l[i]? = some x) (hc : l.length ≤ ln (o + 1)) (hb : ln (o + 1) < 2 ^ 31) : fn_at o (Int32.ofNat i) S = some x := by
  have hi : i < l.length := (List.getElem?_eq_some_iff.mp hx).1
  unfold fn_at
  rw [if_neg (n_neg (by omega)), if_neg (fun q => by rw [n_le hb (by omega)] at q; omega), ald_n (by omega) hb, obs, ← hR.2 i hi, hx]
theorem n_has_loop {S : Mem} {o : Nat} {l : List Int32} (v : Int32) (hR : RN S o l) (hc : l.length ≤ ln (o + 1)) (hb : ln (o + 1) < 2 ^ 31) : ∀ (m n k : Nat), k + m = l.length → m < n → fn_has_2 n o v (Int32.ofNat k) S = some (if v ∈ l.drop k then 1 else 0)
  | _, 0, _, _, h => absurd h (Nat.not_lt_zero _)
  | 0, n + 1, k, h, _ => by
    show fn_has_2b (fn_has_2 n) o v (Int32.ofNat k) S = _
    unfold fn_has_2b
    rw [hR.1, if_pos ((n_le (by omega) (by omega)).mpr (by omega)), List.drop_eq_nil_of_le (by omega)]
    rfl
  | m + 1, n + 1, k, h, hn => by
    show fn_has_2b (fn_has_2 n) o v (Int32.ofNat k) S = _
    unfold fn_has_2b
    rw [hR.1, if_neg (fun q => by rw [n_le (by omega) (by omega)] at q; omega), if_neg (fun q => by rw [n_le hb (by omega)] at q; omega), ald_n (by omega) hb, obs, n_succ, n_has_loop v hR hc hb m n (k + 1) (by omega) (by omega)]
    have hk : k < l.length := by omega
    have hx := hR.2 k hk
    rw [List.getElem?_eq_getElem hk] at hx
    rw [List.drop_eq_getElem_cons hk, Option.some.inj hx]
    by_cases e : S (o + 1) k = v
    · rw [if_pos e, if_pos (by rw [e]; exact List.mem_cons_self)]
    · rw [if_neg e]
      by_cases e2 : v ∈ List.drop (k + 1) l
      · rw [if_pos e2, if_pos (List.mem_cons_of_mem _ e2)]
      · rw [if_neg e2, if_neg (fun q => by
          rcases List.mem_cons.mp q with q | q
          · exact e q.symm
          · exact e2 q)]
theorem n_has_ok {S : Mem} {o : Nat} {l : List Int32} (v : Int32) (hR : RN S o l) (hc : l.length ≤ ln (o + 1)) (hb : ln (o + 1) < 3000) : fn_has o v S = some (if v ∈ l then 1 else 0) := n_has_loop v hR hc (by omega) l.length LF 0 (by omega) (by show l.length < 3000; omega)
/-- a row pressed together: what stands ahead of k is pressed to f -/
theorem press {α : Type} {V V1 : Nat → α} {l f : List α} {k : Nat} {x : α} (h1 : ∀ i, i < f.length → f[i]? = some (V i)) (h2 : ∀ i, k ≤ i → i < l.length → l[i]? = some (V i)) (hf : f.length ≤ k) (hV : V1 f.length = x) (hV2 : ∀ i, i ≠ f.length → V1 i = V i) : (∀ i, i < (f ++ [x]).length → (f ++ [x])[i]? = some (V1 i)) ∧ ∀ i, k + 1 ≤ i → i < l.length → l[i]? = some (V1 i) := by
  refine ⟨fun i hi => ?_, fun i h3 h4 => ?_⟩
  · rw [List.length_append] at hi
    by_cases e : i = f.length
    · rw [e, hV, List.getElem?_append_right (Nat.le_refl _), Nat.sub_self]
      rfl
    · have hi2 : i < f.length := by
        have : [x].length = 1 := rfl
        omega
      rw [hV2 i e, List.getElem?_append_left hi2]
      exact h1 i hi2
  · rw [hV2 i (by omega)]
    exact h2 i (by omega) h4
theorem take_s {α : Type} {l : List α} {k : Nat} {x : α} (h : l[k]? = some x) : l.take (k + 1) = l.take k ++ [x] := by
  rw [List.take_add_one, h]
  rfl
theorem n_remove_loop {o : Nat} {l : List Int32} (v : Int32) (hc : l.length ≤ ln (o + 1)) (hb : ln (o + 1) < 2 ^ 31) : ∀ (m n k : Nat) (S : Mem), k + m = l.length → m < n → S o 1 = Int32.ofNat l.length → (∀ i, i < ((l.take k).filter fun q => !(q == v)).length → ((l.take k).filter fun q => !(q == v))[i]? = some (S (o + 1) i)) → (∀ i, k ≤ i → i < l.length → l[i]? = some (S (o + 1) i)) → ∃ S1, fn_remove_4 n o v (Int32.ofNat ((l.take k).filter fun q => !(q == v)).length) (Int32.ofNat k) S = some S1 ∧ RN S1 o (l.filter fun q => !(q == v)) ∧ Only (cN o) S S1
  | _, 0, _, _, _, h, _, _, _ => absurd h (Nat.not_lt_zero _)
  | 0, n + 1, k, S, h, _, hs, h1, h2 => by
    have hk : k = l.length := by omega
    subst hk
    rw [List.take_length] at h1 ⊢
    show ∃ S1, fn_remove_4b (fn_remove_4 n) o v _ (Int32.ofNat l.length) S = some S1 ∧ _
    unfold fn_remove_4b
    rw [hs, if_pos ((n_le (by omega) (by omega)).mpr (Nat.le_refl _)), obs]
    refine ⟨_, rfl, ⟨up2_self, fun i hi => ?_⟩, Only.refl.up (Or.inl rfl)⟩
    rw [up2_ne (by omega)]
    exact h1 i hi
  | m + 1, n + 1, k, S, h, hn, hs, h1, h2 => by
    have hk : k < l.length := by omega
    have hx := h2 k (Nat.le_refl _) hk
    have hfl : ((l.take k).filter fun q => !(q == v)).length ≤ k := by
      have := List.length_filter_le (fun q => !(q == v)) (l.take k)
      rw [List.length_take] at this
      omega
    show ∃ S1, fn_remove_4b (fn_remove_4 n) o v _ (Int32.ofNat k) S = some S1 ∧ _
    unfold fn_remove_4b
    rw [hs, if_neg (fun q => by rw [n_le (by omega) (by omega)] at q; omega), if_neg (fun q => by rw [n_le hb (by omega)] at q; omega), ald_n (by omega) hb, obs, obs, n_succ]
    have ht := take_s hx
    by_cases e : S (o + 1) k = v
    · rw [if_pos e]
      have e2 : (l.take (k + 1)).filter (fun q => !(q == v)) = (l.take k).filter fun q => !(q == v) := by
        rw [ht, List.filter_append]
        simp [e]
      rw [← e2] at h1 ⊢
      exact n_remove_loop v hc hb m n (k + 1) S (by omega) (by omega) hs h1 (fun i g1 g2 => h2 i (by omega) g2)
    · rw [if_neg e]
      have e2 : (l.take (k + 1)).filter (fun q => !(q == v)) = ((l.take k).filter fun q => !(q == v)) ++ [S (o + 1) k] := by
        rw [ht, List.filter_append]
        congr 1
        simp [e]
      rw [ast_n (by omega) hb, obs, n_succ]
      obtain ⟨p1, p2⟩ := press (V1 := up2 S (o + 1) ((l.take k).filter fun q => !(q == v)).length (S (o + 1) k) (o + 1)) h1 h2 hfl up2_self (fun i hi => up2_nf hi)
      rw [← e2] at p1
      have e3 : ((l.take k).filter fun q => !(q == v)).length + 1 = ((l.take (k + 1)).filter fun q => !(q == v)).length := by
        rw [e2, List.length_append]
        rfl
      rw [e3]
      obtain ⟨S1, g1, g2, g3⟩ := n_remove_loop v hc hb m n (k + 1) _ (by omega) (by omega) (by rw [up2_ne (by omega)]; exact hs) p1 p2
      exact ⟨S1, g1, g2, (Only.refl.up (Or.inr rfl)).trans g3⟩
theorem n_remove_ok {S : Mem} {o : Nat} {l : List Int32} (v : Int32) (hR : RN S o l) (hc : l.length ≤ ln (o + 1)) (hb : ln (o + 1) < 3000) : ∃ S1, fn_remove o v S = some S1 ∧ RN S1 o (l.filter fun q => !(q == v)) ∧ Only (cN o) S S1 :=
  n_remove_loop v hc (by omega) l.length LF 0 S (by omega) (by show l.length < 3000; omega) hR.1 (fun i hi => absurd hi (Nat.not_lt_zero _)) (fun i _ hi => hR.2 i hi)
theorem n_removeBelow_loop {o : Nat} {l : List Int32} (v : Int32) (hc : l.length ≤ ln (o + 1)) (hb : ln (o + 1) < 2 ^ 31) : ∀ (m n k : Nat) (S : Mem), k + m = l.length → m < n → S o 1 = Int32.ofNat l.length → (∀ i, i < ((l.take k).filter fun q => !decide (q < v)).length → ((l.take k).filter fun q => !decide (q < v))[i]? = some (S (o + 1) i)) → (∀ i, k ≤ i → i < l.length → l[i]? = some (S (o + 1) i)) → ∃ S1, fn_removeBelow_4 n o v (Int32.ofNat ((l.take k).filter fun q => !decide (q < v)).length) (Int32.ofNat k) S = some S1 ∧ RN S1 o (l.filter fun q => !decide (q < v)) ∧ Only (cN o) S S1
  | _, 0, _, _, _, h, _, _, _ => absurd h (Nat.not_lt_zero _)
  | 0, n + 1, k, S, h, _, hs, h1, h2 => by
    have hk : k = l.length := by omega
    subst hk
    rw [List.take_length] at h1 ⊢
    show ∃ S1, fn_removeBelow_4b (fn_removeBelow_4 n) o v _ (Int32.ofNat l.length) S = some S1 ∧ _
    unfold fn_removeBelow_4b
    rw [hs, if_pos ((n_le (by omega) (by omega)).mpr (Nat.le_refl _)), obs]
    refine ⟨_, rfl, ⟨up2_self, fun i hi => ?_⟩, Only.refl.up (Or.inl rfl)⟩
    rw [up2_ne (by omega)]
    exact h1 i hi
  | m + 1, n + 1, k, S, h, hn, hs, h1, h2 => by
    have hk : k < l.length := by omega
    have hx := h2 k (Nat.le_refl _) hk
    have hfl : ((l.take k).filter fun q => !decide (q < v)).length ≤ k := by
      have := List.length_filter_le (fun q => !decide (q < v)) (l.take k)
      rw [List.length_take] at this
      omega
    show ∃ S1, fn_removeBelow_4b (fn_removeBelow_4 n) o v _ (Int32.ofNat k) S = some S1 ∧ _
    unfold fn_removeBelow_4b
    rw [hs, if_neg (fun q => by rw [n_le (by omega) (by omega)] at q; omega), if_neg (fun q => by rw [n_le hb (by omega)] at q; omega), ald_n (by omega) hb, obs, obs, n_succ]
    have ht := take_s hx
    by_cases e : S (o + 1) k < v
    · rw [if_pos e]
      have e2 : (l.take (k + 1)).filter (fun q => !decide (q < v)) = (l.take k).filter fun q => !decide (q < v) := by
        rw [ht, List.filter_append]
        simp [e]
      rw [← e2] at h1 ⊢
      exact n_removeBelow_loop v hc hb m n (k + 1) S (by omega) (by omega) hs h1 (fun i g1 g2 => h2 i (by omega) g2)
    · rw [if_neg e]
      have e2 : (l.take (k + 1)).filter (fun q => !decide (q < v)) = ((l.take k).filter fun q => !decide (q < v)) ++ [S (o + 1) k] := by
        rw [ht, List.filter_append]
        congr 1
        simp [e]
      rw [ast_n (by omega) hb, obs, n_succ]
      obtain ⟨p1, p2⟩ := press (V1 := up2 S (o + 1) ((l.take k).filter fun q => !decide (q < v)).length (S (o + 1) k) (o + 1)) h1 h2 hfl up2_self (fun i hi => up2_nf hi)
      rw [← e2] at p1
      have e3 : ((l.take k).filter fun q => !decide (q < v)).length + 1 = ((l.take (k + 1)).filter fun q => !decide (q < v)).length := by
        rw [e2, List.length_append]
        rfl
      rw [e3]
      obtain ⟨S1, g1, g2, g3⟩ := n_removeBelow_loop v hc hb m n (k + 1) _ (by omega) (by omega) (by rw [up2_ne (by omega)]; exact hs) p1 p2
      exact ⟨S1, g1, g2, (Only.refl.up (Or.inr rfl)).trans g3⟩
theorem n_removeBelow_ok {S : Mem} {o : Nat} {l : List Int32} (v : Int32) (hR : RN S o l) (hc : l.length ≤ ln (o + 1)) (hb : ln (o + 1) < 3000) : ∃ S1, fn_removeBelow o v S = some S1 ∧ RN S1 o (l.filter fun q => !decide (q < v)) ∧ Only (cN o) S S1 :=
  n_removeBelow_loop v hc (by omega) l.length LF 0 S (by omega) (by show l.length < 3000; omega) hR.1 (fun i hi => absurd hi (Nat.not_lt_zero _)) (fun i _ hi => hR.2 i hi)
theorem n_count_loop {S : Mem} {o : Nat} {l : List Int32} (v : Int32) (hR : RN S o l) (hc : l.length ≤ ln (o + 1)) (hb : ln (o + 1) < 2 ^ 31) : ∀ (m n k c : Nat), k + m = l.length → m < n → fn_countFrom_4 n o v (Int32.ofNat c) (Int32.ofNat k) S = some (Int32.ofNat (c + ((l.drop k).filter fun q => !decide (q < v)).length))
  | _, 0, _, _, _, h => absurd h (Nat.not_lt_zero _)
  | 0, n + 1, k, c, h, _ => by
    show fn_countFrom_4b (fn_countFrom_4 n) o v (Int32.ofNat c) (Int32.ofNat k) S = _
    unfold fn_countFrom_4b
    rw [hR.1, if_pos ((n_le (by omega) (by omega)).mpr (by omega)), List.drop_eq_nil_of_le (by omega)]
    rfl
  | m + 1, n + 1, k, c, h, hn => by
    show fn_countFrom_4b (fn_countFrom_4 n) o v (Int32.ofNat c) (Int32.ofNat k) S = _
    unfold fn_countFrom_4b
    have hk : k < l.length := by omega
    have hx := hR.2 k hk
    rw [List.getElem?_eq_getElem hk] at hx
    rw [hR.1, if_neg (fun q => by rw [n_le (by omega) (by omega)] at q; omega), if_neg (fun q => by rw [n_le hb (by omega)] at q; omega), ald_n (by omega) hb, obs, n_succ, n_succ, show Int32.ofNat c + 0 = Int32.ofNat c from Int32.add_zero _, n_count_loop v hR hc hb m n (k + 1) c (by omega) (by omega), n_count_loop v hR hc hb m n (k + 1) (c + 1) (by omega) (by omega), List.drop_eq_getElem_cons hk, Option.some.inj hx]
    by_cases e : S (o + 1) k < v
    · rw [if_pos e, List.filter_cons_of_neg (by simp [e])]
    · rw [if_neg e, List.filter_cons_of_pos (by simp [e]), List.length_cons]
      congr 2
      omega
theorem n_count_ok {S : Mem} {o : Nat} {l : List Int32} (v : Int32) (hR : RN S o l) (hc : l.length ≤ ln (o + 1)) (hb : ln (o + 1) < 3000) : fn_countFrom o v S = some (Int32.ofNat (l.filter fun q => !decide (q < v)).length) := by
  have := n_count_loop v hR hc (by omega) l.length LF 0 0 (by omega) (by show l.length < 3000; omega)
  rw [Nat.zero_add] at this
  exact this
/-- the lesser, the greater -/
theorem imn_n {a b : Nat} (ha : a < 2 ^ 31) (hb : b < 2 ^ 31) : imn (Int32.ofNat a) (Int32.ofNat b) = Int32.ofNat (min a b) := by
  unfold imn
  by_cases h : b < a
  · rw [if_pos ((n_lt hb ha).mpr h), Nat.min_eq_right (by omega)]
  · rw [if_neg (fun q => h ((n_lt hb ha).mp q)), Nat.min_eq_left (by omega)]
theorem imx_0 {a : Nat} (ha : a < 2 ^ 31) : imx 0 (Int32.ofNat a) = Int32.ofNat a := by
  unfold imx
  by_cases h : (0 : Int32) < Int32.ofNat a
  · rw [if_pos h]
  · rw [if_neg h]
    have h2 := Int32.not_lt.mp h
    rw [show (0 : Int32) = Int32.ofNat 0 from rfl, n_le ha (by decide)] at h2
    have : a = 0 := by omega
    rw [this]
    rfl
theorem sz_min {a b c : Nat} (ha : a < 2 ^ 31) (hb : a ≤ b) (hc : a ≤ c) (hb2 : b < 2 ^ 31) (hc2 : c < 2 ^ 31) : imx 0 (imn (Int32.ofNat a) (imn (Int32.ofNat b) (Int32.ofNat c))) = Int32.ofNat a := by
  rw [imn_n hb2 hc2, imn_n ha (by omega), Nat.min_eq_left (by omega), imx_0 ha]
/-- a stretch of a row is copied from its first -/
theorem acp_n {S : Mem} {a b s d n : Nat} (ha : s + n ≤ ln a) (hb : d + n ≤ ln b) (hla : ln a < 2 ^ 31) (hlb : ln b < 2 ^ 31) : acp S a (Int32.ofNat s) b (Int32.ofNat d) (Int32.ofNat n) = some (xup S b (va_cpy (S a) (S b) s d n)) := by
  unfold acp
  rw [n_clamp (by omega), n_clamp (by omega), n_clamp (by omega), if_neg]
  intro q
  rcases q with q | q | q | q | q
  · exact n_neg (by omega) q
  · exact n_neg (by omega) q
  · exact n_neg (by omega) q
  · omega
  · omega
theorem xup_self {S : Mem} {a : Nat} {g : Nat → Int32} : xup S a g a = g := if_pos rfl
theorem xup_ne {S : Mem} {a b : Nat} {g : Nat → Int32} (h : b ≠ a) : xup S a g b = S b := if_neg h
theorem n_copy_ok {S : Mem} {o p : Nat} {l : List Int32} (hR : RN S p l) (h1 : l.length ≤ ln (o + 1)) (h2 : l.length ≤ ln (p + 1)) (hb1 : ln (o + 1) < 2 ^ 31) (hb2 : ln (p + 1) < 2 ^ 31) (hne : o + 1 < p ∨ p + 1 < o) : ∃ S1, fn_copyFrom o p S = some S1 ∧ RN S1 o l ∧ Only (cN o) S S1 := by
  unfold fn_copyFrom
  rw [hR.1, sz_min (by omega) h1 h2 hb1 hb2, obs, up2_self, show (0 : Int32) = Int32.ofNat 0 from rfl, acp_n (by omega) (by omega) hb2 hb1, obs]
  refine ⟨_, rfl, ⟨?_, fun i hi => ?_⟩, (Only.refl.up (Or.inl rfl)).xup (Or.inr rfl)⟩
  · rw [xup_ne (by omega), up2_self]
  · rw [xup_self]
    unfold va_cpy
    rw [if_pos (by omega), up2_off (by omega), hR.2 i hi]
    congr 2
    omega
/-! rows of twos -/
def RP (S : Mem) (o : Nat) (l : List Msg) : Prop := S o 2 = Int32.ofNat l.length ∧ ∀ i, i < l.length → l[i]? = some (S (o + 1) i, S (o + 2) i)
def cP (o : Nat) : Nat → Prop := fun b => b = o ∨ b = o + 1 ∨ b = o + 2
theorem RP.congr {S S1 : Mem} {o : Nat} {l : List Msg} (h : RP S o l) (h0 : S1 o = S o) (h1 : S1 (o + 1) = S (o + 1)) (h2 : S1 (o + 2) = S (o + 2)) : RP S1 o l := by
  unfold RP
  rw [h0, h1, h2]
  exact h
theorem RP.len0 {S : Mem} {o : Nat} (h : S o 2 = 0) : RP S o [] := ⟨h, fun i hi => absurd hi (Nat.not_lt_zero _)⟩
theorem p_add_ok {S : Mem} {o : Nat} {l : List Msg} (m : Msg) (hR : RP S o l) (hc : l.length < ln (o + 1)) (hl : ln (o + 2) = ln (o + 1)) (hb : ln (o + 1) < 2 ^ 31) : ∃ S1, fp_add o m.1 m.2 S = some (1, S1) ∧ RP S1 o (l ++ [m]) ∧ Only (cP o) S S1 := by
  have hlen : l.length < 2 ^ 31 := by omega
  unfold fp_add
  rw [hR.1, hl, if_neg (n_neg hlen), if_neg (fun q => by rw [n_le hb hlen] at q; omega), if_pos ((n_lt hlen hb).mpr hc), ast_n hc hb, obs, up2_ne (by omega), hR.1, ast_n (by omega) (by omega), obs, obs]
  refine ⟨_, rfl, ⟨?_, ?_⟩, ((Only.refl.up (Or.inr (Or.inl rfl))).up (Or.inr (Or.inr rfl))).up (Or.inl rfl)⟩
  · rw [up2_self, up2_ne (by omega), up2_ne (by omega), hR.1, n_succ, List.length_append]
    rfl
  · intro i hi
    rw [List.length_append] at hi
    rw [up2_ne (a := o) (b := o + 1) (by omega), up2_ne (a := o + 2) (b := o + 1) (by omega), up2_ne (a := o) (b := o + 2) (by omega)]
    by_cases e : i = l.length
    · rw [e, up2_self, up2_self, List.getElem?_append_right (Nat.le_refl _), Nat.sub_self]
      rfl
    · have hi2 : i < l.length := by
        have : [m].length = 1 := rfl
        omega
      rw [up2_nf e, up2_nf e, up2_ne (a := o + 1) (b := o + 2) (by omega), List.getElem?_append_left hi2]
      exact hR.2 i hi2
theorem p_add_full {S : Mem} {o : Nat} {l : List Msg} (a b : Int32) (hR : RP S o l) (hc : l.length = ln (o + 1)) (hb : ln (o + 1) < 2 ^ 31) : fp_add o a b S = some (0, S) := by
  unfold fp_add
  rw [hR.1, if_neg (n_neg (by omega)), if_pos ((n_le hb (by omega)).mpr (by omega))]
theorem p_first_ok {S : Mem} {o : Nat} {l : List Msg} (hR : RP S o l) {i : Nat} {m : Msg} (hx : l[i]? = some m) (hc : l.length ≤ ln (o + 1)) (hb : ln (o + 1) < 2 ^ 31) : fp_firstAt o (Int32.ofNat i) S = some m.1 := by
  have hi : i < l.length := (List.getElem?_eq_some_iff.mp hx).1
  have h2 := hR.2 i hi
  rw [hx] at h2
  unfold fp_firstAt
  rw [if_neg (n_neg (by omega)), if_neg (fun q => by rw [n_le hb (by omega)] at q; omega), ald_n (by omega) hb, obs, Option.some.inj h2]
theorem p_second_ok {S : Mem} {o : Nat} {l : List Msg} (hR : RP S o l) {i : Nat} {m : Msg} (hx : l[i]? = some m) (hc : l.length ≤ ln (o + 2)) (hb : ln (o + 2) < 2 ^ 31) : fp_secondAt o (Int32.ofNat i) S = some m.2 := by
  have hi : i < l.length := (List.getElem?_eq_some_iff.mp hx).1
  have h2 := hR.2 i hi
  rw [hx] at h2
  unfold fp_secondAt
  rw [if_neg (n_neg (by omega)), if_neg (fun q => by rw [n_le hb (by omega)] at q; omega), ald_n (by omega) hb, obs, Option.some.inj h2]
theorem p_drop_ok {S : Mem} {o : Nat} {m : Msg} {l : List Msg} (hR : RP S o (m :: l)) (hc : l.length < ln (o + 1)) (hl : ln (o + 2) = ln (o + 1)) (hb : ln (o + 1) < 2 ^ 31) : ∃ S1, fp_removeFirst o S = some S1 ∧ RP S1 o l ∧ Only (cP o) S S1 := by
  unfold fp_removeFirst
  have e1 : S o 2 = Int32.ofNat (l.length + 1) := hR.1
  have e2 : Int32.ofNat (l.length + 1) - 1 = Int32.ofNat l.length := by
    rw [← n_succ, Int32.add_sub_cancel]
  rw [e1, if_neg (fun q => by rw [show (0 : Int32) = Int32.ofNat 0 from rfl, n_le (by omega) (by decide)] at q; omega), e2, obs, up2_self, show (1 : Int32) = Int32.ofNat 1 from rfl, show (0 : Int32) = Int32.ofNat 0 from rfl, acp_n (by omega) (by omega) hb hb, obs, xup_ne (by omega), up2_self, acp_n (by omega) (by omega) (by omega) (by omega), obs]
  refine ⟨_, rfl, ⟨?_, fun i hi => ?_⟩, ((Only.refl.up (Or.inl rfl)).xup (Or.inr (Or.inl rfl))).xup (Or.inr (Or.inr rfl))⟩
  · rw [xup_ne (by omega), xup_ne (by omega), up2_self]
  · have h3 := hR.2 (i + 1) (by rw [List.length_cons]; omega)
    rw [List.getElem?_cons_succ] at h3
    rw [xup_ne (by omega), xup_self, xup_self, h3]
    unfold va_cpy
    rw [if_pos (by omega), if_pos (by omega), up2_off (by omega), xup_ne (by omega), up2_off (by omega), show 1 + (i - 0) = i + 1 by omega]
theorem p_drop_none {S : Mem} {o : Nat} (hR : RP S o []) : fp_removeFirst o S = some S := by
  unfold fp_removeFirst
  rw [hR.1, if_pos (by decide)]
/-- behind all, the oldest goes if it is full -/
theorem p_roll_ok {S : Mem} {o : Nat} {l : List Msg} (m : Msg) (hR : RP S o l) (hc : l.length ≤ ln (o + 1)) (h0 : 0 < ln (o + 1)) (hl : ln (o + 2) = ln (o + 1)) (hb : ln (o + 1) < 2 ^ 31) : ∃ S1, fp_addDroppingOldest o m.1 m.2 S = some S1 ∧ RP S1 o ((if l.length = ln (o + 1) then l.tail else l) ++ [m]) ∧ Only (cP o) S S1 := by
  unfold fp_addDroppingOldest
  rw [hR.1]
  by_cases e : l.length = ln (o + 1)
  · rw [if_pos ((n_inj (by omega) hb).mpr e), if_pos e]
    cases l with
    | nil => exact absurd e (by rw [List.length_nil]; omega)
    | cons q l =>
      rw [List.length_cons] at e
      obtain ⟨S1, g1, g2, g3⟩ := p_drop_ok hR (by omega) hl hb
      obtain ⟨S2, k1, k2, k3⟩ := p_add_ok m g2 (by omega) hl hb
      rw [g1, obs, k1, bd_some]
      exact ⟨S2, rfl, k2, g3.trans k3⟩
  · rw [if_neg (fun q => e ((n_inj (by omega) hb).mp q)), if_neg e]
    obtain ⟨S2, k1, k2, k3⟩ := p_add_ok m hR (by omega) hl hb
    rw [k1, bd_some]
    exact ⟨S2, rfl, k2, k3⟩
theorem p_copy_ok {S : Mem} {o p : Nat} {l : List Msg} (hR : RP S p l) (h1 : l.length ≤ ln (o + 1)) (h2 : l.length ≤ ln (p + 1)) (hl1 : ln (o + 2) = ln (o + 1)) (hl2 : ln (p + 2) = ln (p + 1)) (hb1 : ln (o + 1) < 2 ^ 31) (hb2 : ln (p + 1) < 2 ^ 31) (hne : o + 2 < p ∨ p + 2 < o) : ∃ S1, fp_copyFrom o p S = some S1 ∧ RP S1 o l ∧ Only (cP o) S S1 := by
  unfold fp_copyFrom
  rw [hR.1, sz_min (by omega) h1 h2 hb1 hb2, obs, up2_self, show (0 : Int32) = Int32.ofNat 0 from rfl, acp_n (by omega) (by omega) hb2 hb1, obs, xup_ne (by omega), up2_self, acp_n (by omega) (by omega) (by omega) (by omega), obs]
  refine ⟨_, rfl, ⟨?_, fun i hi => ?_⟩, ((Only.refl.up (Or.inl rfl)).xup (Or.inr (Or.inl rfl))).xup (Or.inr (Or.inr rfl))⟩
  · rw [xup_ne (by omega), xup_ne (by omega), up2_self]
  · rw [xup_ne (by omega), xup_self, xup_self, hR.2 i hi]
    unfold va_cpy
    rw [if_pos (by omega), if_pos (by omega), up2_off (by omega), xup_ne (by omega), up2_off (by omega), show 0 + (i - 0) = i by omega]
/-- the stash ahead of the mailbox -/
theorem p_ahead_ok {S : Mem} {o p : Nat} {l q : List Msg} {r : Nat} (hR : RP S o l) (hQ : RP S p q) (hr : r = min q.length (ln (o + 1) - l.length)) (h1 : l.length ≤ ln (o + 1)) (h2 : q.length ≤ ln (p + 1)) (hl1 : ln (o + 2) = ln (o + 1)) (hl2 : ln (p + 2) = ln (p + 1)) (hb1 : ln (o + 1) < 2 ^ 31) (hb2 : ln (p + 1) < 2 ^ 31) (hne : o + 2 < p ∨ p + 2 < o) : ∃ S1, fp_putAhead o p S = some (Int32.ofNat r, S1) ∧ RP S1 o (q.take r ++ l) ∧ Only (cP o) S S1 := by
  unfold fp_putAhead
  rw [hR.1, hQ.1, n_sub h1, imn_n (by omega) (by omega), ← hr]
  by_cases e : r = 0
  · rw [if_neg (fun q => by rw [show (0 : Int32) = Int32.ofNat 0 from rfl, n_lt (by decide) (by omega)] at q; omega), e, List.take_zero, List.nil_append]
    exact ⟨S, rfl, hR, Only.refl⟩
  · rw [if_pos (by rw [show (0 : Int32) = Int32.ofNat 0 from rfl, n_lt (by decide) (by omega)]; omega), show (0 : Int32) = Int32.ofNat 0 from rfl, acp_n (by omega) (by omega) hb1 hb1, obs, xup_ne (by omega), hR.1, acp_n (by omega) (by omega) (by omega) (by omega), obs, acp_n (by omega) (by omega) hb2 hb1, obs, acp_n (by omega) (by omega) (by omega) (by omega), obs, obs]
    have ht : (q.take r).length = r := by
      rw [List.length_take]
      omega
    refine ⟨_, rfl, ⟨?_, fun i hi => ?_⟩, ((((Only.refl.xup (Or.inr (Or.inl rfl))).xup (Or.inr (Or.inr rfl))).xup (Or.inr (Or.inl rfl))).xup (Or.inr (Or.inr rfl))).up (Or.inl rfl)⟩
    · rw [up2_self, xup_ne (by omega), xup_ne (by omega), xup_ne (by omega), xup_ne (by omega), hR.1, n_add, List.length_append, ht]
      congr 1
      omega
    · rw [List.length_append, ht] at hi
      have c1 : ¬ (o + 1 = o + 2) := by omega
      have c2 : ¬ (o + 2 = o + 1) := by omega
      have c3 : ¬ (p + 1 = o + 1) := by omega
      have c4 : ¬ (p + 1 = o + 2) := by omega
      have c5 : ¬ (p + 2 = o + 1) := by omega
      have c6 : ¬ (p + 2 = o + 2) := by omega
      rw [up2_off (by omega), up2_off (by omega)]
      simp only [xup, c1, c2, c3, c4, c5, c6, eq_self, if_true, if_false]
      unfold va_cpy
      by_cases hi2 : i < r
      · rw [if_pos (show 0 ≤ i ∧ i < 0 + r by omega), if_pos (show 0 ≤ i ∧ i < 0 + r by omega), List.getElem?_append_left (by omega), List.getElem?_take_of_lt hi2, hQ.2 i (by omega), show 0 + (i - 0) = i by omega]
      · rw [if_neg (show ¬ (0 ≤ i ∧ i < 0 + r) by omega), if_neg (show ¬ (0 ≤ i ∧ i < 0 + r) by omega), if_pos (show r ≤ i ∧ i < r + l.length by omega), if_pos (show r ≤ i ∧ i < r + l.length by omega), List.getElem?_append_right (by omega), ht, hR.2 (i - r) (by omega), show 0 + (i - r) = i - r by omega]
