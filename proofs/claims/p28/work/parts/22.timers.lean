/-! 22: the timers of the class -/
def tV (S : Mem) (o : Nat) : Nat → Tmr := fun i => (S (o + 1) i, S (o + 2) i, S (o + 3) i)
def RT (S : Mem) (o : Nat) (l : List Tmr) : Prop := S o 3 = Int32.ofNat l.length ∧ ∀ i, i < l.length → l[i]? = some (tV S o i)
def cT (o : Nat) : Nat → Prop := fun b => b = o ∨ b = o + 1 ∨ b = o + 2 ∨ b = o + 3
def t10 (o : Nat) : Prop := ln (o + 1) = 10 ∧ ln (o + 2) = 10 ∧ ln (o + 3) = 10
theorem RT.congr {S S1 : Mem} {o : Nat} {l : List Tmr} (h : RT S o l) (h0 : S1 o = S o) (h1 : S1 (o + 1) = S (o + 1)) (h2 : S1 (o + 2) = S (o + 2)) (h3 : S1 (o + 3) = S (o + 3)) : RT S1 o l := by
  unfold RT tV
  rw [h0, h1, h2, h3]
  exact h
theorem c_owner_ok {S : Mem} {o : Nat} {l : List Tmr} (ho : t10 o) (hR : RT S o l) {i : Nat} {t : Tmr} (hx : l[i]? = some t) (hc : l.length ≤ 10) : fc_ownerAt o (Int32.ofNat i) S = some t.1 := by
  have hi : i < l.length := (List.getElem?_eq_some_iff.mp hx).1
  have h2 := hR.2 i hi
  rw [hx] at h2
  unfold fc_ownerAt
  rw [ho.1, if_neg (n_neg (by omega)), if_neg (fun q => by rw [n_le (by decide) (by omega)] at q; omega), ald_n (by rw [ho.1]; omega) (by rw [ho.1]; decide), obs, Option.some.inj h2]
  rfl
theorem c_due_ok {S : Mem} {o : Nat} {l : List Tmr} (ho : t10 o) (hR : RT S o l) {i : Nat} {t : Tmr} (hx : l[i]? = some t) (hc : l.length ≤ 10) : fc_dueAt o (Int32.ofNat i) S = some t.2.1 := by
  have hi : i < l.length := (List.getElem?_eq_some_iff.mp hx).1
  have h2 := hR.2 i hi
  rw [hx] at h2
  unfold fc_dueAt
  rw [ho.2.1, if_neg (n_neg (by omega)), if_neg (fun q => by rw [n_le (by decide) (by omega)] at q; omega), ald_n (by rw [ho.2.1]; omega) (by rw [ho.2.1]; decide), obs, Option.some.inj h2]
  rfl
theorem c_number_ok {S : Mem} {o : Nat} {l : List Tmr} (ho : t10 o) (hR : RT S o l) {i : Nat} {t : Tmr} (hx : l[i]? = some t) (hc : l.length ≤ 10) : fc_numberAt o (Int32.ofNat i) S = some t.2.2 := by
  have hi : i < l.length := (List.getElem?_eq_some_iff.mp hx).1
  have h2 := hR.2 i hi
  rw [hx] at h2
  unfold fc_numberAt
  rw [ho.2.2, if_neg (n_neg (by omega)), if_neg (fun q => by rw [n_le (by decide) (by omega)] at q; omega), ald_n (by rw [ho.2.2]; omega) (by rw [ho.2.2]; decide), obs, Option.some.inj h2]
  rfl
/-- the cells behind a move -/
def mvd (S : Mem) (o i j : Nat) : Mem := up2 (up2 (up2 S (o + 1) j (S (o + 1) i)) (o + 2) j (S (o + 2) i)) (o + 3) j (S (o + 3) i)
theorem c_move_ok {S : Mem} {o i j : Nat} (ho : t10 o) (hi : i < 10) (hj : j < 10) : fc_move o (Int32.ofNat i) (Int32.ofNat j) S = some (mvd S o i j) := by
  unfold fc_move
  rw [if_neg (n_neg (by omega)), show (10 : Int32) = Int32.ofNat 10 from rfl, if_neg (fun q => by rw [n_le (by decide) (by omega)] at q; omega), if_neg (n_neg (by omega)), if_neg (fun q => by rw [n_le (by decide) (by omega)] at q; omega)]
  rw [ald_n (by rw [ho.1]; omega) (by rw [ho.1]; decide), obs, ast_n (by rw [ho.1]; omega) (by rw [ho.1]; decide), obs, ald_n (by rw [ho.2.1]; omega) (by rw [ho.2.1]; decide), obs, ast_n (by rw [ho.2.1]; omega) (by rw [ho.2.1]; decide), obs, ald_n (by rw [ho.2.2]; omega) (by rw [ho.2.2]; decide), obs, ast_n (by rw [ho.2.2]; omega) (by rw [ho.2.2]; decide), obs]
  unfold mvd
  rw [up2_ne (by omega), up2_ne (by omega), up2_ne (by omega)]
theorem mvd_size {S : Mem} {o i j : Nat} : mvd S o i j o 3 = S o 3 := by
  unfold mvd
  rw [up2_ne (by omega), up2_ne (by omega), up2_ne (by omega)]
theorem mvd_at {S : Mem} {o i j : Nat} : tV (mvd S o i j) o j = tV S o i := by
  unfold tV mvd
  rw [up2_ne (by omega), up2_ne (by omega), up2_self, up2_ne (by omega), up2_self, up2_self]
theorem mvd_off {S : Mem} {o i j k : Nat} (h : k ≠ j) : tV (mvd S o i j) o k = tV S o k := by
  unfold tV mvd
  rw [up2_ne (by omega), up2_ne (by omega), up2_nf h, up2_ne (by omega), up2_nf h, up2_ne (by omega), up2_nf h, up2_ne (by omega), up2_ne (by omega)]
theorem mvd_only {S : Mem} {o i j : Nat} : Only (cT o) S (mvd S o i j) := ((Only.refl.up (Or.inr (Or.inl rfl))).up (Or.inr (Or.inr (Or.inl rfl)))).up (Or.inr (Or.inr (Or.inr rfl)))
theorem c_removeOf_loop {o : Nat} {l : List Tmr} (v : Int32) (ho : t10 o) (hc : l.length ≤ 10) : ∀ (m n k : Nat) (S : Mem), k + m = l.length → m < n → S o 3 = Int32.ofNat l.length → (∀ i, i < ((l.take k).filter fun q => !(q.1 == v)).length → ((l.take k).filter fun q => !(q.1 == v))[i]? = some (tV S o i)) → (∀ i, k ≤ i → i < l.length → l[i]? = some (tV S o i)) → ∃ S1, fc_removeOf_4 n o v (Int32.ofNat ((l.take k).filter fun q => !(q.1 == v)).length) (Int32.ofNat k) S = some S1 ∧ RT S1 o (l.filter fun q => !(q.1 == v)) ∧ Only (cT o) S S1
  | _, 0, _, _, _, h, _, _, _ => absurd h (Nat.not_lt_zero _)
  | 0, n + 1, k, S, h, _, hs, h1, h2 => by
    have hk : k = l.length := by omega
    subst hk
    rw [List.take_length] at h1 ⊢
    show ∃ S1, fc_removeOf_4b (fc_removeOf_4 n) o v _ (Int32.ofNat l.length) S = some S1 ∧ _
    unfold fc_removeOf_4b
    rw [hs, if_pos ((n_le (by omega) (by omega)).mpr (Nat.le_refl _)), obs]
    refine ⟨_, rfl, ⟨up2_self, fun i hi => ?_⟩, Only.refl.up (Or.inl rfl)⟩
    unfold tV
    rw [up2_ne (by omega), up2_ne (by omega), up2_ne (by omega)]
    exact h1 i hi
  | m + 1, n + 1, k, S, h, hn, hs, h1, h2 => by
    have hk : k < l.length := by omega
    have hx := h2 k (Nat.le_refl _) hk
    have hfl : ((l.take k).filter fun q => !(q.1 == v)).length ≤ k := by
      have := List.length_filter_le (fun q : Tmr => !(q.1 == v)) (l.take k)
      rw [List.length_take] at this
      omega
    show ∃ S1, fc_removeOf_4b (fc_removeOf_4 n) o v _ (Int32.ofNat k) S = some S1 ∧ _
    unfold fc_removeOf_4b
    rw [hs, if_neg (fun q => by rw [n_le (by omega) (by omega)] at q; omega), show (10 : Int32) = Int32.ofNat 10 from rfl, if_neg (fun q => by rw [n_le (by decide) (by omega)] at q; omega), ald_n (by rw [ho.1]; omega) (by rw [ho.1]; decide), obs, n_succ]
    have ht := take_s hx
    by_cases e : S (o + 1) k = v
    · rw [if_pos e]
      have e2 : (l.take (k + 1)).filter (fun q => !(q.1 == v)) = (l.take k).filter fun q => !(q.1 == v) := by
        rw [ht, List.filter_append]
        simp [tV, e]
      rw [← e2] at h1 ⊢
      exact c_removeOf_loop v ho hc m n (k + 1) S (by omega) (by omega) hs h1 (fun i g1 g2 => h2 i (by omega) g2)
    · rw [if_neg e]
      have e2 : (l.take (k + 1)).filter (fun q => !(q.1 == v)) = ((l.take k).filter fun q => !(q.1 == v)) ++ [tV S o k] := by
        rw [ht, List.filter_append]
        congr 1
        simp [tV, e]
      rw [c_move_ok ho (by omega) (by omega), obs, n_succ]
      obtain ⟨p1, p2⟩ := press (V1 := tV (mvd S o k ((l.take k).filter fun q => !(q.1 == v)).length) o) h1 h2 hfl mvd_at (fun i hi => mvd_off hi)
      rw [← e2] at p1
      have e3 : ((l.take k).filter fun q => !(q.1 == v)).length + 1 = ((l.take (k + 1)).filter fun q => !(q.1 == v)).length := by
        rw [e2, List.length_append]
        rfl
      rw [e3]
      obtain ⟨S1, g1, g2, g3⟩ := c_removeOf_loop v ho hc m n (k + 1) _ (by omega) (by omega) (by rw [mvd_size]; exact hs) p1 p2
      exact ⟨S1, g1, g2, mvd_only.trans g3⟩
theorem c_removeOf_ok {S : Mem} {o : Nat} {l : List Tmr} (v : Int32) (ho : t10 o) (hR : RT S o l) (hc : l.length ≤ 10) : ∃ S1, fc_removeOf o v S = some S1 ∧ RT S1 o (l.filter fun q => !(q.1 == v)) ∧ Only (cT o) S S1 :=
  c_removeOf_loop v ho hc l.length LF 0 S (by omega) (by show l.length < 3000; omega) hR.1 (fun i hi => absurd hi (Nat.not_lt_zero _)) (fun i _ hi => hR.2 i hi)
theorem c_drop_loop {o : Nat} {l : List Tmr} {t : Tmr} (ho : t10 o) (hc : l.length < 10) : ∀ (m n k : Nat) (S : Mem), k + m = l.length → m < n → S o 3 = Int32.ofNat (l.length + 1) → (∀ i, i < k → l[i]? = some (tV S o i)) → (∀ i, k ≤ i → i < l.length → l[i]? = some (tV S o (i + 1))) → ∃ S1, fc_removeFirst_9 n o (Int32.ofNat (k + 1)) S = some S1 ∧ RT S1 o l ∧ Only (cT o) S S1
  | _, 0, _, _, _, h, _, _, _ => absurd h (Nat.not_lt_zero _)
  | 0, n + 1, k, S, h, _, hs, h1, h2 => by
    have hk : k = l.length := by omega
    subst hk
    show ∃ S1, fc_removeFirst_9b (fc_removeFirst_9 n) o (Int32.ofNat (l.length + 1)) S = some S1 ∧ _
    unfold fc_removeFirst_9b
    rw [hs, if_pos ((n_le (by omega) (by omega)).mpr (Nat.le_refl _)), obs]
    refine ⟨_, rfl, ⟨?_, fun i hi => ?_⟩, Only.refl.up (Or.inl rfl)⟩
    · rw [up2_self, ← n_succ, Int32.add_sub_cancel]
    · unfold tV
      rw [up2_ne (by omega), up2_ne (by omega), up2_ne (by omega)]
      exact h1 i hi
  | m + 1, n + 1, k, S, h, hn, hs, h1, h2 => by
    show ∃ S1, fc_removeFirst_9b (fc_removeFirst_9 n) o (Int32.ofNat (k + 1)) S = some S1 ∧ _
    unfold fc_removeFirst_9b
    have e0 : Int32.ofNat (k + 1) - 1 = Int32.ofNat k := by rw [← n_succ, Int32.add_sub_cancel]
    rw [hs, if_neg (fun q => by rw [n_le (by omega) (by omega)] at q; omega), e0, c_move_ok ho (by omega) (by omega), obs, n_succ]
    obtain ⟨S1, g1, g2, g3⟩ := c_drop_loop (t := t) ho hc m n (k + 1) (mvd S o (k + 1) k) (by omega) (by omega) (by rw [mvd_size]; exact hs) (fun i hi => by
      by_cases e : i = k
      · rw [e, mvd_at]
        exact h2 k (Nat.le_refl _) (by omega)
      · rw [mvd_off e]
        exact h1 i (by omega)) (fun i g1 g2 => by
      rw [mvd_off (by omega)]
      exact h2 i (by omega) g2)
    exact ⟨S1, g1, g2, mvd_only.trans g3⟩
theorem c_drop_ok {S : Mem} {o : Nat} {l : List Tmr} {t : Tmr} (ho : t10 o) (hR : RT S o (t :: l)) (hc : l.length < 10) : ∃ S1, fc_removeFirst o S = some S1 ∧ RT S1 o l ∧ Only (cT o) S S1 := by
  have e1 : S o 3 = Int32.ofNat (l.length + 1) := hR.1
  unfold fc_removeFirst
  rw [e1, if_neg (fun q => by rw [show (0 : Int32) = Int32.ofNat 0 from rfl, n_le (by omega) (by decide)] at q; omega)]
  exact c_drop_loop (t := t) ho hc l.length LF 0 S (by omega) (by show l.length < 3000; omega) e1 (fun i hi => absurd hi (Nat.not_lt_zero _)) (fun i _ hi => by
    have := hR.2 (i + 1) (by rw [List.length_cons]; omega)
    rw [List.getElem?_cons_succ] at this
    exact this)
theorem c_copy_ok {S : Mem} {o p : Nat} {l : List Tmr} (ho : t10 o) (hp : t10 p) (hR : RT S p l) (hc : l.length ≤ 10) (hne : o + 3 < p ∨ p + 3 < o) : ∃ S1, fc_copyFrom o p S = some S1 ∧ RT S1 o l ∧ Only (cT o) S S1 := by
  have e : imx 0 (imn (Int32.ofNat l.length) 10) = Int32.ofNat l.length := by
    rw [show (10 : Int32) = Int32.ofNat 10 from rfl, imn_n (by omega) (by decide), Nat.min_eq_left hc, imx_0 (by omega)]
  unfold fc_copyFrom
  rw [hR.1, e, obs, up2_self, show (0 : Int32) = Int32.ofNat 0 from rfl, acp_n (by rw [hp.1]; omega) (by rw [ho.1]; omega) (by rw [hp.1]; decide) (by rw [ho.1]; decide), obs, xup_ne (b := o) (by omega), up2_self, acp_n (by rw [hp.2.1]; omega) (by rw [ho.2.1]; omega) (by rw [hp.2.1]; decide) (by rw [ho.2.1]; decide), obs, xup_ne (b := o) (by omega), xup_ne (b := o) (by omega), up2_self, acp_n (by rw [hp.2.2]; omega) (by rw [ho.2.2]; omega) (by rw [hp.2.2]; decide) (by rw [ho.2.2]; decide), obs]
  refine ⟨_, rfl, ⟨?_, fun i hi => ?_⟩, (((Only.refl.up (Or.inl rfl)).xup (Or.inr (Or.inl rfl))).xup (Or.inr (Or.inr (Or.inl rfl)))).xup (Or.inr (Or.inr (Or.inr rfl)))⟩
  · rw [xup_ne (b := o) (by omega), xup_ne (b := o) (by omega), xup_ne (b := o) (by omega), up2_self]
  · have c1 : ¬ (o + 1 = o + 2) := by omega
    have c2 : ¬ (o + 2 = o + 1) := by omega
    have c3 : ¬ (o + 1 = o + 3) := by omega
    have c4 : ¬ (o + 3 = o + 1) := by omega
    have c5 : ¬ (o + 2 = o + 3) := by omega
    have c6 : ¬ (o + 3 = o + 2) := by omega
    have d1 : ¬ (p + 2 = o + 1) := by omega
    have d2 : ¬ (p + 3 = o + 1) := by omega
    have d3 : ¬ (p + 3 = o + 2) := by omega
    have g1 : up2 S o 3 (Int32.ofNat l.length) (p + 1) = S (p + 1) := up2_off (by omega)
    have g2 : up2 S o 3 (Int32.ofNat l.length) (p + 2) = S (p + 2) := up2_off (by omega)
    have g3 : up2 S o 3 (Int32.ofNat l.length) (p + 3) = S (p + 3) := up2_off (by omega)
    rw [hR.2 i hi]
    unfold tV
    simp only [xup, va_cpy, c1, c2, c3, c4, c5, c6, d1, d2, d3, g1, g2, g3, eq_self, if_true, if_false]
    rw [if_pos (show 0 ≤ i ∧ i < 0 + l.length by omega), if_pos (show 0 ≤ i ∧ i < 0 + l.length by omega), if_pos (show 0 ≤ i ∧ i < 0 + l.length by omega), show 0 + (i - 0) = i by omega]
/-- a timer is set behind those due by then -/
def tIns (t : Tmr) (l : List Tmr) : List Tmr := l.takeWhile (fun q => decide (q.2.1 ≤ t.2.1)) ++ t :: l.dropWhile (fun q => decide (q.2.1 ≤ t.2.1))
def tSorted (l : List Tmr) : Prop := List.Pairwise (fun a b : Tmr => a.2.1 ≤ b.2.1) l
theorem c_count_loop {S : Mem} {o : Nat} {l : List Tmr} (v : Int32) (ho : t10 o) (hR : RT S o l) (hc : l.length ≤ 10) : ∀ (m n k c : Nat), k + m = l.length → m < n → fc_countOf_4 n o v (Int32.ofNat c) (Int32.ofNat k) S = some (Int32.ofNat (c + ((l.drop k).filter fun q => q.1 == v).length))
  | _, 0, _, _, _, h => absurd h (Nat.not_lt_zero _)
  | 0, n + 1, k, c, h, _ => by
    show fc_countOf_4b (fc_countOf_4 n) o v (Int32.ofNat c) (Int32.ofNat k) S = _
    unfold fc_countOf_4b
    rw [hR.1, if_pos ((n_le (by omega) (by omega)).mpr (by omega)), List.drop_eq_nil_of_le (by omega)]
    rfl
  | m + 1, n + 1, k, c, h, hn => by
    show fc_countOf_4b (fc_countOf_4 n) o v (Int32.ofNat c) (Int32.ofNat k) S = _
    unfold fc_countOf_4b
    have hk : k < l.length := by omega
    have hx := hR.2 k hk
    rw [List.getElem?_eq_getElem hk] at hx
    rw [hR.1, if_neg (fun q => by rw [n_le (by omega) (by omega)] at q; omega), show (10 : Int32) = Int32.ofNat 10 from rfl, if_neg (fun q => by rw [n_le (by decide) (by omega)] at q; omega), ald_n (by rw [ho.1]; omega) (by rw [ho.1]; decide), obs, n_succ, n_succ, show Int32.ofNat c + 0 = Int32.ofNat c from Int32.add_zero _, c_count_loop v ho hR hc m n (k + 1) c (by omega) (by omega), c_count_loop v ho hR hc m n (k + 1) (c + 1) (by omega) (by omega), List.drop_eq_getElem_cons hk, Option.some.inj hx]
    by_cases e : S (o + 1) k = v
    · rw [if_pos e, List.filter_cons_of_pos (by simp [tV, e]), List.length_cons]
      congr 2
      omega
    · rw [if_neg e, List.filter_cons_of_neg (by simp [tV, e])]
theorem c_count_ok {S : Mem} {o : Nat} {l : List Tmr} (v : Int32) (ho : t10 o) (hR : RT S o l) (hc : l.length ≤ 10) : fc_countOf o v S = some (Int32.ofNat (l.filter fun q => q.1 == v).length) := by
  have := c_count_loop v ho hR hc l.length LF 0 0 (by omega) (by show l.length < 3000; omega)
  rw [Nat.zero_add] at this
  exact this
/-- the way down to where it is set: what is due later stands one place on -/
theorem c_set_loop {o : Nat} {l : List Tmr} (t : Tmr) (ho : t10 o) (hc : l.length < 10) (j : Nat) (hj : j ≤ l.length) (hlo : ∀ i q, i < j → l[i]? = some q → q.2.1 ≤ t.2.1) (hhi : ∀ i q, j ≤ i → l[i]? = some q → ¬ q.2.1 ≤ t.2.1) : ∀ (m n : Nat) (S : Mem), j + m ≤ l.length → m < n → S o 3 = Int32.ofNat l.length → (∀ i, i < j + m → l[i]? = some (tV S o i)) → (∀ i, j + m ≤ i → i < l.length → l[i]? = some (tV S o (i + 1))) → ∃ S1, fc_set_23 n o t.1 t.2.1 t.2.2 (Int32.ofNat (j + m)) S = some S1 ∧ RT S1 o (l.take j ++ t :: l.drop j) ∧ Only (cT o) S S1
  | _, 0, _, _, h, _, _, _ => absurd h (Nat.not_lt_zero _)
  | m, n + 1, S, h, hn, hs, h1, h2 => by
    have hend : ∃ S1, ((ast S (o + 1) (Int32.ofNat (j + m)) t.1).bind fun S5 => (ast S5 (o + 2) (Int32.ofNat (j + m)) t.2.1).bind fun S6 => (ast S6 (o + 3) (Int32.ofNat (j + m)) t.2.2).bind fun S7 => (some (up2 S7 o 3 ((S7 o 3) + 1))).bind fun S8 => some S8) = some S1 ∧ (m = 0 → RT S1 o (l.take j ++ t :: l.drop j)) ∧ Only (cT o) S S1 := by
      rw [ast_n (by rw [ho.1]; omega) (by rw [ho.1]; decide), obs, ast_n (by rw [ho.2.1]; omega) (by rw [ho.2.1]; decide), obs, ast_n (by rw [ho.2.2]; omega) (by rw [ho.2.2]; decide), obs, obs]
      refine ⟨_, rfl, fun hm => ⟨?_, fun i hi => ?_⟩, (((Only.refl.up (Or.inr (Or.inl rfl))).up (Or.inr (Or.inr (Or.inl rfl)))).up (Or.inr (Or.inr (Or.inr rfl)))).up (Or.inl rfl)⟩
      · rw [up2_self, up2_ne (by omega), up2_ne (by omega), up2_ne (by omega), hs, n_succ]
        congr 1
        simp
        omega
      · subst hm
        simp only [Nat.add_zero] at *
        have hi2 : i < l.length + 1 := by
          simp at hi
          omega
        unfold tV
        rw [up2_ne (by omega), up2_ne (by omega), up2_ne (by omega), up2_ne (by omega : o + 2 ≠ o), up2_ne (by omega : o + 2 ≠ o + 3), up2_ne (by omega : o + 3 ≠ o)]
        have ht : (l.take j).length = j := by
          rw [List.length_take]
          omega
        by_cases e1 : i = j
        · rw [e1, up2_self, up2_self, up2_self, List.getElem?_append_right (by omega), ht, Nat.sub_self]
          rfl
        · rw [up2_nf e1, up2_nf e1, up2_ne (by omega), up2_nf e1, up2_ne (by omega), up2_ne (by omega)]
          by_cases e2 : i < j
          · rw [List.getElem?_append_left (by omega), List.getElem?_take_of_lt e2]
            exact h1 i e2
          · rw [List.getElem?_append_right (by omega), ht, show i - j = (i - j - 1) + 1 by omega, List.getElem?_cons_succ, List.getElem?_drop, show j + (i - j - 1) = i - 1 by omega]
            have := h2 (i - 1) (by omega) (by omega)
            rw [show i - 1 + 1 = i by omega] at this
            exact this
    show ∃ S1, fc_set_23b (fc_set_23 n) o t.1 t.2.1 t.2.2 (Int32.ofNat (j + m)) S = some S1 ∧ _
    unfold fc_set_23b
    cases m with
    | zero =>
      obtain ⟨S1, g1, g2, g3⟩ := hend
      by_cases e : j = 0
      · rw [if_pos (by rw [e]; decide)]
        exact ⟨S1, g1, g2 rfl, g3⟩
      · rw [if_neg (fun q => by rw [show (0 : Int32) = Int32.ofNat 0 from rfl, n_le (by omega) (by decide)] at q; omega)]
        have e0 : Int32.ofNat (j + 0) - 1 = Int32.ofNat (j - 1) := by
          rw [show (1 : Int32) = Int32.ofNat 1 from rfl, n_sub (by omega)]
          rfl
        have hx := h1 (j - 1) (by omega)
        rw [e0, ald_n (by rw [ho.2.1]; omega) (by rw [ho.2.1]; decide), obs, if_pos (show S (o + 2) (j - 1) ≤ t.2.1 from hlo (j - 1) _ (by omega) hx)]
        exact ⟨S1, g1, g2 rfl, g3⟩
    | succ m =>
      have e0 : Int32.ofNat (j + (m + 1)) - 1 = Int32.ofNat (j + m) := by
        rw [show j + (m + 1) = (j + m) + 1 by omega, ← n_succ, Int32.add_sub_cancel]
      have e1 : Int32.ofNat (j + (m + 1)) + (-1) = Int32.ofNat (j + m) := by
        rw [← e0]
        exact (Int32.sub_eq_add_neg _ _).symm
      have hx := h1 (j + m) (by omega)
      rw [if_neg (fun q => by rw [show (0 : Int32) = Int32.ofNat 0 from rfl, n_le (by omega) (by decide)] at q; omega), e0, ald_n (by rw [ho.2.1]; omega) (by rw [ho.2.1]; decide), obs, if_neg (show ¬ S (o + 2) (j + m) ≤ t.2.1 from hhi (j + m) _ (by omega) hx), c_move_ok ho (by omega) (by omega), obs, e1]
      obtain ⟨S1, g1, g2, g3⟩ := c_set_loop t ho hc j hj hlo hhi m n (mvd S o (j + m) (j + (m + 1))) (by omega) (by omega) (by rw [mvd_size]; exact hs) (fun i hi => by
        rw [mvd_off (by omega)]
        exact h1 i (by omega)) (fun i g1 g2 => by
        by_cases e : i = j + m
        · rw [e, show j + m + 1 = j + (m + 1) by omega, mvd_at]
          exact hx
        · rw [mvd_off (by omega)]
          exact h2 i (by omega) g2)
      exact ⟨S1, g1, g2, mvd_only.trans g3⟩
theorem tw_len (p : Tmr → Bool) : ∀ (l : List Tmr), l.takeWhile p = l.take (l.takeWhile p).length ∧ l.dropWhile p = l.drop (l.takeWhile p).length
  | [] => ⟨rfl, rfl⟩
  | a :: l => by
    by_cases h : p a = true
    · rw [List.takeWhile_cons_of_pos h, List.dropWhile_cons_of_pos h, List.length_cons, List.take_succ_cons, List.drop_succ_cons, ← (tw_len p l).1, ← (tw_len p l).2]
      exact ⟨rfl, rfl⟩
    · rw [List.takeWhile_cons_of_neg h, List.dropWhile_cons_of_neg h]
      exact ⟨rfl, rfl⟩
theorem tw_lo (p : Tmr → Bool) : ∀ (l : List Tmr) (i : Nat) (q : Tmr), i < (l.takeWhile p).length → l[i]? = some q → p q = true
  | [], _, _, h, _ => absurd h (Nat.not_lt_zero _)
  | a :: l, i, q, h, hx => by
    by_cases g : p a = true
    · rw [List.takeWhile_cons_of_pos g, List.length_cons] at h
      cases i with
      | zero => cases hx; exact g
      | succ i => exact tw_lo p l i q (by omega) hx
    · rw [List.takeWhile_cons_of_neg g] at h
      exact absurd h (Nat.not_lt_zero _)
theorem tw_hi (t : Tmr) : ∀ (l : List Tmr), tSorted l → ∀ (i : Nat) (q : Tmr), (l.takeWhile fun q => decide (q.2.1 ≤ t.2.1)).length ≤ i → l[i]? = some q → ¬ q.2.1 ≤ t.2.1
  | [], _, _, _, _, hx => by cases hx
  | a :: l, hs, i, q, h, hx => by
    have hs2 := List.pairwise_cons.mp hs
    by_cases g : a.2.1 ≤ t.2.1
    · rw [List.takeWhile_cons_of_pos (by simp [g]), List.length_cons] at h
      cases i with
      | zero => exact absurd h (by omega)
      | succ i => exact tw_hi t l hs2.2 i q (by omega) hx
    · cases i with
      | zero => cases hx; exact g
      | succ i =>
        have hm : q ∈ l := List.mem_of_getElem? hx
        intro k
        exact g (Int32.le_trans (hs2.1 q hm) k)
theorem c_set_ok {S : Mem} {o : Nat} {l : List Tmr} (t : Tmr) (ho : t10 o) (hR : RT S o l) (hc : l.length < 10) (hs : tSorted l) : ∃ S1, fc_set o t.1 t.2.1 t.2.2 S = some S1 ∧ RT S1 o (tIns t l) ∧ Only (cT o) S S1 := by
  unfold fc_set
  rw [hR.1, if_neg (n_neg (by omega)), show (10 : Int32) = Int32.ofNat 10 from rfl, if_pos ((n_lt (by omega) (by decide)).mpr hc)]
  generalize hj : (l.takeWhile fun q => decide (q.2.1 ≤ t.2.1)).length = j
  have hjl : j ≤ l.length := by
    rw [← hj]
    exact List.IsPrefix.length_le (List.takeWhile_prefix _)
  obtain ⟨S1, g1, g2, g3⟩ := c_set_loop t ho hc j hjl (fun i q hi hx => by
    have := tw_lo _ l i q (by rw [hj]; exact hi) hx
    simpa using this) (fun i q hi hx => tw_hi t l hs i q (by rw [hj]; exact hi) hx) (l.length - j) LF S (by omega) (by show l.length - j < 3000; omega) hR.1 (fun i hi => hR.2 i (by omega)) (fun i g1 g2 => by omega)
  rw [show j + (l.length - j) = l.length by omega] at g1
  refine ⟨S1, g1, ?_, g3⟩
  unfold tIns
  rw [(tw_len _ l).1, (tw_len _ l).2, hj]
  exact g2
theorem c_set_full {S : Mem} {o : Nat} {l : List Tmr} (a b c : Int32) (hR : RT S o l) (hc : l.length = 10) : fc_set o a b c S = some S := by
  unfold fc_set
  rw [hR.1, hc, if_neg (by decide), if_neg (by decide)]
