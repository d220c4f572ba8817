/-! 32: what always holds stays -/
def Good (w : Wst) : Prop := Inv w ∧ Tree w ∧ Bud w
theorem sSend_good {w : Wst} {a : Nat} {m : Msg} (h : Good w) (hm : okM (wN w) m) : Good (sSend w a m) := ⟨sSend_inv h.1 hm, sSend_tree h.2.1, (sSend_kp w a m).bud h.2.2⟩
theorem Good.act {w : Wst} {a : Nat} {x : Act} (h : Good w) (ha : a < wN w) (hx : okA (wN w) a x) (h0 : aI x 0 = aI (wA w a) 0) (h6 : aI x 6 = aI (wA w a) 6) (hm : aI x 6 = 0 → aMail x = [] ∧ aNot x = []) (hn : (aNot x).length ≤ nu (aI x 3)) : Good (wSA w a x) := by
  obtain ⟨hI, ⟨t1, t2, t3⟩, hB⟩ := h
  have hl : ∀ b, sLive (wSA w a x) b = sLive w b := fun b => by
    unfold sLive
    show (decide (b < wN w) && decide (aI (xup (wA w) a x b) 6 = 1)) = _
    by_cases e : b = a
    · rw [e, xup_s, h6]
    · rw [xup_n e]
  refine ⟨hI.act hx, ⟨fun b hb g h00 => ?_, fun t g => ?_, fun b hb g => ?_⟩, fun b hb => ?_⟩
  · rw [hl]
    have e0 : aI (wA (wSA w a x) b) 0 = aI (wA w b) 0 := by
      show aI (xup (wA w) a x b) 0 = _
      by_cases e : b = a
      · rw [e, xup_s, h0]
      · rw [xup_n e]
    have e6 : aI (wA (wSA w a x) b) 6 = aI (wA w b) 6 := by
      show aI (xup (wA w) a x b) 6 = _
      by_cases e : b = a
      · rw [e, xup_s, h6]
      · rw [xup_n e]
    rw [e0]
    rw [e6] at g
    exact t1 b hb g h00
  · rw [hl]
    exact t2 t g
  · have g2 : aI (xup (wA w) a x b) 6 = 0 := g
    show aMail (xup (wA w) a x b) = [] ∧ aNot (xup (wA w) a x b) = []
    by_cases e : b = a
    · rw [e, xup_s] at g2 ⊢
      exact hm g2
    · rw [xup_n e] at g2 ⊢
      exact t3 b hb g2
  · show (aNot (xup (wA w) a x b)).length ≤ nu (aI (xup (wA w) a x b) 3)
    by_cases e : b = a
    · rw [e, xup_s]
      exact hn
    · rw [xup_n e]
      exact hB b hb
theorem Good.int8 {w : Wst} {k : Nat} {v : Int32} (h : Good w) (hk : k ≠ 5) : Good (wSI w k v) := ⟨h.1.int8 hk, h.2.1, h.2.2⟩
theorem live_6 {w : Wst} {a : Nat} (h : sLive w a = true) : ¬ aI (wA w a) 6 = 0 := by
  rw [(sLive_lt h).2]
  decide
theorem Good.live {w : Wst} {a : Nat} {x : Act} (h : Good w) (hl : sLive w a = true) (hx : okA (wN w) a x) (h0 : aI x 0 = aI (wA w a) 0) (h3 : aI x 3 = aI (wA w a) 3) (h6 : aI x 6 = aI (wA w a) 6) (hn : aNot x = aNot (wA w a)) : Good (wSA w a x) := by
  refine h.act (sLive_lt hl).1 hx h0 h6 (fun q => ?_) ?_
  · rw [h6] at q
    exact absurd q (live_6 hl)
  · rw [hn, h3]
    exact h.2.2 a (sLive_lt hl).1
theorem count_good {w : Wst} {a : Nat} {v : Int32} (h : Good w) (hl : sLive w a = true) : Good (wSA w a (aSI (wA w a) 5 v)) := by
  have ha := (sLive_lt hl).1
  obtain ⟨p1, p2, p3, p4, p5, p6, p7⟩ := h.1.2.1 a ha
  exact h.live hl ⟨p1, p2, p3, p4, p5, p6, p7⟩ rfl rfl rfl rfl
theorem sPass_good {a : Nat} {n : Int32} (hn : okV n) (all : Bool) : ∀ (k c : Nat) (w : Wst), a < wN w → Good w → Good (sPass a n all k c w)
  | 0, _, _, _, h => h
  | k + 1, c, w, ha, h => by
    have hs := sSend_good (a := c) h (m := (Int32.ofNat a, n)) ⟨Or.inr (okN_of ha), Or.inl hn⟩
    show Good (if sLC w c a = true then (if all = true then sPass a n all k (c + 1) (sSend w c (Int32.ofNat a, n)) else sSend w c (Int32.ofNat a, n)) else sPass a n all k (c + 1) w)
    split
    · split
      · exact sPass_good hn all k (c + 1) _ (by rw [sSend_n]; exact ha) hs
      · exact hs
    · exact sPass_good hn all k (c + 1) w ha h
theorem sPass_n (a : Nat) (n : Int32) (all : Bool) : ∀ (k c : Nat) (w : Wst), wN (sPass a n all k c w) = wN w
  | 0, _, _ => rfl
  | k + 1, c, w => by
    show wN (if sLC w c a = true then (if all = true then sPass a n all k (c + 1) (sSend w c (Int32.ofNat a, n)) else sSend w c (Int32.ofNat a, n)) else sPass a n all k (c + 1) w) = wN w
    split
    · split
      · rw [sPass_n, sSend_n]
      · exact sSend_n ..
    · rw [sPass_n]
theorem sPass_kp (a : Nat) (n : Int32) (all : Bool) : ∀ (k c : Nat) (w : Wst), Kp w (sPass a n all k c w)
  | 0, _, _ => Kp.refl
  | k + 1, c, w => by
    show Kp w (if sLC w c a = true then (if all = true then sPass a n all k (c + 1) (sSend w c (Int32.ofNat a, n)) else sSend w c (Int32.ofNat a, n)) else sPass a n all k (c + 1) w)
    split
    · split
      · exact (sSend_kp ..).trans (sPass_kp ..)
      · exact sSend_kp ..
    · exact sPass_kp ..
/-- the stash comes back to one that is live -/
theorem sBack_good {w : Wst} {a : Nat} (h : Good w) (hl : sLive w a = true) : Good (sBack w a) := by
  have ha := (sLive_lt hl).1
  obtain ⟨p1, p2, p3, p4, p5, p6, p7, p8, p9, p10, p11⟩ := h.1.2.1 a ha
  unfold sBack
  refine Good.int8 (h.live hl ?_ rfl rfl rfl rfl) (by decide)
  refine ⟨p1, p2, p3, p4, p5, p6, p7, ⟨?_, fun m hm => ?_⟩, ⟨by show ([] : List Msg).length ≤ 6; decide, fun m hm => by cases hm⟩, p10, p11⟩
  · show ((aStash (wA w a)).take (min (aStash (wA w a)).length (12 - (aMail (wA w a)).length)) ++ aMail (wA w a)).length ≤ 12
    rw [List.length_append, List.length_take]
    have := p8.1
    omega
  · have hm2 : m ∈ (aStash (wA w a)).take (min (aStash (wA w a)).length (12 - (aMail (wA w a)).length)) ++ aMail (wA w a) := hm
    rcases List.mem_append.mp hm2 with q | q
    · exact (p9.2 m (List.mem_of_mem_take q)).1
    · exact p8.2 m q
theorem sBack_n (w : Wst) (a : Nat) : wN (sBack w a) = wN w := rfl
theorem stash_good {w : Wst} {a : Nat} {f n : Int32} (h : Good w) (hl : sLive w a = true) (hm : okM (wN w) (f, n)) (hn : okV n) (hs : ¬ (aStash (wA w a)).length = 6) : Good (wSA w a (aSStash (wA w a) (aStash (wA w a) ++ [(f, n)]))) := by
  have ha := (sLive_lt hl).1
  obtain ⟨p1, p2, p3, p4, p5, p6, p7, p8, p9, p10, p11⟩ := h.1.2.1 a ha
  refine h.live hl ⟨p1, p2, p3, p4, p5, p6, p7, p8, ⟨?_, fun m hq => ?_⟩, p10, p11⟩ rfl rfl rfl rfl
  · show (aStash (wA w a) ++ [(f, n)]).length ≤ 6
    rw [List.length_append]
    have := p9.1
    show _ + 1 ≤ 6
    omega
  · have hq2 : m ∈ aStash (wA w a) ++ [(f, n)] := hq
    rcases List.mem_append.mp hq2 with q | q
    · exact p9.2 m q
    · rw [List.mem_singleton.mp q]
      exact ⟨hm, hn⟩
theorem stk_good {w : Wst} {a : Nat} {l : List Int32} (h : Good w) (hl : sLive w a = true) (hs : 1 ≤ l.length ∧ l.length ≤ 5 ∧ ∀ q ∈ l, okN 10 q) : Good (wSA w a (aSStk (wA w a) l)) := by
  have ha := (sLive_lt hl).1
  obtain ⟨p1, p2, p3, p4, p5, p6, p7, p8, p9, p10, p11⟩ := h.1.2.1 a ha
  exact h.live hl ⟨p1, p2, p3, p4, p5, p6, hs, p8, p9, p10, p11⟩ rfl rfl rfl rfl
theorem tIns_len (t : Tmr) (l : List Tmr) : (tIns t l).length = l.length + 1 := by
  unfold tIns
  have := congrArg List.length (List.takeWhile_append_dropWhile (p := fun q : Tmr => decide (q.2.1 ≤ t.2.1)) (l := l))
  rw [List.length_append] at this
  rw [List.length_append, List.length_cons]
  omega
theorem tIns_mem {t q : Tmr} {l : List Tmr} (h : q ∈ tIns t l) : q = t ∨ q ∈ l := by
  unfold tIns at h
  rcases List.mem_append.mp h with g | g
  · exact Or.inr ((List.takeWhile_sublist _).subset g)
  · rcases List.mem_cons.mp g with g | g
    · exact Or.inl g
    · exact Or.inr ((List.dropWhile_sublist _).subset g)
theorem tIns_sorted {t : Tmr} {l : List Tmr} (h : tSorted l) : tSorted (tIns t l) := by
  unfold tIns tSorted
  rw [List.pairwise_append]
  have hlo : ∀ q ∈ l.takeWhile (fun q => decide (q.2.1 ≤ t.2.1)), q.2.1 ≤ t.2.1 := fun q hq => by
    obtain ⟨i, hi, e⟩ := List.mem_iff_getElem.mp hq
    have h1 : (l.takeWhile fun q => decide (q.2.1 ≤ t.2.1))[i]? = some q := by rw [List.getElem?_eq_getElem hi, e]
    rw [(tw_len (fun q : Tmr => decide (q.2.1 ≤ t.2.1)) l).1, List.getElem?_take_of_lt hi] at h1
    have := tw_lo (fun q : Tmr => decide (q.2.1 ≤ t.2.1)) l i q hi h1
    simpa using this
  have hhi : ∀ q ∈ l.dropWhile (fun q => decide (q.2.1 ≤ t.2.1)), t.2.1 ≤ q.2.1 := fun q hq => by
    rw [(tw_len (fun q : Tmr => decide (q.2.1 ≤ t.2.1)) l).2] at hq
    obtain ⟨i, hi⟩ := List.mem_iff_getElem?.mp hq
    rw [List.getElem?_drop] at hi
    exact Int32.le_of_lt (Int32.not_le.mp (tw_hi t l h _ q (by omega) hi))
  refine ⟨h.sublist (List.takeWhile_sublist _), List.pairwise_cons.mpr ⟨hhi, h.sublist (List.dropWhile_sublist _)⟩, fun a ha b hb => ?_⟩
  rcases List.mem_cons.mp hb with rfl | hb
  · exact hlo a ha
  · exact Int32.le_trans (hlo a ha) (hhi b hb)
theorem okV_pred {n : Int32} (h : okV n) (h0 : 0 < n) : okV (n - 1) := by
  rw [Int32.lt_iff_toInt_lt, v99_0] at h0
  have h1 : (1 : Int32).toInt = 1 := by decide
  have e : (n - 1).toInt = n.toInt - 1 := by
    rw [Int32.toInt_sub, h1]
    have := h.2
    apply Int.bmod_eq_of_le_mul_two <;> omega
  unfold okV
  rw [e]
  have := h.2
  omega
theorem sDelay_good {w : Wst} {a : Nat} {n : Int32} (h : Good w) (hn : okV n) (hl : sLive w a = true) : Good (sDelay w a n) := by
  unfold sDelay
  split
  · rename_i g
    obtain ⟨hI, ⟨t1, t2, t3⟩, hB⟩ := h
    have hm : ∀ t ∈ tIns (Int32.ofNat a, wI w 6 + 1 + irm n 8, n - 1) (wT w), t = (Int32.ofNat a, wI w 6 + 1 + irm n 8, n - 1) ∨ t ∈ wT w := fun t ht => tIns_mem ht
    have h12 := hI.1
    have ha := (sLive_lt hl).1
    refine ⟨hI.tim ?_ (tIns_sorted hI.2.2.1.2.1) (fun t ht => ?_), ⟨t1, fun t ht => ?_, t3⟩, hB⟩
    · rw [tIns_len]
      have := g.2
      omega
    · rcases hm t ht with rfl | ht
      · exact ⟨okN_of ha, okV_pred hn g.1⟩
      · exact hI.2.2.1.2.2 t ht
    · rcases hm t ht with rfl | ht
      · show sLive w (nu (Int32.ofNat a)) = true
        unfold nu
        rw [n_clamp (by omega)]
        exact hl
      · exact t2 t ht
  · exact h
theorem sWatch_good {w : Wst} {a : Nat} {n : Int32} (h : Good w) (hn : okV n) (hl : sLive w a = true) : Good (sWatch w a n) := by
  have h12 := h.1.1
  have ha := (sLive_lt hl).1
  obtain ⟨t1, -⟩ := named_ok hn h12 (by omega)
  unfold sWatch
  generalize sNamed w n = t at t1
  show Good (if t = a then w else if sLive w t = true then (if Int32.ofNat a ∈ aWat (wA w t) then w else wSA w t (aSWat (wA w t) (aWat (wA w t) ++ [Int32.ofNat a]))) else sSend w a (Int32.ofNat a, 200 + Int32.ofNat t))
  split
  · exact h
  split
  · rename_i g
    split
    · exact h
    · rename_i hm
      obtain ⟨p1, p2, p3, p4, p5, p6, p7, p8, p9, p10, p11⟩ := h.1.2.1 t t1
      refine h.live g ⟨p1, p2, p3, p4, p5, p6, p7, p8, p9, ⟨?_, fun q hq => ?_⟩, p11⟩ rfl rfl rfl rfl
      · show (aWat (wA w t) ++ [Int32.ofNat a]).Nodup
        rw [List.nodup_append]
        refine ⟨p10.1, List.nodup_cons.mpr ⟨List.not_mem_nil, List.nodup_nil⟩, fun x hx y hy e => ?_⟩
        rw [List.mem_singleton.mp hy] at e
        exact hm (by rw [← e]; exact hx)
      · have hq2 : q ∈ aWat (wA w t) ++ [Int32.ofNat a] := hq
        rcases List.mem_append.mp hq2 with g2 | g2
        · exact p10.2 q g2
        · rw [List.mem_singleton.mp g2]
          exact okN_of ha
  · exact sSend_good h ⟨Or.inr (okN_of ha), Or.inr ⟨t, by omega, rfl⟩⟩
/-- a relation that every single stop keeps, every stop keeps -/
theorem kids_rel {P : Wst → Wst → Prop} (hr : ∀ w, P w w) (ht : ∀ {x y z}, P x y → P y z → P x z) {f : Wst → Nat → Wst} (hf : ∀ w a, P w (f w a)) (a : Nat) : ∀ (c : Nat) (w : Wst), P w (sKids f a c w)
  | 0, w => hr w
  | c + 1, w => by
    show P w (sKids f a c (if a < c ∧ sLC w c a = true then f w c else w))
    split
    · exact ht (hf w c) (kids_rel hr ht hf a c _)
    · exact kids_rel hr ht hf a c w
theorem stop_rel {P : Wst → Wst → Prop} (hr : ∀ w, P w w) (ht : ∀ {x y z}, P x y → P y z → P x z) (h1 : ∀ w a, P w (sStop1 w a)) : ∀ (n : Nat) (w : Wst) (a : Nat), P w (sStop n w a)
  | 0, w, _ => hr w
  | n + 1, w, a => ht (kids_rel hr ht (stop_rel hr ht h1 n) a (wN w) w) (h1 _ a)
/-- fewer live, fewer notes, the rest as told -/
def Shr (w w1 : Wst) : Prop := wN w1 = wN w ∧ (∀ b k, k ≠ 5 → k ≠ 6 → aI (wA w1 b) k = aI (wA w b) k) ∧ (∀ b, sLive w1 b = true → sLive w b = true) ∧ (∀ b, aNot (wA w1 b) = aNot (wA w b) ∨ aNot (wA w1 b) = [])
theorem Shr.refl (w : Wst) : Shr w w := ⟨rfl, fun _ _ _ _ => rfl, fun _ h => h, fun _ => Or.inl rfl⟩
theorem Shr.trans {w w1 w2 : Wst} (h : Shr w w1) (k : Shr w1 w2) : Shr w w2 := ⟨k.1.trans h.1, fun b j h5 h6 => (k.2.1 b j h5 h6).trans (h.2.1 b j h5 h6), fun b hb => h.2.2.1 b (k.2.2.1 b hb), fun b => by
  rcases k.2.2.2 b with e | e
  · rcases h.2.2.2 b with e2 | e2
    · exact Or.inl (e.trans e2)
    · exact Or.inr (e.trans e2)
  · exact Or.inr e⟩
theorem s1_shr (w : Wst) (a : Nat) : Shr w (sStop1 w a) := ⟨(s1_less w a).1, fun b k _ h6 => (s1_less w a).2.1 b k h6, (s1_less w a).2.2, fun b => by
  rw [s1_not]
  split
  · exact Or.inr rfl
  · exact Or.inl rfl⟩
theorem stop_shr (n : Nat) (w : Wst) (a : Nat) : Shr w (sStop n w a) := stop_rel Shr.refl Shr.trans s1_shr n w a
theorem kids_shr (n a c : Nat) (w : Wst) : Shr w (sKids (sStop n) a c w) := kids_rel Shr.refl Shr.trans (stop_shr n) a c w
theorem Shr.bud {w w1 : Wst} (h : Shr w w1) (hB : Bud w) : Bud w1 := fun b hb => by
  rw [h.2.1 b 3 (by decide) (by decide)]
  rcases h.2.2.2 b with e | e
  · rw [e]
    exact hB b (by rw [← h.1]; exact hb)
  · rw [e]
    exact Nat.zero_le _
theorem stop_good {w : Wst} {a : Nat} (h : Good w) (hl : sLive w a = true) : Good (sStop 12 w a) := by
  obtain ⟨q1, q2, -⟩ := stop_ok 12 0 (by omega) w a (Nat.zero_le _) (sLive_lt hl).1 h.1 h.2.1 hl
  exact ⟨q1, q2, (stop_shr 12 w a).bud h.2.2⟩
theorem okN_irm10 {n : Int32} (h : okV n) (h0 : ¬ n < 0) : okN 10 (irm n 10) := by
  rw [Int32.lt_iff_toInt_lt, v99_0] at h0
  obtain ⟨k, h1, h2⟩ := irm_n (v := n) (n := 10) (by omega) (by decide) (by decide)
  exact ⟨k, h1, h2⟩
theorem sNum_good {w : Wst} {a : Nat} {f n d : Int32} (h : Good w) (hl : sLive w a = true) (hn : okV n) (hf : f = -1 ∨ okN (wN w) f) : Good (sNum w a f n d).1 := by
  have h12 := h.1.1
  have ha := (sLive_lt hl).1
  have hs := h.1.stk ha
  unfold sNum
  show Good (if d = 0 then (wSA w a (aSI (wA w a) 5 (aI (wA w a) 5 + n)), (0 : Int32)) else if d = 1 then (sPass a n false (wN w) 0 w, 0) else if d = 2 then (if 0 < n ∧ 0 ≤ f then sSend w (nu f) (Int32.ofNat a, n - 1) else w, 0) else if d = 3 then (if irm n 2 = 0 then (sBack w a, 0) else if (aStash (wA w a)).length = 6 then (w, 3) else (wSA w a (aSStash (wA w a) (aStash (wA w a) ++ [(f, n)])), 0)) else if d = 4 then (if n < 0 then (wSA w a (aSStk (wA w a) (if (aStk (wA w a)).length ≤ 1 then aStk (wA w a) else (aStk (wA w a)).dropLast)), 0) else if (aStk (wA w a)).length = 5 then (w, 4) else (wSA w a (aSStk (wA w a) (aStk (wA w a) ++ [irm n 10])), 0)) else if d = 5 then (if n < aI (wA w a) 5 then (w, 1) else (wSA w a (aSI (wA w a) 5 n), 0)) else if d = 6 then (sDelay w a n, 0) else if d = 7 then (sPass a n true (wN w) 0 w, 0) else if d = 8 then (sWatch w a n, 0) else (sStop 12 w a, 0)).1
  split
  · exact count_good h hl
  split
  · exact sPass_good hn false _ _ _ ha h
  split
  · show Good (if 0 < n ∧ 0 ≤ f then sSend w (nu f) (Int32.ofNat a, n - 1) else w)
    split
    · rename_i g
      exact sSend_good h ⟨Or.inr (okN_of ha), Or.inl (okV_pred hn g.1)⟩
    · exact h
  split
  · split
    · exact sBack_good h hl
    · split
      · exact h
      · rename_i g
        exact stash_good h hl ⟨hf, Or.inl hn⟩ hn g
  split
  · split
    · split
      · exact stk_good h hl hs
      · refine stk_good h hl ⟨?_, ?_, fun q hq => hs.2.2 q (List.dropLast_subset _ hq)⟩
        · rw [List.length_dropLast]
          omega
        · rw [List.length_dropLast]
          omega
    · split
      · exact h
      · rename_i g0 g
        refine stk_good h hl ⟨?_, ?_, fun q hq => ?_⟩
        · rw [List.length_append]
          omega
        · rw [List.length_append]
          show _ + 1 ≤ 5
          omega
        · rcases List.mem_append.mp hq with q1 | q1
          · exact hs.2.2 q q1
          · rw [List.mem_singleton.mp q1]
            exact okN_irm10 hn g0
  split
  · split
    · exact h
    · exact count_good h hl
  split
  · exact sDelay_good h hn hl
  split
  · exact sPass_good hn true _ _ _ ha h
  split
  · exact sWatch_good h hn hl
  · exact stop_good h hl
theorem sDeal_good {w : Wst} {a : Nat} {f b : Int32} (h : Good w) (hl : sLive w a = true) (hm : okM (wN w) (f, b)) : Good (sDeal w a f b).1 := by
  rcases hm.2 with hn | ⟨k, hk, hb⟩
  · rw [sDeal_num hn]
    exact sNum_good h hl hn hm.1
  · have hb2 : (200 : Int32) ≤ b := by
      have hb3 : b = 200 + Int32.ofNat k := hb
      rw [hb3, show (200 : Int32) = Int32.ofNat 200 from rfl, n_add, n_le (by decide) (by omega)]
      omega
    unfold sDeal
    rw [if_pos hb2]
    split
    · exact h
    · exact count_good h hl
