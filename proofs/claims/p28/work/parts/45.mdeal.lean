/-! 45: the reference: a message dealt with -/
variable {en : Int32}
theorem m_cnt_ok {f : Nat → Int32} {w : Wst} {a : Nat} {v : Int32} (h : RM en f w) (hI : Inv w) (ha : a < wN w) : RM en (upd f (77 * a + 6) v) (wSA w a (aSI (wA w a) 5 v)) := by
  have h12 := hI.1
  exact h.act hI (by omega) ((h.2.2.1 a ha).cnt (hI.fit ha) upd_s fun k g1 g2 => upd_n (by omega)) fun k g => upd_n (by omega)
theorem m_pass_loop {S : Mem} {a : Nat} {nn : Int32} {all : Bool} (hn : okV nn) : ∀ (m n c : Nat) (f : Nat → Int32) (w : Wst), c + m = wN w → m < n → a < wN w → Inv w → RM en f w → ∃ f1, fm_pass_3 n (Int32.ofNat a) nn (if all = true then 1 else 0) (Int32.ofNat c) (gM S f) = some (gM S f1) ∧ RM en f1 (sPass a nn all m c w)
  | _, 0, _, _, _, _, h, _, _, _ => absurd h (Nat.not_lt_zero _)
  | 0, n + 1, c, f, w, hc, _, ha, hI, hR => by
    have h12 := hI.1
    show ∃ f1, fm_pass_3b (fm_pass_3 n) _ _ _ (Int32.ofNat c) (gM S f) = _ ∧ _
    unfold fm_pass_3b
    rw [g_924, obs, hR.1, if_pos ((n_le (by omega) (by omega)).mpr (by omega))]
    exact ⟨f, rfl, hR⟩
  | m + 1, n + 1, c, f, w, hc, hm, ha, hI, hR => by
    have h12 := hI.1
    have hs : sPass a nn all (m + 1) c w = if sLC w c a = true then (if all = true then sPass a nn all m (c + 1) (sSend w c (Int32.ofNat a, nn)) else sSend w c (Int32.ofNat a, nn)) else sPass a nn all m (c + 1) w := rfl
    show ∃ f1, fm_pass_3b (fm_pass_3 n) _ _ _ (Int32.ofNat c) (gM S f) = _ ∧ _
    unfold fm_pass_3b
    rw [hs, g_924, obs, hR.1, if_neg (fun q => by rw [n_le (by omega) (by omega)] at q; omega), m_isLC_ok hR hI (by omega), obs, n_succ]
    by_cases e : sLC w c a = true
    · obtain ⟨f1, k1, k2, -⟩ := m_send_ok (S := S) (a := c) (m := (Int32.ofNat a, nn)) hR hI (by omega) (MM_num hn)
      rw [if_pos e, if_neg (by decide), k1, bd_some, if_pos e]
      by_cases g : all = true
      · have hi := sSend_inv (a := c) hI (m := (Int32.ofNat a, nn)) ⟨Or.inr (okN_of ha), Or.inl hn⟩
        obtain ⟨f2, m1, m2⟩ := m_pass_loop (S := S) (all := all) hn m n (c + 1) f1 (sSend w c (Int32.ofNat a, nn)) (by rw [sSend_n]; omega) (by omega) (by rw [sSend_n]; exact ha) hi k2
        rw [if_pos g] at m1 ⊢
        rw [if_neg (by decide), if_pos g]
        exact ⟨f2, m1, m2⟩
      · rw [if_neg g, if_pos rfl, if_neg g]
        exact ⟨f1, rfl, k2⟩
    · rw [if_neg e, if_pos rfl, if_neg e]
      exact m_pass_loop hn m n (c + 1) f w (by omega) (by omega) ha hI hR
theorem m_pass_ok {S : Mem} {f : Nat → Int32} {w : Wst} {a : Nat} {nn : Int32} (all : Bool) (hn : okV nn) (ha : a < wN w) (hI : Inv w) (hR : RM en f w) : ∃ f1, fm_pass (Int32.ofNat a) nn (if all = true then 1 else 0) (gM S f) = some (gM S f1) ∧ RM en f1 (sPass a nn all (wN w) 0 w) := by
  have h12 := hI.1
  exact m_pass_loop (S := S) hn (wN w) LF 0 f w (Nat.zero_add _) (by show _ < 3000; omega) ha hI hR
theorem m_doing_ok {S : Mem} {f : Nat → Int32} {w : Wst} {a : Nat} (hR : RM en f w) (hI : Inv w) (ha : a < wN w) : fm_doing (Int32.ofNat a) (gM S f) = some (sDoes (wA w a)) := by
  have h12 := hI.1
  have hA := hR.2.2.1 a ha
  have hs := hI.stk ha
  have e : (8 : Int32) + Int32.ofNat (aStk (wA w a)).length - 1 = Int32.ofNat (8 + ((aStk (wA w a)).length - 1)) := by
    rw [i8, show (1 : Int32) = Int32.ofNat 1 from rfl, n_sub (by omega)]
    congr 1
    omega
  unfold fm_doing
  rw [at_7 (by omega), obs, hA.2.1.1, e, at_v (by omega) (by omega), obs, ← Nat.add_assoc, hA.2.1.2.1 _ _ (does_at hs.1)]
  rfl
/-- a timer more -/
theorem tSort_snoc (tl : List Tmr) (t : Tmr) : tSort (tl ++ [t]) = tIns t (tSort tl) := by
  unfold tSort
  rw [List.foldl_append]
  rfl
theorem m_delay_ok {S : Mem} {f : Nat → Int32} {w : Wst} {a : Nat} {n : Int32} (hR : RM en f w) (hI : Inv w) : ∃ f1, fm_delays (Int32.ofNat a) n (gM S f) = some (gM S f1) ∧ RM en f1 (sDelay w a n) := by
  obtain ⟨tl, t1, t2, t3, t4⟩ := hR.tl hI
  unfold fm_delays sDelay
  by_cases e : n ≤ 0
  · rw [if_pos e, if_neg (fun q => z_lt.mpr q.1 e)]
    exact ⟨f, rfl, hR⟩
  · rw [if_neg e, g_931, obs, t1.1]
    by_cases g : (wT w).length < 10
    · have hl : tl.length < 10 := by omega
      rw [if_neg (fun q => by rw [show (10 : Int32) = Int32.ofNat 10 from rfl, n_le (by decide) (by omega)] at q; omega), obs, if_pos ⟨z_lt.mp e, g⟩]
      have e1 : ast (gM S f) 698 (932 + 3 * Int32.ofNat tl.length) (Int32.ofNat a) = some (gM S (upd f (932 + 3 * tl.length) (Int32.ofNat a))) := by
        rw [i932t, gs (by omega)]
      rw [e1, obs, g_925, obs, i932t1, gs (by omega), obs, i932t2, gs (by omega), obs, g_931, obs, gs_931, obs]
      have h925 : upd f (932 + 3 * tl.length) (Int32.ofNat a) 925 = wI w 6 := (upd_n (by omega)).trans hR.2.1.1
      have h931 : upd (upd (upd f (932 + 3 * tl.length) (Int32.ofNat a)) (932 + 3 * tl.length + 1) (wI w 6 + 1 + irm n 8)) (932 + 3 * tl.length + 2) (n - 1) 931 = Int32.ofNat tl.length := by
        rw [upd_n (by omega), upd_n (by omega), upd_n (by omega)]
        exact t1.1
      rw [h925, h931, n_succ]
      refine ⟨_, rfl, ?_⟩
      have hT : TM (upd (upd (upd (upd f (932 + 3 * tl.length) (Int32.ofNat a)) (932 + 3 * tl.length + 1) (wI w 6 + 1 + irm n 8)) (932 + 3 * tl.length + 2) (n - 1)) 931 (Int32.ofNat (tl.length + 1))) (tl ++ [(Int32.ofNat a, wI w 6 + 1 + irm n 8, n - 1)]) := by
        refine ⟨?_, fun i hi => ?_⟩
        · rw [upd_s, List.length_append]
          rfl
        · rw [List.length_append] at hi
          have hi2 : i < tl.length + 1 := hi
          have hoff : ∀ c, c < 3 → i < tl.length → upd (upd (upd (upd f (932 + 3 * tl.length) (Int32.ofNat a)) (932 + 3 * tl.length + 1) (wI w 6 + 1 + irm n 8)) (932 + 3 * tl.length + 2) (n - 1)) 931 (Int32.ofNat (tl.length + 1)) (932 + 3 * i + c) = f (932 + 3 * i + c) := fun c hc hil => by
            rw [upd_n (by omega), upd_n (by omega), upd_n (by omega), upd_n (by omega)]
          by_cases q : i < tl.length
          · rw [List.getElem?_append_left q, t1.2 i q]
            unfold tAt
            rw [hoff 1 (by decide) q, hoff 2 (by decide) q, show 932 + 3 * i = 932 + 3 * i + 0 from rfl, hoff 0 (by decide) q]
          · have e2 : i = tl.length := by omega
            have a1 : upd (upd (upd (upd f (932 + 3 * tl.length) (Int32.ofNat a)) (932 + 3 * tl.length + 1) (wI w 6 + 1 + irm n 8)) (932 + 3 * tl.length + 2) (n - 1)) 931 (Int32.ofNat (tl.length + 1)) (932 + 3 * tl.length) = Int32.ofNat a := by
              rw [upd_n (by omega), upd_n (by omega), upd_n (by omega), upd_s]
            have a2 : upd (upd (upd (upd f (932 + 3 * tl.length) (Int32.ofNat a)) (932 + 3 * tl.length + 1) (wI w 6 + 1 + irm n 8)) (932 + 3 * tl.length + 2) (n - 1)) 931 (Int32.ofNat (tl.length + 1)) (932 + 3 * tl.length + 1) = wI w 6 + 1 + irm n 8 := by
              rw [upd_n (by omega), upd_n (by omega), upd_s]
            have a3 : upd (upd (upd (upd f (932 + 3 * tl.length) (Int32.ofNat a)) (932 + 3 * tl.length + 1) (wI w 6 + 1 + irm n 8)) (932 + 3 * tl.length + 2) (n - 1)) 931 (Int32.ofNat (tl.length + 1)) (932 + 3 * tl.length + 2) = n - 1 := by
              rw [upd_n (by omega), upd_s]
            rw [e2, List.getElem?_append_right (Nat.le_refl _), Nat.sub_self]
            unfold tAt
            rw [a1, a2, a3]
            rfl
      have := hR.tim hI hT fun k q => by
        rw [upd_n (by omega), upd_n (by omega), upd_n (by omega), upd_n (by omega)]
      rw [tSort_snoc, ← t2] at this
      exact this
    · have ht := hI.2.2.1.1
      rw [if_pos (by rw [show (10 : Int32) = Int32.ofNat 10 from rfl, n_le (by decide) (by omega)]; omega), if_neg (fun q => g q.2)]
      exact ⟨f, rfl, hR⟩
theorem m_w61_loop {S : Mem} {f : Nat → Int32} {a t : Nat} {l : List Int32} (ht : t < 12) (hl : l.length ≤ 12) (hc : LNm f (77 * t + 52) l) : ∀ (m n i : Nat), i + m = l.length → m < n → (Int32.ofNat a ∉ l → l.length < 12) → fm_watches_61 n (Int32.ofNat a) (Int32.ofNat t) (Int32.ofNat l.length) (Int32.ofNat i) (gM S f) = some (gM S (if Int32.ofNat a ∈ l.drop i then f else upd (upd f (77 * t + 52 + l.length) (Int32.ofNat a)) (77 * t + 51) (Int32.ofNat (l.length + 1)))) ∨ (Int32.ofNat a ∈ l ∧ Int32.ofNat a ∉ l.drop i)
  | _, 0, _, _, h, _ => absurd h (Nat.not_lt_zero _)
  | 0, n + 1, i, hi, _, h12 => by
    by_cases q : Int32.ofNat a ∈ l
    · refine Or.inr ⟨q, ?_⟩
      rw [List.drop_eq_nil_of_le (by omega)]
      exact List.not_mem_nil
    · refine Or.inl ?_
      have hlt := h12 q
      show fm_watches_61b (fm_watches_61 n) _ _ _ (Int32.ofNat i) (gM S f) = _
      unfold fm_watches_61b
      rw [if_pos ((n_le (by omega) (by omega)).mpr (by omega)), i52, st_v ht (by omega), obs, n_succ, st_51 ht, obs, List.drop_eq_nil_of_le (by omega), if_neg List.not_mem_nil, show 77 * t + (52 + l.length) = 77 * t + 52 + l.length by omega]
  | m + 1, n + 1, i, hi, hn, h12 => by
    have hil : i < l.length := by omega
    have hx : f (77 * t + 52 + i) = l[i] := hc i l[i] (List.getElem?_eq_getElem hil)
    have ih := m_w61_loop (S := S) ht hl hc m n (i + 1) (by omega) (by omega) h12
    rw [List.drop_eq_getElem_cons hil]
    by_cases e : l[i] = Int32.ofNat a
    · refine Or.inl ?_
      show fm_watches_61b (fm_watches_61 n) _ _ _ (Int32.ofNat i) (gM S f) = _
      unfold fm_watches_61b
      rw [if_neg (fun q => by rw [n_le (by omega) (by omega)] at q; omega), i52, at_v ht (by omega), obs, show 77 * t + (52 + i) = 77 * t + 52 + i by omega, hx, if_pos e, if_pos (by rw [e]; exact List.mem_cons_self)]
    · have hm : Int32.ofNat a ∈ l[i] :: l.drop (i + 1) ↔ Int32.ofNat a ∈ l.drop (i + 1) := by
        rw [List.mem_cons]
        exact ⟨fun q => q.resolve_left fun q2 => e q2.symm, Or.inr⟩
      rcases ih with ih | ih
      · refine Or.inl ?_
        show fm_watches_61b (fm_watches_61 n) _ _ _ (Int32.ofNat i) (gM S f) = _
        unfold fm_watches_61b
        rw [if_neg (fun q => by rw [n_le (by omega) (by omega)] at q; omega), i52, at_v ht (by omega), obs, show 77 * t + (52 + i) = 77 * t + 52 + i by omega, hx, if_neg e, n_succ, ih]
        by_cases g : Int32.ofNat a ∈ l.drop (i + 1)
        · rw [if_pos g, if_pos (hm.mpr g)]
        · rw [if_neg g, if_neg (fun q => g (hm.mp q))]
      · exact Or.inr ⟨ih.1, fun q => ih.2 (hm.mp q)⟩
theorem m_watch_ok {S : Mem} {f : Nat → Int32} {w : Wst} {a : Nat} {n : Int32} (hR : RM en f w) (hI : Inv w) (hn : okV n) (ha : a < wN w) : ∃ f1, fm_watches (Int32.ofNat a) n (gM S f) = some (gM S f1) ∧ RM en f1 (sWatch w a n) := by
  have h12 := hI.1
  obtain ⟨t1, t2⟩ := named_ok hn h12 (by omega)
  have hnz : nz (Int32.ofNat (wN w)) = some (Int32.ofNat (wN w)) := if_neg (fun q => by
    rw [show (0 : Int32) = Int32.ofNat 0 from rfl, n_inj (by omega) (by decide)] at q
    omega)
  have h0 : fm_watches (Int32.ofNat a) n (gM S f) = fm_watches_12 (Int32.ofNat a) (if n < 0 then n + 99 else n) (gM S f) := by
    unfold fm_watches
    by_cases e : 0 ≤ n
    · rw [if_pos e, if_neg (Int32.not_lt.mpr e)]
    · rw [if_neg e, if_pos (Int32.not_le.mp e)]
  rw [h0]
  unfold fm_watches_12 sWatch
  rw [g_924, obs, hR.1, hnz, obs, t2]
  generalize sNamed w n = t at t1 ⊢
  show ∃ f1, _ ∧ RM en f1 (if t = a then w else if sLive w t = true then (if Int32.ofNat a ∈ aWat (wA w t) then w else wSA w t (aSWat (wA w t) (aWat (wA w t) ++ [Int32.ofNat a]))) else sSend w a (Int32.ofNat a, 200 + Int32.ofNat t))
  by_cases e : t = a
  · rw [if_pos ((n_inj (by omega) (by omega)).mpr e), if_pos e]
    exact ⟨f, rfl, hR⟩
  rw [if_neg (fun q => e ((n_inj (by omega) (by omega)).mp q)), if_neg e, m_isLive_ok hR hI t1, obs]
  by_cases g : sLive w t = true
  · have hA := hR.2.2.1 t t1
    have hx := hI.fit t1
    have h1 := hI.wat t1
    have hlt : Int32.ofNat a ∉ aWat (wA w t) → (aWat (wA w t)).length < 12 := fun g2 => by
      have := nodup_len (wN w) (Int32.ofNat a :: aWat (wA w t)) (by omega) (List.nodup_cons.mpr ⟨g2, h1.1⟩) (fun q hq => by
        rcases List.mem_cons.mp hq with rfl | hq
        · exact okN_of ha
        · exact h1.2 q hq)
      rw [List.length_cons] at this
      omega
    rw [if_pos g, if_neg (by decide), if_pos g, at_51 (by omega), obs, hA.2.2.2.2.1.1]
    rcases m_w61_loop (S := S) (f := f) (a := a) (t := t) (by omega) hx.2.2.2.1 hA.2.2.2.2.1.2 (aWat (wA w t)).length LF 0 (Nat.zero_add _) (by have := hx.2.2.2.1; show _ < 3000; omega) hlt with k1 | k1
    · rw [List.drop_zero] at k1
      by_cases g2 : Int32.ofNat a ∈ aWat (wA w t)
      · rw [if_pos g2] at k1 ⊢
        exact ⟨f, k1, hR⟩
      · rw [if_neg g2] at k1 ⊢
        refine ⟨_, k1, hR.act hI (by omega) (hA.wat hx ?_ ?_ fun k q1 q2 => ?_) fun k q => ?_⟩
        · rw [upd_s, List.length_append]
          rfl
        · refine hA.2.2.2.2.1.2.snoc (fun k hk => ?_) ?_
          · rw [upd_n (by omega), upd_n (by omega)]
          · rw [upd_n (by omega), upd_s]
        · have := hlt g2
          rw [upd_n (by omega), upd_n (by omega)]
        · have := hlt g2
          rw [upd_n (by omega), upd_n (by omega)]
    · rw [List.drop_zero] at k1
      exact absurd k1.1 k1.2
  · obtain ⟨f1, k1, k2, -⟩ := m_send_ok (S := S) (a := a) (m := (Int32.ofNat a, 200 + Int32.ofNat t)) hR hI ha (MM_death (by omega) (-1) (Int32.ofNat a))
    rw [if_neg g, if_pos rfl, k1, bd_some, if_neg g]
    exact ⟨f1, rfl, k2⟩
/-- what dealing with a message comes to -/
def MDeal (en : Int32) (S : Mem) (q : Option Mem) (a : Nat) (r : Wst × Int32) : Prop := ∃ S1 f1, q = some (gM S1 f1) ∧ (r.2 = 0 → S1 = S ∧ RM en f1 r.1) ∧ (¬ r.2 = 0 → RM en f1 (sFail r.1 a r.2 (S 697 6)).1 ∧ OM S S1 ∧ S1 697 5 = 1 ∧ S1 697 6 = (sFail r.1 a r.2 (S 697 6)).2 ∧ S1 702 1 = r.2)
theorem MDeal.ok {S : Mem} {q : Option Mem} {a : Nat} {w : Wst} {f1 : Nat → Int32} (h : q = some (gM S f1)) (hR : RM en f1 w) : MDeal en S q a (w, 0) := ⟨S, f1, h, fun _ => ⟨rfl, hR⟩, fun h => absurd rfl h⟩
theorem MDeal.fail {S : Mem} {f : Nat → Int32} {a : Nat} {w : Wst} {why : Int32} (hR : RM en f w) (h : Good w) (hl : sLive w a = true) (hw : ¬ why = 0) : MDeal en S ((fm_fails (Int32.ofNat a) why (gM S f)).bind fun S1 => some S1) a (w, why) := by
  obtain ⟨S1, f1, k1, k2, k3, k4, k5, k6⟩ := m_fails_ok (S := S) (why := why) hR h hl
  exact ⟨S1, f1, by rw [k1, obs], fun q => absurd q hw, fun _ => ⟨k2, k3, k4, k5, k6⟩⟩
theorem m_holds_ok {S : Mem} {f : Nat → Int32} {w : Wst} {a : Nat} {p n : Int32} (hR : RM en f w) (h : Good w) (hl : sLive w a = true) (hn : okV n) : MDeal en S ((fm_holds (Int32.ofNat a) p n (gM S f)).bind fun S1 => some S1) a (if irm n 2 = 0 then (sBack w a, 0) else if (aStash (wA w a)).length = 6 then (w, 3) else (wSA w a (aSStash (wA w a) (aStash (wA w a) ++ [(p, n)])), 0)) := by
  have hI := h.1
  have h12 := hI.1
  have ha := (sLive_lt hl).1
  have hA := hR.2.2.1 a ha
  have hx := hI.fit ha
  unfold fm_holds
  by_cases e : irm n 2 = 0
  · obtain ⟨f1, k1, k2⟩ := m_back_ok (S := S) hR hI ha
    rw [if_pos e, if_pos e]
    exact MDeal.ok (by rw [k1, obs, obs]) k2
  · have hs := hx.2.2.1
    rw [if_neg e, if_neg e, at_38 (by omega), obs, hA.2.2.2.1.1]
    by_cases g : (aStash (wA w a)).length = 6
    · rw [if_pos (by rw [g]; rfl), if_pos g]
      obtain ⟨S1, f1, k1, k2, k3⟩ := MDeal.fail (S := S) (why := 3) hR h hl (by decide)
      exact ⟨S1, f1, by rw [k1, obs], k2, k3⟩
    · rw [if_neg (show ¬ Int32.ofNat (aStash (wA w a)).length = 6 from fun q => g ((n_inj (b := 6) (by omega) (by decide)).mp q)), if_neg g, obs, i39d, st_v (by omega) (by omega), obs, n_succ, st_v (by omega) (by omega), obs, n_succ, st_38 (by omega), obs, obs]
      refine MDeal.ok rfl (hR.act hI (by omega) (hA.stash hx ?_ ?_ fun k q1 q2 => ?_) fun k q => ?_)
      · rw [upd_s, List.length_append]
        rfl
      · refine hA.2.2.2.1.2.snoc (fun k hk => ?_) ?_
        · rw [upd_n (by omega), upd_n (by omega), upd_n (by omega)]
        · rw [upd_n (by omega), upd_n (by omega), show 77 * a + 39 + 2 * (aStash (wA w a)).length = 77 * a + (39 + 2 * (aStash (wA w a)).length) by omega, upd_s, upd_n (by omega), show 77 * a + (39 + 2 * (aStash (wA w a)).length) + 1 = 77 * a + (39 + 2 * (aStash (wA w a)).length + 1) by omega, upd_s]
          exact MM_num hn
      · rw [upd_n (by omega), upd_n (by omega), upd_n (by omega)]
      · rw [upd_n (by omega), upd_n (by omega), upd_n (by omega)]
theorem m_switch_ok {S : Mem} {f : Nat → Int32} {w : Wst} {a : Nat} {n : Int32} (hR : RM en f w) (h : Good w) (hl : sLive w a = true) : MDeal en S ((fm_switches (Int32.ofNat a) n (gM S f)).bind fun S1 => some S1) a (if n < 0 then (wSA w a (aSStk (wA w a) (if (aStk (wA w a)).length ≤ 1 then aStk (wA w a) else (aStk (wA w a)).dropLast)), 0) else if (aStk (wA w a)).length = 5 then (w, 4) else (wSA w a (aSStk (wA w a) (aStk (wA w a) ++ [irm n 10])), 0)) := by
  have hI := h.1
  have h12 := hI.1
  have ha := (sLive_lt hl).1
  have hA := hR.2.2.1 a ha
  have hx := hI.fit ha
  have hs := hI.stk ha
  unfold fm_switches
  rw [at_7 (by omega), obs, hA.2.1.1]
  by_cases e : n < 0
  · rw [if_neg (Int32.not_le.mpr e), if_pos e]
    by_cases g : (aStk (wA w a)).length ≤ 1
    · have g1 : (aStk (wA w a)).length = 1 := by omega
      rw [if_pos (show Int32.ofNat (aStk (wA w a)).length ≤ 1 from (n_le (b := 1) (by omega) (by decide)).mpr g), if_pos g, st_7 (by omega), obs, obs]
      refine MDeal.ok rfl (hR.act hI (by omega) (hA.stk hx ?_ (hA.2.1.2.1.congr fun i hi => upd_n (by omega)) ((upd_n (by omega)).trans hA.2.1.2.2) fun k q1 q2 => upd_n (by omega)) fun k q => upd_n (by omega))
      rw [upd_s, g1]
      rfl
    · have e1 : Int32.ofNat (aStk (wA w a)).length - 1 = Int32.ofNat ((aStk (wA w a)).length - 1) := n_sub (b := 1) (by omega)
      rw [if_neg (show ¬ Int32.ofNat (aStk (wA w a)).length ≤ 1 from fun q => g ((n_le (b := 1) (by omega) (by decide)).mp q)), if_neg g, e1, st_7 (by omega), obs, obs]
      refine MDeal.ok rfl (hR.act hI (by omega) (hA.stk hx ?_ (fun i q hq => ?_) ((upd_n (by omega)).trans hA.2.1.2.2) fun k q1 q2 => upd_n (by omega)) fun k q => upd_n (by omega))
      · rw [upd_s, List.length_dropLast]
      · have hi := (List.getElem?_eq_some_iff.mp hq).1
        rw [List.length_dropLast] at hi
        rw [List.getElem?_dropLast, if_pos (by omega)] at hq
        rw [upd_n (by omega)]
        exact hA.2.1.2.1 i q hq
  · rw [if_pos (Int32.not_lt.mp e), if_neg e]
    by_cases g : (aStk (wA w a)).length = 5
    · rw [if_pos (by rw [g]; rfl), if_pos g]
      obtain ⟨S1, f1, k1, k2, k3⟩ := MDeal.fail (S := S) (why := 4) hR h hl (by decide)
      exact ⟨S1, f1, by rw [k1, obs], k2, k3⟩
    · rw [if_neg (show ¬ Int32.ofNat (aStk (wA w a)).length = 5 from fun q => g ((n_inj (b := 5) (by omega) (by decide)).mp q)), if_neg g, i8, st_v (by omega) (by omega), obs, n_succ, st_7 (by omega), obs, obs]
      refine MDeal.ok rfl (hR.act hI (by omega) (hA.stk hx ?_ ?_ ?_ fun k q1 q2 => ?_) fun k q => ?_)
      · rw [upd_s, List.length_append]
        rfl
      · refine hA.2.1.2.1.snoc (fun i hi => ?_) ?_
        · rw [upd_n (by omega), upd_n (by omega)]
        · rw [upd_n (by omega), show 77 * a + 8 + (aStk (wA w a)).length = 77 * a + (8 + (aStk (wA w a)).length) by omega, upd_s]
      · rw [upd_n (by omega), upd_n (by omega)]
        exact hA.2.1.2.2
      · rw [upd_n (by omega), upd_n (by omega)]
      · rw [upd_n (by omega), upd_n (by omega)]
theorem death_sum (c q : Int32) : c + 100 + (1000 + q) - 1000 = c + (100 + (200 + q - 200)) := by
  have h1 : 200 + q - 200 = q := by rw [Int32.add_comm, Int32.add_sub_cancel]
  rw [h1, Int32.add_comm 1000 q, ← Int32.add_assoc (c + 100) q 1000, Int32.add_sub_cancel, Int32.add_assoc]
theorem m_deal_ok {S : Mem} {f : Nat → Int32} {w : Wst} {a : Nat} {fr b p n : Int32} (hR : RM en f w) (h : Good w) (hl : sLive w a = true) (hm : okM (wN w) (fr, b)) (hM : MM (fr, b) p n) : MDeal en S (fm_deals (Int32.ofNat a) p n (gM S f)) a (sDeal w a fr b) := by
  have hI := h.1
  have h12 := hI.1
  have ha := (sLive_lt hl).1
  have hA := hR.2.2.1 a ha
  have hx := hI.fit ha
  have hd := okN_cases10 (does_ok hI ha)
  unfold fm_deals
  rw [m_doing_ok hR hI ha, obs]
  rcases hm.2 with hn | ⟨k, hk, hb⟩
  · have hn2 : okV b := hn
    have e1 : n = b := by
      rw [hM.1]
      exact bm_num hn
    have e2 : p = fr := hM.2 hn
    subst e1 e2
    have hlt : n < 1000 := by
      rw [Int32.lt_iff_toInt_lt]
      have : (1000 : Int32).toInt = 1000 := by decide
      have := hn2.2
      omega
    rw [if_pos hlt, sDeal_num hn2]
    generalize sDoes (wA w a) = d at hd
    rcases hd with rfl | rfl | rfl | rfl | rfl | rfl | rfl | rfl | rfl | rfl
    · rw [if_pos rfl, at_6 (by omega), obs, st_6 (by omega), obs, hA.1.2.2.2.2.2.2]
      exact MDeal.ok rfl (m_cnt_ok hR hI ha)
    · obtain ⟨f1, k1, k2⟩ := m_pass_ok (S := S) false hn2 ha hI hR
      have k3 : fm_pass (Int32.ofNat a) n 0 (gM S f) = some (gM S f1) := k1
      rw [if_neg (by decide), if_pos rfl, k3, obs]
      exact MDeal.ok rfl k2
    · rw [if_neg (by decide), if_neg (by decide), if_pos rfl]
      show MDeal en S _ a (if 0 < n ∧ 0 ≤ p then sSend w (nu p) (Int32.ofNat a, n - 1) else w, 0)
      by_cases e : n ≤ 0
      · rw [if_pos e, if_neg (fun q => z_lt.mpr q.1 e)]
        exact MDeal.ok rfl hR
      · rw [if_neg e]
        rcases hm.1 with hf | hf
        · have hf2 : p = -1 := hf
          subst hf2
          rw [if_pos (by decide), if_neg (fun q => absurd q.2 (by decide))]
          exact MDeal.ok rfl hR
        · obtain ⟨k, k2⟩ := okN_nn (q := p) hf (by omega)
          generalize nu p = j at k k2 ⊢
          subst k2
          obtain ⟨f1, k1, k2, -⟩ := m_send_ok (S := S) (a := j) (m := (Int32.ofNat a, n - 1)) hR hI k (MM_num (okV_pred hn2 (z_lt.mp e)))
          rw [if_neg (n_neg (by omega)), k1, bd_some, if_pos ⟨z_lt.mp e, by rw [show (0 : Int32) = Int32.ofNat 0 from rfl, n_le (by omega) (by omega)]; omega⟩]
          exact MDeal.ok rfl k2
    · rw [if_neg (by decide), if_neg (by decide), if_neg (by decide), if_pos rfl]
      exact m_holds_ok hR h hl hn2
    · rw [if_neg (by decide), if_neg (by decide), if_neg (by decide), if_neg (by decide), if_pos rfl]
      exact m_switch_ok hR h hl
    · rw [if_neg (by decide), if_neg (by decide), if_neg (by decide), if_neg (by decide), if_neg (by decide), if_pos rfl, at_6 (by omega), obs, hA.1.2.2.2.2.2.2]
      show MDeal en S _ a (if n < aI (wA w a) 5 then (w, 1) else (wSA w a (aSI (wA w a) 5 n), 0))
      by_cases e : aI (wA w a) 5 ≤ n
      · rw [if_pos e, if_neg (Int32.not_lt.mpr e), st_6 (by omega), obs]
        exact MDeal.ok rfl (m_cnt_ok hR hI ha)
      · rw [if_neg e, if_pos (Int32.not_le.mp e)]
        exact MDeal.fail hR h hl (by decide)
    · obtain ⟨f1, k1, k2⟩ := m_delay_ok (S := S) (a := a) (n := n) hR hI
      rw [if_neg (by decide), if_neg (by decide), if_neg (by decide), if_neg (by decide), if_neg (by decide), if_neg (by decide), if_pos rfl, k1, obs]
      exact MDeal.ok rfl k2
    · obtain ⟨f1, k1, k2⟩ := m_pass_ok (S := S) true hn2 ha hI hR
      have k3 : fm_pass (Int32.ofNat a) n 1 (gM S f) = some (gM S f1) := k1
      rw [if_neg (by decide), if_neg (by decide), if_neg (by decide), if_neg (by decide), if_neg (by decide), if_neg (by decide), if_neg (by decide), if_pos rfl, k3, obs]
      exact MDeal.ok rfl k2
    · obtain ⟨f1, k1, k2⟩ := m_watch_ok (S := S) hR hI hn2 ha
      rw [if_neg (by decide), if_neg (by decide), if_neg (by decide), if_neg (by decide), if_neg (by decide), if_neg (by decide), if_neg (by decide), if_neg (by decide), if_pos rfl, k1, obs]
      exact MDeal.ok rfl k2
    · obtain ⟨f1, k1, k2⟩ := m_stop_ok (S := S) ⟨h.1, h.2.1⟩ hl hR
      rw [if_neg (by decide), if_neg (by decide), if_neg (by decide), if_neg (by decide), if_neg (by decide), if_neg (by decide), if_neg (by decide), if_neg (by decide), if_neg (by decide), k1, obs]
      exact MDeal.ok rfl k2
  · have hb3 : b = 200 + Int32.ofNat k := hb
    subst hb3
    have e1 : n = 1000 + Int32.ofNat k := by
      rw [hM.1]
      exact bm_death hk
    subst e1
    have hb2 : (200 : Int32) ≤ 200 + Int32.ofNat k := by
      rw [show (200 : Int32) = Int32.ofNat 200 from rfl, n_add, n_le (by decide) (by omega)]
      omega
    have hge : ¬ 1000 + Int32.ofNat k < 1000 := fun q => by
      rw [show (1000 : Int32) = Int32.ofNat 1000 from rfl, n_add, n_lt (by omega) (by decide)] at q
      omega
    unfold sDeal
    rw [if_neg hge, if_pos hb2]
    by_cases e : sDoes (wA w a) = 5
    · rw [if_pos e, if_pos e]
      exact MDeal.fail hR h hl (by decide)
    · rw [if_neg e, if_neg e, at_6 (by omega), obs, st_6 (by omega), obs, hA.1.2.2.2.2.2.2, death_sum]
      exact MDeal.ok rfl (m_cnt_ok hR hI ha)
