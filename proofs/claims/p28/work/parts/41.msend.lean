/-! 41: the reference: sends, what comes back -/
variable {en : Int32}
theorem RMA.mail {f g : Nat → Int32} {a : Nat} {x : Act} {l : List Msg} (h : RMA f a x) (hx : fitA x) (h1 : g (77 * a + 13) = Int32.ofNat l.length) (h2 : LPm g (77 * a + 14) l) (hg : ∀ k, (k < 13 ∨ 38 ≤ k) → k < 77 → g (77 * a + k) = f (77 * a + k)) : RMA g a (aSMail x l) := by
  obtain ⟨⟨e0, e1, e2, e3, e4, e5, e6⟩, ⟨s1, s2, s3⟩, -, ⟨t1, t2⟩, ⟨v1, v2⟩, ⟨n1, n2⟩⟩ := h
  obtain ⟨x1, x2, x3, x4, x5⟩ := hx
  have hh : ∀ j k, (j + k < 13 ∨ 38 ≤ j + k) → j + k < 77 → g (77 * a + j + k) = f (77 * a + j + k) := fun j k q h => by
    rw [Nat.add_assoc]
    exact hg _ q h
  exact ⟨⟨by rw [hg 0 (by decide) (by decide)]; exact e0, by rw [hg 1 (by decide) (by decide)]; exact e1, by rw [hg 2 (by decide) (by decide)]; exact e2, by rw [hg 3 (by decide) (by decide)]; exact e3, by rw [hg 4 (by decide) (by decide)]; exact e4, by rw [hg 5 (by decide) (by decide)]; exact e5, by rw [hg 6 (by decide) (by decide)]; exact e6⟩, ⟨by rw [hg 7 (by decide) (by decide)]; exact s1, s2.congr fun i hi => hh _ _ (by omega) (by omega), by rw [hg 8 (by decide) (by decide)]; exact s3⟩, ⟨h1, h2⟩, ⟨by rw [hg 38 (by decide) (by decide)]; exact t1, t2.congr fun i hi => hh _ _ (by omega) (by omega)⟩, ⟨by rw [hg 51 (by decide) (by decide)]; exact v1, v2.congr fun i hi => hh _ _ (by omega) (by omega)⟩, ⟨by rw [hg 64 (by decide) (by decide)]; exact n1, n2.congr fun i hi => hh _ _ (by omega) (by omega)⟩⟩
theorem RMA.stash {f g : Nat → Int32} {a : Nat} {x : Act} {l : List Msg} (h : RMA f a x) (hx : fitA x) (h1 : g (77 * a + 38) = Int32.ofNat l.length) (h2 : LPm g (77 * a + 39) l) (hg : ∀ k, (k < 38 ∨ 51 ≤ k) → k < 77 → g (77 * a + k) = f (77 * a + k)) : RMA g a (aSStash x l) := by
  obtain ⟨⟨e0, e1, e2, e3, e4, e5, e6⟩, ⟨s1, s2, s3⟩, ⟨m1, m2⟩, -, ⟨v1, v2⟩, ⟨n1, n2⟩⟩ := h
  obtain ⟨x1, x2, x3, x4, x5⟩ := hx
  have hh : ∀ j k, (j + k < 38 ∨ 51 ≤ j + k) → j + k < 77 → g (77 * a + j + k) = f (77 * a + j + k) := fun j k q h => by
    rw [Nat.add_assoc]
    exact hg _ q h
  exact ⟨⟨by rw [hg 0 (by decide) (by decide)]; exact e0, by rw [hg 1 (by decide) (by decide)]; exact e1, by rw [hg 2 (by decide) (by decide)]; exact e2, by rw [hg 3 (by decide) (by decide)]; exact e3, by rw [hg 4 (by decide) (by decide)]; exact e4, by rw [hg 5 (by decide) (by decide)]; exact e5, by rw [hg 6 (by decide) (by decide)]; exact e6⟩, ⟨by rw [hg 7 (by decide) (by decide)]; exact s1, s2.congr fun i hi => hh _ _ (by omega) (by omega), by rw [hg 8 (by decide) (by decide)]; exact s3⟩, ⟨by rw [hg 13 (by decide) (by decide)]; exact m1, m2.congr fun i hi => hh _ _ (by omega) (by omega)⟩, ⟨h1, h2⟩, ⟨by rw [hg 51 (by decide) (by decide)]; exact v1, v2.congr fun i hi => hh _ _ (by omega) (by omega)⟩, ⟨by rw [hg 64 (by decide) (by decide)]; exact n1, n2.congr fun i hi => hh _ _ (by omega) (by omega)⟩⟩
theorem RMA.wat {f g : Nat → Int32} {a : Nat} {x : Act} {l : List Int32} (h : RMA f a x) (hx : fitA x) (h1 : g (77 * a + 51) = Int32.ofNat l.length) (h2 : LNm g (77 * a + 52) l) (hg : ∀ k, (k < 51 ∨ 64 ≤ k) → k < 77 → g (77 * a + k) = f (77 * a + k)) : RMA g a (aSWat x l) := by
  obtain ⟨⟨e0, e1, e2, e3, e4, e5, e6⟩, ⟨s1, s2, s3⟩, ⟨m1, m2⟩, ⟨t1, t2⟩, -, ⟨n1, n2⟩⟩ := h
  obtain ⟨x1, x2, x3, x4, x5⟩ := hx
  have hh : ∀ j k, (j + k < 51 ∨ 64 ≤ j + k) → j + k < 77 → g (77 * a + j + k) = f (77 * a + j + k) := fun j k q h => by
    rw [Nat.add_assoc]
    exact hg _ q h
  exact ⟨⟨by rw [hg 0 (by decide) (by decide)]; exact e0, by rw [hg 1 (by decide) (by decide)]; exact e1, by rw [hg 2 (by decide) (by decide)]; exact e2, by rw [hg 3 (by decide) (by decide)]; exact e3, by rw [hg 4 (by decide) (by decide)]; exact e4, by rw [hg 5 (by decide) (by decide)]; exact e5, by rw [hg 6 (by decide) (by decide)]; exact e6⟩, ⟨by rw [hg 7 (by decide) (by decide)]; exact s1, s2.congr fun i hi => hh _ _ (by omega) (by omega), by rw [hg 8 (by decide) (by decide)]; exact s3⟩, ⟨by rw [hg 13 (by decide) (by decide)]; exact m1, m2.congr fun i hi => hh _ _ (by omega) (by omega)⟩, ⟨by rw [hg 38 (by decide) (by decide)]; exact t1, t2.congr fun i hi => hh _ _ (by omega) (by omega)⟩, ⟨h1, h2⟩, ⟨by rw [hg 64 (by decide) (by decide)]; exact n1, n2.congr fun i hi => hh _ _ (by omega) (by omega)⟩⟩
theorem RMA.notes {f g : Nat → Int32} {a : Nat} {x : Act} {l : List Int32} (h : RMA f a x) (hx : fitA x) (h1 : g (77 * a + 64) = Int32.ofNat l.length) (h2 : LNm g (77 * a + 65) l) (hg : ∀ k, k < 64 → g (77 * a + k) = f (77 * a + k)) : RMA g a (aSNot x l) := by
  obtain ⟨⟨e0, e1, e2, e3, e4, e5, e6⟩, ⟨s1, s2, s3⟩, ⟨m1, m2⟩, ⟨t1, t2⟩, ⟨v1, v2⟩, -⟩ := h
  obtain ⟨x1, x2, x3, x4, x5⟩ := hx
  have hh : ∀ j k, j + k < 64 → g (77 * a + j + k) = f (77 * a + j + k) := fun j k q => by
    rw [Nat.add_assoc]
    exact hg _ q
  exact ⟨⟨by rw [hg 0 (by decide)]; exact e0, by rw [hg 1 (by decide)]; exact e1, by rw [hg 2 (by decide)]; exact e2, by rw [hg 3 (by decide)]; exact e3, by rw [hg 4 (by decide)]; exact e4, by rw [hg 5 (by decide)]; exact e5, by rw [hg 6 (by decide)]; exact e6⟩, ⟨by rw [hg 7 (by decide)]; exact s1, s2.congr fun i hi => hh _ _ (by omega), by rw [hg 8 (by decide)]; exact s3⟩, ⟨by rw [hg 13 (by decide)]; exact m1, m2.congr fun i hi => hh _ _ (by omega)⟩, ⟨by rw [hg 38 (by decide)]; exact t1, t2.congr fun i hi => hh _ _ (by omega)⟩, ⟨by rw [hg 51 (by decide)]; exact v1, v2.congr fun i hi => hh _ _ (by omega)⟩, ⟨h1, h2⟩⟩
theorem RMA.stk {f g : Nat → Int32} {a : Nat} {x : Act} {l : List Int32} (h : RMA f a x) (hx : fitA x) (h1 : g (77 * a + 7) = Int32.ofNat l.length) (h2 : LNm g (77 * a + 8) l) (h3 : g (77 * a + 8) = aI x 1) (hg : ∀ k, (k < 7 ∨ 13 ≤ k) → k < 77 → g (77 * a + k) = f (77 * a + k)) : RMA g a (aSStk x l) := by
  obtain ⟨⟨e0, e1, e2, e3, e4, e5, e6⟩, -, ⟨m1, m2⟩, ⟨t1, t2⟩, ⟨v1, v2⟩, ⟨n1, n2⟩⟩ := h
  obtain ⟨x1, x2, x3, x4, x5⟩ := hx
  have hh : ∀ j k, (j + k < 7 ∨ 13 ≤ j + k) → j + k < 77 → g (77 * a + j + k) = f (77 * a + j + k) := fun j k q h => by
    rw [Nat.add_assoc]
    exact hg _ q h
  exact ⟨⟨by rw [hg 0 (by decide) (by decide)]; exact e0, by rw [hg 1 (by decide) (by decide)]; exact e1, by rw [hg 2 (by decide) (by decide)]; exact e2, by rw [hg 3 (by decide) (by decide)]; exact e3, by rw [hg 4 (by decide) (by decide)]; exact e4, by rw [hg 5 (by decide) (by decide)]; exact e5, by rw [hg 6 (by decide) (by decide)]; exact e6⟩, ⟨h1, h2, h3⟩, ⟨by rw [hg 13 (by decide) (by decide)]; exact m1, m2.congr fun i hi => hh _ _ (by omega) (by omega)⟩, ⟨by rw [hg 38 (by decide) (by decide)]; exact t1, t2.congr fun i hi => hh _ _ (by omega) (by omega)⟩, ⟨by rw [hg 51 (by decide) (by decide)]; exact v1, v2.congr fun i hi => hh _ _ (by omega) (by omega)⟩, ⟨by rw [hg 64 (by decide) (by decide)]; exact n1, n2.congr fun i hi => hh _ _ (by omega) (by omega)⟩⟩
/-- count and live -/
theorem RMA.cnt {f g : Nat → Int32} {a : Nat} {x : Act} {v : Int32} (h : RMA f a x) (hx : fitA x) (h6 : g (77 * a + 6) = v) (hg : ∀ k, k ≠ 6 → k < 77 → g (77 * a + k) = f (77 * a + k)) : RMA g a (aSI x 5 v) := by
  obtain ⟨⟨e0, e1, e2, e3, e4, e5, e6⟩, ⟨s1, s2, s3⟩, ⟨m1, m2⟩, ⟨t1, t2⟩, ⟨v1, v2⟩, ⟨n1, n2⟩⟩ := h
  obtain ⟨x1, x2, x3, x4, x5⟩ := hx
  have hh : ∀ j k, j + k ≠ 6 → j + k < 77 → g (77 * a + j + k) = f (77 * a + j + k) := fun j k q h => by
    rw [Nat.add_assoc]
    exact hg _ q h
  exact ⟨⟨by rw [hg 0 (by decide) (by decide)]; exact e0, by rw [hg 1 (by decide) (by decide)]; exact e1, by rw [hg 2 (by decide) (by decide)]; exact e2, by rw [hg 3 (by decide) (by decide)]; exact e3, by rw [hg 4 (by decide) (by decide)]; exact e4, by rw [hg 5 (by decide) (by decide)]; exact e5, h6⟩, ⟨by rw [hg 7 (by decide) (by decide)]; exact s1, s2.congr fun i hi => hh _ _ (by omega) (by omega), by rw [hg 8 (by decide) (by decide)]; exact s3⟩, ⟨by rw [hg 13 (by decide) (by decide)]; exact m1, m2.congr fun i hi => hh _ _ (by omega) (by omega)⟩, ⟨by rw [hg 38 (by decide) (by decide)]; exact t1, t2.congr fun i hi => hh _ _ (by omega) (by omega)⟩, ⟨by rw [hg 51 (by decide) (by decide)]; exact v1, v2.congr fun i hi => hh _ _ (by omega) (by omega)⟩, ⟨by rw [hg 64 (by decide) (by decide)]; exact n1, n2.congr fun i hi => hh _ _ (by omega) (by omega)⟩⟩
theorem RMA.liv {f g : Nat → Int32} {a : Nat} {x : Act} {v : Int32} (h : RMA f a x) (hx : fitA x) (h6 : g (77 * a + 5) = v) (hg : ∀ k, k ≠ 5 → k < 77 → g (77 * a + k) = f (77 * a + k)) : RMA g a (aSI x 6 v) := by
  obtain ⟨⟨e0, e1, e2, e3, e4, e5, e6⟩, ⟨s1, s2, s3⟩, ⟨m1, m2⟩, ⟨t1, t2⟩, ⟨v1, v2⟩, ⟨n1, n2⟩⟩ := h
  obtain ⟨x1, x2, x3, x4, x5⟩ := hx
  have hh : ∀ j k, j + k ≠ 5 → j + k < 77 → g (77 * a + j + k) = f (77 * a + j + k) := fun j k q h => by
    rw [Nat.add_assoc]
    exact hg _ q h
  exact ⟨⟨by rw [hg 0 (by decide) (by decide)]; exact e0, by rw [hg 1 (by decide) (by decide)]; exact e1, by rw [hg 2 (by decide) (by decide)]; exact e2, by rw [hg 3 (by decide) (by decide)]; exact e3, by rw [hg 4 (by decide) (by decide)]; exact e4, h6, by rw [hg 6 (by decide) (by decide)]; exact e6⟩, ⟨by rw [hg 7 (by decide) (by decide)]; exact s1, s2.congr fun i hi => hh _ _ (by omega) (by omega), by rw [hg 8 (by decide) (by decide)]; exact s3⟩, ⟨by rw [hg 13 (by decide) (by decide)]; exact m1, m2.congr fun i hi => hh _ _ (by omega) (by omega)⟩, ⟨by rw [hg 38 (by decide) (by decide)]; exact t1, t2.congr fun i hi => hh _ _ (by omega) (by omega)⟩, ⟨by rw [hg 51 (by decide) (by decide)]; exact v1, v2.congr fun i hi => hh _ _ (by omega) (by omega)⟩, ⟨by rw [hg 64 (by decide) (by decide)]; exact n1, n2.congr fun i hi => hh _ _ (by omega) (by omega)⟩⟩
theorem LPm.nil {f : Nat → Int32} {o : Nat} : LPm f o [] := fun i m hm => by
  rw [List.getElem?_nil] at hm
  cases hm
theorem LNm.nil {f : Nat → Int32} {o : Nat} : LNm f o [] := fun i m hm => by
  rw [List.getElem?_nil] at hm
  cases hm
theorem snoc_at {α : Type} {l : List α} {x m : α} {i : Nat} (h : (l ++ [x])[i]? = some m) : (i < l.length ∧ l[i]? = some m) ∨ (i = l.length ∧ m = x) := by
  by_cases e : i < l.length
  · rw [List.getElem?_append_left e] at h
    exact Or.inl ⟨e, h⟩
  · have h2 := (List.getElem?_eq_some_iff.mp h).1
    rw [List.length_append] at h2
    have h3 : i < l.length + 1 := h2
    have e2 : i = l.length := by omega
    subst e2
    rw [List.getElem?_append_right (Nat.le_refl _), Nat.sub_self] at h
    exact Or.inr ⟨rfl, (Option.some.inj h).symm⟩
theorem LPm.snoc {f g : Nat → Int32} {o : Nat} {l : List Msg} {m : Msg} (h : LPm f o l) (hg : ∀ k, k < 2 * l.length → g (o + k) = f (o + k)) (hm : MM m (g (o + 2 * l.length)) (g (o + 2 * l.length + 1))) : LPm g o (l ++ [m]) := fun i q hq => by
  rcases snoc_at hq with ⟨e1, e2⟩ | ⟨e1, e2⟩
  · exact h.congr hg i q e2
  · rw [e1, e2]
    exact hm
theorem LNm.snoc {f g : Nat → Int32} {o : Nat} {l : List Int32} {v : Int32} (h : LNm f o l) (hg : ∀ k, k < l.length → g (o + k) = f (o + k)) (hm : g (o + l.length) = v) : LNm g o (l ++ [v]) := fun i q hq => by
  rcases snoc_at hq with ⟨e1, e2⟩ | ⟨e1, e2⟩
  · exact h.congr hg i q e2
  · rw [e1, e2]
    exact hm
/-- of which cells a message to a is told -/
def mfr (a : Nat) (f g : Nat → Int32) : Prop := ∀ j, j ≠ 927 → (j < 77 * a + 13 ∨ 77 * a + 38 ≤ j) → g j = f j
theorem m_send_ok {S : Mem} {f : Nat → Int32} {w : Wst} {a : Nat} {p n : Int32} {m : Msg} (h : RM en f w) (hI : Inv w) (ha : a < wN w) (hm : MM m p n) : ∃ f1, fm_sends (Int32.ofNat a) p n (gM S f) = some (if sLive w a = true ∧ (aMail (wA w a)).length < 12 then 1 else 0, gM S f1) ∧ RM en f1 (sSend w a m) ∧ mfr a f f1 := by
  have h12 := hI.1
  have hA := h.2.2.1 a ha
  have hx := hI.fit ha
  have hl := hI.mail ha
  unfold fm_sends sSend
  rw [at_13 (by omega), obs, m_isLive_ok h hI ha, obs, hA.2.2.1.1]
  by_cases e : sLive w a = true
  · rw [if_pos e, if_neg (by decide)]
    by_cases g : (aMail (wA w a)).length < 12
    · rw [if_neg (fun q => by rw [n12, n_inj (by omega) (by decide)] at q; omega), i14d, st_v (by omega) (by omega), obs, n_succ, st_v (by omega) (by omega), obs, n_succ, st_13 (by omega), obs, if_pos ⟨e, g⟩, if_pos ⟨e, g⟩]
      refine ⟨_, rfl, h.act hI (by omega) (hA.mail hx ?_ ?_ fun k q1 q2 => ?_) fun k q => ?_, fun j q1 q2 => ?_⟩
      · rw [upd_s, List.length_append]
        rfl
      · refine hA.2.2.1.2.snoc (fun k hk => ?_) ?_
        · rw [upd_n (by omega), upd_n (by omega), upd_n (by omega)]
        · rw [upd_n (by omega), upd_n (by omega), show 77 * a + 14 + 2 * (aMail (wA w a)).length = 77 * a + (14 + 2 * (aMail (wA w a)).length) by omega, upd_s, upd_n (by omega), show 77 * a + (14 + 2 * (aMail (wA w a)).length) + 1 = 77 * a + (14 + 2 * (aMail (wA w a)).length + 1) by omega, upd_s]
          exact hm
      · rw [upd_n (by omega), upd_n (by omega), upd_n (by omega)]
      · rw [upd_n (by omega), upd_n (by omega), upd_n (by omega)]
      · rw [upd_n (by omega), upd_n (by omega), upd_n (by omega)]
    · rw [if_pos (by rw [n12, n_inj (by omega) (by decide)]; omega), g_927, obs, gs_927, obs, if_neg (fun q => g q.2), if_neg (fun q => g q.2), h.2.1.2.2.1]
      exact ⟨_, rfl, h.i8 hI, fun j q1 q2 => upd_n q1⟩
  · rw [if_neg e, if_pos rfl, g_927, obs, gs_927, obs, if_neg (fun q => e q.1), if_neg (fun q => e q.1), h.2.1.2.2.1]
    exact ⟨_, rfl, h.i8 hI, fun j q1 q2 => upd_n q1⟩
/-! what comes back -/
def shD (f : Nat → Int32) (o r k M : Nat) : Nat → Int32 := fun j => if o + 2 * r + k ≤ j ∧ j < o + 2 * r + 2 * M then f (j - 2 * r) else f j
def cpU (f : Nat → Int32) (o s k : Nat) : Nat → Int32 := fun j => if o ≤ j ∧ j < o + k then f (s + (j - o)) else f j
theorem shD_step {f : Nat → Int32} {o r k M : Nat} (h : k < 2 * M) : upd (shD f o r (k + 1) M) (o + 2 * r + k) (shD f o r (k + 1) M (o + k)) = shD f o r k M := by
  have e : shD f o r (k + 1) M (o + k) = f (o + k) := by
    unfold shD
    rw [if_neg (by omega)]
  rw [e]
  funext j
  unfold upd shD
  by_cases e1 : j = o + 2 * r + k
  · rw [if_pos e1, if_pos (by omega), show j - 2 * r = o + k by omega]
  · rw [if_neg e1]
    by_cases e2 : o + 2 * r + (k + 1) ≤ j ∧ j < o + 2 * r + 2 * M
    · rw [if_pos e2, if_pos (by omega)]
    · rw [if_neg e2, if_neg (by omega)]
theorem shD_top {f : Nat → Int32} {o r M : Nat} : shD f o r (2 * M) M = f := by
  funext j
  unfold shD
  rw [if_neg (by omega)]
theorem cpU_0 {f : Nat → Int32} {o s : Nat} : cpU f o s 0 = f := by
  funext j
  unfold cpU
  rw [if_neg (by omega)]
theorem cpU_step {f : Nat → Int32} {o s k : Nat} (h : o + k ≤ s) : upd (cpU f o s k) (o + k) (cpU f o s k (s + k)) = cpU f o s (k + 1) := by
  have e : cpU f o s k (s + k) = f (s + k) := by
    unfold cpU
    rw [if_neg (by omega)]
  rw [e]
  funext j
  unfold upd cpU
  by_cases e1 : j = o + k
  · rw [if_pos e1, if_pos (by omega), show s + (j - o) = s + k by omega]
  · rw [if_neg e1]
    by_cases e2 : o ≤ j ∧ j < o + k
    · rw [if_pos e2, if_pos (by omega)]
    · rw [if_neg e2, if_neg (by omega)]
theorem back_41 {S : Mem} {f : Nat → Int32} {a M T r : Nat} (ha : a < 12) (hr : r + M ≤ 12) : ∀ (k n : Nat), k ≤ 2 * M → k < n → fm_comesBack_41 n (Int32.ofNat a) (Int32.ofNat M) (Int32.ofNat T) (Int32.ofNat r) (Int32.ofNat k - 1) (gM S (shD f (77 * a + 14) r k M)) = fm_comesBack_80 LF (Int32.ofNat a) (Int32.ofNat M) (Int32.ofNat T) (Int32.ofNat r) 0 (gM S (shD f (77 * a + 14) r 0 M))
  | _, 0, _, h => absurd h (Nat.not_lt_zero _)
  | 0, n + 1, _, _ => by
    show fm_comesBack_41b (fm_comesBack_41 n) _ _ _ _ (Int32.ofNat 0 - 1) _ = _
    unfold fm_comesBack_41b
    rw [if_pos (by decide)]
  | k + 1, n + 1, h, hn => by
    show fm_comesBack_41b (fm_comesBack_41 n) _ _ _ _ (Int32.ofNat (k + 1) - 1) _ = _
    unfold fm_comesBack_41b
    rw [n_sub1, if_neg (n_neg (by omega)), i14, at_v ha (by omega), obs, i14d, n_add, st_v ha (by omega), obs, n_pred, show 77 * a + (14 + 2 * r + k) = 77 * a + 14 + 2 * r + k by omega, show 77 * a + (14 + k) = 77 * a + 14 + k by omega, shD_step (by omega)]
    exact back_41 ha hr k n (by omega) (by omega)
theorem back_80 {S : Mem} {f : Nat → Int32} {a M T r : Nat} (ha : a < 12) (hr : r ≤ 6) : ∀ (m n k : Nat), k + m = 2 * r → m < n → fm_comesBack_80 n (Int32.ofNat a) (Int32.ofNat M) (Int32.ofNat T) (Int32.ofNat r) (Int32.ofNat k) (gM S (cpU f (77 * a + 14) (77 * a + 39) k)) = some (gM S (upd (upd (upd (cpU f (77 * a + 14) (77 * a + 39) (2 * r)) (77 * a + 13) (Int32.ofNat (M + r))) (77 * a + 38) 0) 927 (f 927 + (Int32.ofNat T - Int32.ofNat r))))
  | _, 0, _, _, h => absurd h (Nat.not_lt_zero _)
  | 0, n + 1, k, h, _ => by
    have e : k = 2 * r := by omega
    subst e
    show fm_comesBack_80b (fm_comesBack_80 n) _ _ _ _ (Int32.ofNat (2 * r)) _ = _
    unfold fm_comesBack_80b
    have e9 : upd (upd (cpU f (77 * a + 14) (77 * a + 39) (2 * r)) (77 * a + 13) (Int32.ofNat (M + r))) (77 * a + 38) 0 927 = f 927 := by
      rw [upd_n (by omega), upd_n (by omega)]
      unfold cpU
      rw [if_neg (by omega)]
    rw [im2, if_pos ((n_le (by omega) (by omega)).mpr (Nat.le_refl _)), n_add, st_13 ha, obs, st_38 ha, obs, g_927, obs, gs_927, obs, e9]
  | m + 1, n + 1, k, h, hn => by
    show fm_comesBack_80b (fm_comesBack_80 n) _ _ _ _ (Int32.ofNat k) _ = _
    unfold fm_comesBack_80b
    rw [im2, if_neg (fun q => by rw [n_le (by omega) (by omega)] at q; omega), i39, at_v ha (by omega), obs, i14, st_v ha (by omega), obs, n_succ, show 77 * a + (14 + k) = 77 * a + 14 + k by omega, show 77 * a + (39 + k) = 77 * a + 39 + k by omega, cpU_step (by omega)]
    exact back_80 ha hr m n (k + 1) (by omega) (by omega)
theorem m_back_ok {S : Mem} {f : Nat → Int32} {w : Wst} {a : Nat} (h : RM en f w) (hI : Inv w) (ha : a < wN w) : ∃ f1, fm_comesBack (Int32.ofNat a) (gM S f) = some (gM S f1) ∧ RM en f1 (sBack w a) := by
  have h12 := hI.1
  have hA := h.2.2.1 a ha
  have hx := hI.fit ha
  have hl := hI.mail ha
  have ht := hI.stash ha
  obtain ⟨M, hM⟩ : ∃ M, M = (aMail (wA w a)).length := ⟨_, rfl⟩
  obtain ⟨T, hT⟩ : ∃ T, T = (aStash (wA w a)).length := ⟨_, rfl⟩
  obtain ⟨r, hr⟩ : ∃ r, r = min T (12 - M) := ⟨_, rfl⟩
  have key : fm_comesBack (Int32.ofNat a) (gM S f) = some (gM S (upd (upd (upd (cpU (shD f (77 * a + 14) r 0 M) (77 * a + 14) (77 * a + 39) (2 * r)) (77 * a + 13) (Int32.ofNat (M + r))) (77 * a + 38) 0) 927 (shD f (77 * a + 14) r 0 M 927 + (Int32.ofNat T - Int32.ofNat r)))) := by
    have h41 := back_41 (S := S) (f := f) (a := a) (M := M) (T := T) (r := r) (by omega) (by omega) (2 * M) LF (Nat.le_refl _) (by show 2 * M < 3000; omega)
    rw [shD_top] at h41
    have h80 := back_80 (S := S) (f := shD f (77 * a + 14) r 0 M) (a := a) (M := M) (T := T) (r := r) (by omega) (by omega) (2 * r) LF 0 (Nat.zero_add _) (by show 2 * r < 3000; omega)
    rw [cpU_0] at h80
    rw [← h80]
    refine Eq.trans ?_ h41
    unfold fm_comesBack
    rw [at_13 (by omega), obs, at_38 (by omega), obs, hA.2.2.1.1, hA.2.2.2.1.1, ← hM, ← hT, n12, n_sub (by omega), im2]
    by_cases e : 12 - M ≤ T
    · rw [if_pos ((n_le (by omega) (by omega)).mpr e), show 12 - M = r by omega]
    · rw [if_neg (fun q => e ((n_le (by omega) (by omega)).mp q)), show Int32.ofNat T = Int32.ofNat r from by rw [show T = r by omega]]
  have e927 : shD f (77 * a + 14) r 0 M 927 = wI w 8 := by
    unfold shD
    rw [if_neg (by omega)]
    exact h.2.1.2.2.1
  rw [e927] at key
  refine ⟨_, key, ?_⟩
  have hb : sBack w a = wSI (wSA w a (aSStash (aSMail (wA w a) ((aStash (wA w a)).take r ++ aMail (wA w a))) [])) 8 (wI w 8 + (Int32.ofNat T - Int32.ofNat r)) := by
    unfold sBack
    dsimp only
    rw [← hT, ← hM, ← hr]
  rw [hb]
  have htk : ((aStash (wA w a)).take r).length = r := by
    rw [List.length_take]
    omega
  generalize hF : upd (upd (cpU (shD f (77 * a + 14) r 0 M) (77 * a + 14) (77 * a + 39) (2 * r)) (77 * a + 13) (Int32.ofNat (M + r))) (77 * a + 38) 0 = F
  have F13 : F (77 * a + 13) = Int32.ofNat (M + r) := by
    rw [← hF, upd_n (by omega), upd_s]
  have F38 : F (77 * a + 38) = 0 := by
    rw [← hF, upd_s]
  have Flo : ∀ i, i < 2 * r → F (77 * a + 14 + i) = f (77 * a + 39 + i) := fun i hi => by
    rw [← hF, upd_n (by omega), upd_n (by omega)]
    unfold cpU shD
    rw [if_pos (by omega), if_neg (by omega)]
    congr 1
    omega
  have Fhi : ∀ i, i < 2 * M → F (77 * a + 14 + 2 * r + i) = f (77 * a + 14 + i) := fun i hi => by
    rw [← hF, upd_n (by omega), upd_n (by omega)]
    unfold cpU shD
    rw [if_neg (by omega), if_pos (by omega)]
    congr 1
    omega
  have Foff : ∀ j, (j < 77 * a + 13 ∨ 77 * a + 39 ≤ j) → F j = f j := fun j hj => by
    rw [← hF, upd_n (by omega), upd_n (by omega)]
    unfold cpU shD
    rw [if_neg (by omega), if_neg (by omega)]
  have hlen : ((aStash (wA w a)).take r ++ aMail (wA w a)).length = M + r := by
    rw [List.length_append, htk, hM]
    omega
  let G : Nat → Int32 := upd F (77 * a + 38) (f (77 * a + 38))
  have hG : ∀ j, j ≠ 77 * a + 38 → G j = F j := fun j hj => upd_n hj
  have q1 : RMA G a (aSMail (wA w a) ((aStash (wA w a)).take r ++ aMail (wA w a))) := by
    refine hA.mail hx ?_ ?_ fun k g1 g2 => ?_
    · rw [hG _ (by omega), F13, hlen]
    · intro i m hm
      by_cases e : i < r
      · rw [List.getElem?_append_left (by omega), List.getElem?_take_of_lt e] at hm
        rw [hG _ (by omega), hG _ (by omega), Flo _ (by omega), show 77 * a + 14 + 2 * i + 1 = 77 * a + 14 + (2 * i + 1) by omega, Flo _ (by omega)]
        exact hA.2.2.2.1.2 i m hm
      · have hi := (List.getElem?_eq_some_iff.mp hm).1
        rw [hlen] at hi
        rw [List.getElem?_append_right (by omega), htk] at hm
        rw [hG _ (by omega), hG _ (by omega), show 77 * a + 14 + 2 * i = 77 * a + 14 + 2 * r + 2 * (i - r) by omega, Fhi _ (by omega), show 77 * a + 14 + 2 * r + 2 * (i - r) + 1 = 77 * a + 14 + 2 * r + (2 * (i - r) + 1) by omega, Fhi _ (by omega)]
        exact hA.2.2.1.2 (i - r) m hm
    · by_cases e : k = 38
      · rw [e]
        exact upd_s
      · rw [hG _ (by omega), Foff _ (by omega)]
  have hx2 : fitA (aSMail (wA w a) ((aStash (wA w a)).take r ++ aMail (wA w a))) := ⟨hx.1, by show ((aStash (wA w a)).take r ++ aMail (wA w a)).length ≤ 12; rw [hlen]; omega, hx.2.2.1, hx.2.2.2.1, hx.2.2.2.2⟩
  have q2 : RMA F a (aSStash (aSMail (wA w a) ((aStash (wA w a)).take r ++ aMail (wA w a))) []) := q1.stash hx2 F38 LPm.nil fun k g1 g2 => (hG _ (by omega)).symm
  have q3 : RM en F (wSA w a (aSStash (aSMail (wA w a) ((aStash (wA w a)).take r ++ aMail (wA w a))) [])) := h.act hI (by omega) q2 fun k g1 => Foff _ (by omega)
  have q4 : Inv (wSA w a (aSStash (aSMail (wA w a) ((aStash (wA w a)).take r ++ aMail (wA w a))) [])) := by
    obtain ⟨p1, p2, p3, p4, p5, p6, p7, p8, p9, p10, p11⟩ := hI.2.1 a ha
    refine hI.act ⟨p1, p2, p3, p4, p5, p6, p7, ⟨by show ((aStash (wA w a)).take r ++ aMail (wA w a)).length ≤ 12; rw [hlen]; omega, fun m hm => ?_⟩, ⟨by show ([] : List Msg).length ≤ 6; decide, fun m hm => by cases hm⟩, p10, p11⟩
    have hm2 : m ∈ (aStash (wA w a)).take r ++ aMail (wA w a) := hm
    rcases List.mem_append.mp hm2 with q | q
    · exact (p9.2 m (List.mem_of_mem_take q)).1
    · exact p8.2 m q
  exact q3.i8 q4
