/-! 25: what the steps of the document leave as it is -/
theorem xup_s {α : Type} {f : Nat → α} {i : Nat} {v : α} : xup f i v i = v := if_pos rfl
theorem xup_n {α : Type} {f : Nat → α} {i j : Nat} {v : α} (h : j ≠ i) : xup f i v j = f j := if_neg h
theorem Inv.act {w : Wst} {a : Nat} {x : Act} (h : Inv w) (hx : okA (wN w) a x) : Inv (wSA w a x) := by
  obtain ⟨h1, h2, h3, h4, h5, h6⟩ := h
  refine ⟨h1, fun b hb => ?_, h3, h4, h5, h6⟩
  show okA (wN w) b (xup (wA w) a x b)
  by_cases e : b = a
  · rw [e, xup_s]
    exact hx
  · rw [xup_n e]
    exact h2 b hb
theorem Inv.int8 {w : Wst} {k : Nat} {v : Int32} (h : Inv w) (hk : k ≠ 5) : Inv (wSI w k v) := by
  obtain ⟨h1, h2, h3, h4, h5, h6⟩ := h
  refine ⟨h1, h2, h3, h4, h5, ?_⟩
  show upd (wI w) k v 5 = -1 ∨ okN 12 (upd (wI w) k v 5)
  unfold upd
  rw [if_neg (Ne.symm hk)]
  exact h6
theorem Inv.tim {w : Wst} {l : List Tmr} (h : Inv w) (hl : l.length ≤ 10) (hs : tSorted l) (ht : ∀ t ∈ l, okT w t) : Inv (wST w l) := ⟨h.1, h.2.1, ⟨hl, hs, ht⟩, h.2.2.2⟩
/-- all but mailboxes and letters -/
def Kp (w w1 : Wst) : Prop := wN w1 = wN w ∧ (∀ b, aI (wA w1 b) = aI (wA w b) ∧ aStk (wA w1 b) = aStk (wA w b) ∧ aStash (wA w1 b) = aStash (wA w b) ∧ aWat (wA w1 b) = aWat (wA w b) ∧ aNot (wA w1 b) = aNot (wA w b)) ∧ wT w1 = wT w ∧ wL w1 = wL w ∧ wC w1 = wC w ∧ ∀ k, k ≠ 8 → wI w1 k = wI w k
theorem Kp.refl {w : Wst} : Kp w w := ⟨rfl, fun _ => ⟨rfl, rfl, rfl, rfl, rfl⟩, rfl, rfl, rfl, fun _ _ => rfl⟩
theorem Kp.trans {w w1 w2 : Wst} (h : Kp w w1) (k : Kp w1 w2) : Kp w w2 := by
  obtain ⟨h1, h2, h3, h4, h5, h6⟩ := h
  obtain ⟨k1, k2, k3, k4, k5, k6⟩ := k
  exact ⟨k1.trans h1, fun b => ⟨(k2 b).1.trans (h2 b).1, (k2 b).2.1.trans (h2 b).2.1, (k2 b).2.2.1.trans (h2 b).2.2.1, (k2 b).2.2.2.1.trans (h2 b).2.2.2.1, (k2 b).2.2.2.2.trans (h2 b).2.2.2.2⟩, k3.trans h3, k4.trans h4, k5.trans h5, fun j hj => (k6 j hj).trans (h6 j hj)⟩
theorem Kp.live {w w1 : Wst} (h : Kp w w1) (b : Nat) : sLive w1 b = sLive w b := by
  unfold sLive
  rw [h.1, (h.2.1 b).1]
theorem Kp.lc {w w1 : Wst} (h : Kp w w1) (b a : Nat) : sLC w1 b a = sLC w b a := by
  unfold sLC
  rw [h.live, (h.2.1 b).1]
theorem sSend_kp (w : Wst) (a : Nat) (m : Msg) : Kp w (sSend w a m) := by
  unfold sSend
  split
  · refine ⟨rfl, fun b => ?_, rfl, rfl, rfl, fun _ _ => rfl⟩
    show aI (xup (wA w) a _ b) = _ ∧ aStk (xup (wA w) a _ b) = _ ∧ aStash (xup (wA w) a _ b) = _ ∧ aWat (xup (wA w) a _ b) = _ ∧ aNot (xup (wA w) a _ b) = _
    by_cases e : b = a
    · rw [e, xup_s]
      exact ⟨rfl, rfl, rfl, rfl, rfl⟩
    · rw [xup_n e]
      exact ⟨rfl, rfl, rfl, rfl, rfl⟩
  · refine ⟨rfl, fun b => ⟨rfl, rfl, rfl, rfl, rfl⟩, rfl, rfl, rfl, fun k hk => ?_⟩
    show upd (wI w) 8 _ k = _
    unfold upd
    rw [if_neg hk]
/-- a mailbox of one that isn't live stays -/
theorem sSend_mail {w : Wst} {a b : Nat} {m : Msg} (h : sLive w b = false ∨ b ≠ a) : aMail (wA (sSend w a m) b) = aMail (wA w b) := by
  unfold sSend
  split
  · rename_i g
    show aMail (xup (wA w) a _ b) = _
    have e : b ≠ a := fun e => by
      rcases h with h | h
      · rw [e, g.1] at h
        cases h
      · exact h e
    rw [xup_n e]
  · rfl
theorem sSend_inv {w : Wst} {a : Nat} {m : Msg} (h : Inv w) (hm : okM (wN w) m) : Inv (sSend w a m) := by
  unfold sSend
  split
  · rename_i g
    have ha := (sLive_lt g.1).1
    obtain ⟨p1, p2, p3, p4, p5, p6, p7, p8, p9, p10, p11⟩ := h.2.1 a ha
    refine h.act ⟨p1, p2, p3, p4, p5, p6, p7, ⟨?_, fun q hq => ?_⟩, p9, p10, p11⟩
    · show (aMail (wA w a) ++ [m]).length ≤ 12
      rw [List.length_append]
      exact g.2
    · rcases List.mem_append.mp hq with hq | hq
      · exact p8.2 q hq
      · rw [List.mem_singleton.mp hq]
        exact hm
  · exact h.int8 (by decide)
theorem Kp.tree {w w1 : Wst} (h : Kp w w1) (ht : Tree w) (hm : ∀ b, sLive w b = false → aMail (wA w1 b) = aMail (wA w b)) : Tree w1 := by
  obtain ⟨t1, t2, t3⟩ := ht
  obtain ⟨h1, h2, h3, h4, h5, h6⟩ := h
  have hl := Kp.live (w := w) (w1 := w1) ⟨h1, h2, h3, h4, h5, h6⟩
  refine ⟨fun b hb g h0 => ?_, fun t g => ?_, fun b hb g => ?_⟩
  · rw [hl, (h2 b).1]
    rw [(h2 b).1] at g
    exact t1 b (by rw [← h1]; exact hb) g h0
  · rw [hl]
    rw [h3] at g
    exact t2 t g
  · rw [(h2 b).1] at g
    have hb2 : b < wN w := by rw [← h1]; exact hb
    have := t3 b hb2 g
    rw [hm b (by
      unfold sLive
      simp [g]), (h2 b).2.2.2.2]
    exact this
theorem sSend_tree {w : Wst} {a : Nat} {m : Msg} (h : Tree w) : Tree (sSend w a m) := (sSend_kp w a m).tree h fun b hb => sSend_mail (Or.inl hb)
theorem Kp.bud {w w1 : Wst} (h : Kp w w1) (hb : Bud w) : Bud w1 := fun b g => by
  rw [(h.2.1 b).1, (h.2.1 b).2.2.2.2]
  exact hb b (by rw [← h.1]; exact g)
theorem sTell_kp (a : Nat) : ∀ (l : List Int32) (w : Wst), Kp w (sTell w a l)
  | [], _ => Kp.refl
  | q :: l, w => (sSend_kp w (nu q) (-1, 200 + Int32.ofNat a)).trans (sTell_kp a l _)
theorem sTell_mail (a : Nat) {b : Nat} : ∀ (l : List Int32) (w : Wst), sLive w b = false → aMail (wA (sTell w a l) b) = aMail (wA w b)
  | [], _, _ => rfl
  | q :: l, w, h => (sTell_mail a l _ (by rw [(sSend_kp w (nu q) (-1, 200 + Int32.ofNat a)).live]; exact h)).trans (sSend_mail (Or.inl h))
theorem okM_death {n a : Nat} (ha : a < 12) : okM n (-1, 200 + Int32.ofNat a) := ⟨Or.inl rfl, Or.inr ⟨a, ha, rfl⟩⟩
theorem sTell_inv {a : Nat} (ha : a < 12) : ∀ (l : List Int32) (w : Wst), Inv w → Inv (sTell w a l)
  | [], _, h => h
  | q :: l, w, h => sTell_inv ha l _ (sSend_inv h (okM_death ha))
theorem okA_keep {n b : Nat} {x : Act} (h : okA n b x) : okA n b (aKeep x) := by
  obtain ⟨p1, p2, p3, p4, p5, p6, p7, p8, p9, p10, p11⟩ := h
  refine ⟨p1, p2, p3, p4, p5, p6, ⟨Nat.le_refl 1, by show 1 ≤ 5; decide, fun q hq => ?_⟩, p8, p9, p10, by show ([] : List Int32).length ≤ 10; decide⟩
  rw [List.mem_singleton.mp hq]
  exact p2
theorem sForget_inv {w : Wst} {a : Nat} (h : Inv w) (ha : a < wN w) : Inv (sForget w a) := by
  have h1 := h.act (okA_keep (h.2.1 a ha))
  exact h1.tim (Nat.le_trans (List.length_filter_le _ _) h.2.2.1.1) (h.2.2.1.2.1.filter _) fun t ht => h.2.2.1.2.2 t ((List.mem_filter.mp ht).1)
theorem sUnwatch_inv {w : Wst} {a : Nat} (h : Inv w) : Inv (sUnwatch w a) := by
  obtain ⟨h1, h2, h3, h4, h5, h6⟩ := h
  refine ⟨h1, fun b hb => ?_, h3, h4, h5, h6⟩
  show okA (wN w) b (if b < wN w then _ else _)
  have hb2 : b < wN w := hb
  rw [if_pos hb2]
  obtain ⟨p1, p2, p3, p4, p5, p6, p7, p8, p9, p10, p11⟩ := h2 b hb2
  exact ⟨p1, p2, p3, p4, p5, p6, p7, p8, p9, ⟨p10.1.filter _, fun q hq => p10.2 q ((List.mem_filter.mp hq).1)⟩, p11⟩
theorem okA_dead {n b : Nat} {x : Act} (h : okA n b x) : okA n b (aSStash (aSMail (aSI x 6 0) []) []) := by
  obtain ⟨p1, p2, p3, p4, p5, p6, p7, p8, p9, p10, p11⟩ := h
  exact ⟨p1, p2, p3, p4, p5, Or.inl rfl, p7, ⟨by show ([] : List Msg).length ≤ 12; decide, fun m hm => by cases hm⟩, ⟨by show ([] : List Msg).length ≤ 6; decide, fun m hm => by cases hm⟩, p10, p11⟩
theorem okA_nowat {n b : Nat} {x : Act} (h : okA n b x) : okA n b (aSWat x []) := by
  obtain ⟨p1, p2, p3, p4, p5, p6, p7, p8, p9, p10, p11⟩ := h
  exact ⟨p1, p2, p3, p4, p5, p6, p7, p8, p9, ⟨List.nodup_nil, fun q hq => by cases hq⟩, p11⟩
theorem sStop1_inv {w : Wst} {a : Nat} (h : Inv w) (ha : a < wN w) : Inv (sStop1 w a) := by
  have h1 : Inv (wSA w a (aSStash (aSMail (aSI (wA w a) 6 0) []) [])) := h.act (okA_dead (h.2.1 a ha))
  have h2 := sUnwatch_inv (a := a) (sForget_inv h1 ha)
  have ha12 : a < 12 := by have := h.1; omega
  unfold sStop1
  generalize hw2 : sUnwatch (sForget (wSA w a (aSStash (aSMail (aSI (wA w a) 6 0) []) [])) a) a = w2 at h2
  have hn2 : wN w2 = wN w := by rw [← hw2]; rfl
  have h3 := sTell_inv ha12 (aWat (wA w2 a)) w2 h2
  have hk := sTell_kp a (aWat (wA w2 a)) w2
  exact h3.act (okA_nowat (h3.2.1 a (by rw [hk.1, hn2]; exact ha)))
