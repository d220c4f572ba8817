/-! 42, piece 5 -/
variable {en : Int32}
theorem m_forget_ok {S : Mem} {f : Nat → Int32} {w : Wst} {a : Nat} (h : RM en f w) (hI : Inv w) (ha : a < wN w) : ∃ f1, fm_forgets (Int32.ofNat a) (gM S f) = some (gM S f1) ∧ RM en f1 (sForget w a) := by
  have h12 := hI.1
  have hA := h.2.2.1 a ha
  have hx := hI.fit ha
  let f' := upd (upd f (77 * a + 7) 1) (77 * a + 64) 0
  have hf : ∀ j, j ≠ 77 * a + 7 → j ≠ 77 * a + 64 → f' j = f j := fun j q1 q2 => (upd_n q2).trans (upd_n q1)
  have h7 : f' (77 * a + 7) = 1 := (upd_n (by omega)).trans upd_s
  have h64 : f' (77 * a + 64) = 0 := upd_s
  let f2 := upd f (77 * a + 7) 1
  have a1 : RMA f2 a (aSStk (wA w a) [aI (wA w a) 1]) := hA.stk hx upd_s (fun i q hq => by
    have hi := (List.getElem?_eq_some_iff.mp hq).1
    have hi0 : i = 0 := by
      have : i < 1 := hi
      omega
    subst hi0
    rw [List.getElem?_cons_zero] at hq
    rw [← Option.some.inj hq]
    exact (upd_n (by omega)).trans hA.2.1.2.2) ((upd_n (by omega)).trans hA.2.1.2.2) fun k q1 q2 => upd_n (by omega)
  have hx1 : fitA (aSStk (wA w a) [aI (wA w a) 1]) := ⟨by show 1 ≤ 5; decide, hx.2⟩
  have a2 : RMA f' a (aKeep (wA w a)) := a1.notes hx1 h64 LNm.nil fun k q => upd_n (by omega)
  have r1 : RM en f' (wSA w a (aKeep (wA w a))) := h.act hI (by omega) a2 fun k q => hf k (by omega) (by omega)
  have i1 : Inv (wSA w a (aKeep (wA w a))) := hI.act (okA_keep (hI.2.1 a ha))
  obtain ⟨tl, t1, t2, t3, -⟩ := r1.tl i1
  obtain ⟨g1, q1, q2, q3⟩ := m_fg_loop (S := S) (a := a) (by omega) t3 tl.length LF 0 f' (Nat.zero_add _) (by show _ < 3000; omega) t1.1 (fun i hi => absurd hi (Nat.not_lt_zero _)) (fun i _ hi => t1.2 i hi)
  refine ⟨g1, ?_, ?_⟩
  · unfold fm_forgets
    rw [st_7 (by omega), obs, st_64 (by omega), obs]
    exact q1
  · have := r1.tim i1 q2 q3
    rw [tSort_filter, ← t2] at this
    exact this
